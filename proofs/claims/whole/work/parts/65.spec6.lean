/-! rule, ends, readers: the methods. -/
abbrev kdf (fi la va : Nat → Int32) (k : Nat) (tx : Nat → Int32) : Nat → Int32 := fun i => rg fi la va k (tx i)
section KD
variable {fi la va tx : Nat → Int32} {k : Nat}
theorem s_X7_kindAt {post : Int32 → Prop} {i : Nat} (hk : k ≤ 60) (hi : i < 1000) (h : post (kdf fi la va k tx i)) : w_X7_kindAt post (nI k) fi la va tx (nI i) := by
  refine ⟨vp_in_nI hi (by decide), s_X7_kind hk ?_⟩
  rw [nI_clamp (by omega)]
  exact h
theorem s_X7_pic {post : Int32 → Prop} (hk : k ≤ 60) {j : Nat} (hj : j ≤ 1000) (h : post (b1 (bp (kdf fi la va k tx) j))) : w_X7_isPictureBefore post (nI k) fi la va tx (nI j) := by
  have main : ∀ j, j ≤ 1000 → post (b1 (bp (kdf fi la va k tx) j)) → w_X7_isPictureBefore_4 post (fun x => w_X7_isPictureBefore_23 post (nI k) fi la va tx x) (nI k) fi la va tx (j + 1) (nI j - 1) := by
    intro j
    induction j with
    | zero =>
      intro _ h
      exact ⟨fun _ => ⟨fun _ => h, fun z => absurd (by decide) z⟩, fun z => absurd (by decide) z⟩
    | succ j ih =>
      intro hj h
      rw [nI_pred]
      refine ⟨fun z => absurd z (nI_pos (by omega)), fun _ => s_X7_kindAt hk (by omega) ⟨fun z => ⟨fun y => absurd y (nI_pos (by omega)), fun _ => s_X7_kindAt hk (by omega) ⟨fun y => ?_, fun y => ?_⟩⟩, fun z => ?_⟩⟩
      · have e : bp (kdf fi la va k tx) (j + 1) = false := by simp [bp, z, y]
        rw [e] at h; exact h
      · have e : bp (kdf fi la va k tx) (j + 1) = true := by simp [bp, y]
        rw [e] at h; exact h
      · rw [i_m1]
        refine ih (by omega) ?_
        have e : bp (kdf fi la va k tx) (j + 1) = bp (kdf fi la va k tx) j := by simp [bp, z]
        rw [← e]; exact h
  exact ⟨j + 1, main j hj h⟩
theorem fl_s (kd : Nat → Int32) (y : Nat) : fl kd (y + 1) = if kd y = 6 then fl kd y + 1 else 0 := rfl
theorem s_X7_flags {post : Int32 → Prop} (hk : k ≤ 60) {p : Nat} (hp : p ≤ 1000) (h : post (nI (fl (kdf fi la va k tx) p))) : w_X7_flagsBefore post (nI k) fi la va tx (nI p) := by
  have main : ∀ r x, x + r = p → fl (kdf fi la va k tx) p = x + fl (kdf fi la va k tx) (p - x) → w_X7_flagsBefore_2 post (nI k) fi la va tx (nI p) (r + 1) (nI x) := by
    intro r
    induction r with
    | zero =>
      intro x hx e
      obtain rfl : x = p := by omega
      rw [Nat.sub_self] at e
      have e : fl (kdf fi la va k tx) x = x := e
      rw [e] at h
      exact ⟨fun _ => h, fun z => absurd (Int32.le_refl _) z⟩
    | succ r ih =>
      intro x hx e
      obtain ⟨y, hy⟩ : ∃ y, p - x = y + 1 := ⟨p - x - 1, by omega⟩
      have e2 : nI p - 1 - nI x = nI y := by
        rw [show (1 : Int32) = nI 1 from rfl, pk_sub (by omega), pk_sub (by omega)]
        congr 1; omega
      refine ⟨fun z => ?_, fun _ => ?_⟩
      · rw [nI_leI (by omega) (by omega)] at z; omega
      · rw [e2]
        rw [hy, fl_s] at e
        refine s_X7_kindAt hk (by omega) ⟨fun z => ?_, fun z => ?_⟩
        · rw [if_neg z] at e
          rw [show fl (kdf fi la va k tx) p = x from e] at h
          exact h
        · rw [if_pos z] at e
          rw [nI_1]
          refine ih (x + 1) (by omega) ?_
          rw [show p - (x + 1) = y by omega]
          omega
  exact ⟨p + 1, main p 0 (by omega) (by rw [Nat.sub_zero, Nat.zero_add])⟩
/-- the rule for a place between two characters -/
abbrev rl (kd : Nat → Int32) (p : Nat) : Int32 := rb (bf kd p) (decide (fl kd p % 2 = 1)) (jp kd p) (kd p)
theorem s_X7_ruleAt {post : Int32 → Prop} (hk : k ≤ 60) {t p : Nat} (ht : t ≤ 1000) (hp : p ≤ t) (h1 : p = 0 → post 1) (h2 : ¬ p = 0 → p = t → post 2) (h0 : ¬ p = 0 → p < t → post (rl (kdf fi la va k tx) p)) : w_X7_ruleAt post (nI k) (nI t) fi la va tx (nI p) := by
  refine ⟨fun z => ⟨fun y => ?_, fun y => ?_⟩, fun z => h1 ?_⟩
  · have z : ¬ p = 0 := fun q => z (by rw [q]; rfl)
    rw [nI_eq (by omega) (by omega)] at y
    have h := h0 z (by omega)
    obtain ⟨q, rfl⟩ : ∃ q, p = q + 1 := ⟨p - 1, by omega⟩
    rw [nI_pred]
    generalize hkd : kdf fi la va k tx = kd at h
    have ha : kdf fi la va k tx q = kd q := by rw [hkd]
    have hb : kdf fi la va k tx (q + 1) = kd (q + 1) := by rw [hkd]
    refine s_X7_kindAt hk (by omega) (s_X7_kindAt hk (by omega) ?_)
    rw [ha, hb]
    have h : post (rb (kd q) (decide (fl kd (q + 1) % 2 = 1)) (jp kd (q + 1)) (kd (q + 1))) := h
    have r197 : rb (kd q) (decide (fl kd (q + 1) % 2 = 1)) (jp kd (q + 1)) (kd (q + 1)) = (if decide (fl kd (q + 1) % 2 = 1) = true ∧ kd (q + 1) = 6 then 12 else 999) → w_X7_ruleAt_197 post (nI k) fi la va tx (nI (q + 1)) (kd q) (kd (q + 1)) := by
      intro e
      rw [e] at h
      refine ⟨fun z => ?_, fun z => ⟨fun y => ?_, fun y => s_X7_flags hk (by omega) ?_⟩⟩
      · have e0 : fl kd (q + 1) = 0 := by unfold fl; rw [if_neg z]
        rw [e0] at h
        exact h
      · rwa [if_neg (fun w => y w.2)] at h
      · rw [hkd]
        have e3 := odd_i (f := fl kd (q + 1)) (by have := fl_le kd (q + 1); omega)
        refine ⟨fun w => ?_, fun w => ?_⟩
        · rw [e3] at w
          rwa [if_neg (fun v => w (of_decide_eq_true v.1))] at h
        · rw [e3] at w
          rwa [if_pos ⟨decide_eq_true w, y⟩] at h
    generalize kd (q + 1) = b at h r197
    have hjp : jp kd (q + 1) = (decide (kd q = 5) && bp kd q) := rfl
    have hbp : ∀ {P : Int32 → Prop}, P (b1 (bp kd q)) → w_X7_isPictureBefore P (nI k) fi la va tx (nI (q + 1) - 1) := by
      intro P hP
      rw [nI_pred]
      exact s_X7_pic hk (by omega) (by rw [hkd]; exact hP)
    generalize jp kd (q + 1) = jj at h r197 hjp
    generalize bp kd q = bb at hbp hjp
    generalize decide (fl kd (q + 1) % 2 = 1) = ff at h r197
    generalize kd q = a at h r197 hjp
    subst hjp
    by_cases hc : a = 1 ∧ b = 2
    · unfold rb at h
      rw [if_pos hc] at h
      exact ⟨fun z => absurd hc.1 z, fun _ => ⟨fun z => absurd hc.2 z, fun _ => h⟩⟩
    · have key : w_X7_ruleAt_42 post (nI k) fi la va tx (nI (q + 1)) a b := by
        refine s_X7_isIn3 ?_
        by_cases h1 : a = 1 ∨ a = 2 ∨ a = 3
        · rw [if_pos h1]
          refine c_1 ?_
          unfold rb at h
          rwa [if_neg hc, if_pos h1] at h
        · rw [if_neg h1]
          refine c_0 (s_X7_isIn3 ?_)
          by_cases h2 : b = 1 ∨ b = 2 ∨ b = 3
          · rw [if_pos h2]
            refine c_1 ?_
            unfold rb at h
            rwa [if_neg hc, if_neg h1, if_pos h2] at h
          · rw [if_neg h2]
            refine c_0 ?_
            unfold rb at h r197
            rw [if_neg hc, if_neg h1, if_neg h2] at h r197
            have r142 : ¬ (a = 9 ∧ (b = 9 ∨ b = 10 ∨ b = 12 ∨ b = 13)) → ¬ ((a = 12 ∨ a = 10) ∧ (b = 10 ∨ b = 11)) → ¬ ((a = 13 ∨ a = 11) ∧ b = 11) → w_X7_ruleAt_142 post (nI k) fi la va tx (nI (q + 1)) a b := by
              intro q1 q2 q3
              rw [if_neg q1, if_neg q2, if_neg q3] at h r197
              unfold w_X7_ruleAt_142
              refine ⟨fun z => ?_, fun z => ⟨fun y => ⟨fun x => ⟨fun w => ?_, fun w => ?_⟩, fun x => ?_⟩, fun y => ?_⟩⟩
              · rwa [if_pos (Or.inl z)] at h
              · rw [if_neg (fun q => q.elim z y), if_neg x, if_neg w] at h r197
                refine ⟨fun v => r197 ?_, fun v => ⟨fun u => r197 ?_, fun u => hbp ?_⟩⟩
                · rw [if_neg (fun q => by simp [v] at q)]
                · rw [if_neg (fun q => u q.2)]
                · cases bb
                  · refine c_0 (r197 ?_)
                    rw [if_neg (fun q => by simp at q)]
                  · refine c_1 ?_
                    rwa [if_pos ⟨by simp [v], u⟩] at h
              · rwa [if_neg (fun q => q.elim z y), if_neg x, if_pos w] at h
              · rwa [if_neg (fun q => q.elim z y), if_pos x] at h
              · rwa [if_pos (Or.inr y)] at h
            have r133 : (a = 13 ∨ a = 11) → ¬ (a = 9 ∧ (b = 9 ∨ b = 10 ∨ b = 12 ∨ b = 13)) → ¬ ((a = 12 ∨ a = 10) ∧ (b = 10 ∨ b = 11)) → w_X7_ruleAt_133 post (nI k) fi la va tx (nI (q + 1)) a b := by
              intro q0 q1 q2
              refine ⟨fun z => r142 q1 q2 (fun q => z q.2), fun z => ?_⟩
              rwa [if_neg q1, if_neg q2, if_pos ⟨q0, z⟩] at h
            have r121 : ¬ (a = 9 ∧ (b = 9 ∨ b = 10 ∨ b = 12 ∨ b = 13)) → ¬ ((a = 12 ∨ a = 10) ∧ (b = 10 ∨ b = 11)) → w_X7_ruleAt_121 post (nI k) fi la va tx (nI (q + 1)) a b :=
              fun q1 q2 => ⟨fun z => r133 (Or.inl z) q1 q2, fun z => ⟨fun y => r142 q1 q2 (fun q => q.1.elim z y), fun y => r133 (Or.inr y) q1 q2⟩⟩
            have r106 : (a = 12 ∨ a = 10) → ¬ (a = 9 ∧ (b = 9 ∨ b = 10 ∨ b = 12 ∨ b = 13)) → w_X7_ruleAt_106 post (nI k) fi la va tx (nI (q + 1)) a b := by
              intro q0 q1
              refine ⟨fun z => ?_, fun z => ⟨fun y => r121 q1 (fun q => q.2.elim z y), fun y => ?_⟩⟩
              · rwa [if_neg q1, if_pos ⟨q0, Or.inl z⟩] at h
              · rwa [if_neg q1, if_pos ⟨q0, Or.inr y⟩] at h
            have r94 : ¬ (a = 9 ∧ (b = 9 ∨ b = 10 ∨ b = 12 ∨ b = 13)) → w_X7_ruleAt_94 post (nI k) fi la va tx (nI (q + 1)) a b :=
              fun q1 => ⟨fun z => r106 (Or.inl z) q1, fun z => ⟨fun y => r121 q1 (fun q => q.1.elim z y), fun y => r106 (Or.inr y) q1⟩⟩
            refine ⟨fun z => r94 (fun q => z q.1), fun z => ⟨fun y => ?_, fun y => s_X7_isIn3 ?_⟩⟩
            · rwa [if_pos ⟨z, Or.inr (Or.inr (Or.inr y))⟩] at h
            · by_cases h3 : b = 9 ∨ b = 10 ∨ b = 12
              · rw [if_pos h3]
                refine c_1 ?_
                rwa [if_pos ⟨z, by rcases h3 with h3 | h3 | h3 <;> simp [h3]⟩] at h
              · rw [if_neg h3]
                refine c_0 (r94 (fun q => ?_))
                rcases q.2 with q | q | q | q
                · exact h3 (Or.inl q)
                · exact h3 (Or.inr (Or.inl q))
                · exact h3 (Or.inr (Or.inr q))
                · exact y q
      exact ⟨fun _ => key, fun z => ⟨fun _ => key, fun y => absurd ⟨z, y⟩ hc⟩⟩
  · have z : ¬ p = 0 := fun q => z (by rw [q]; rfl)
    rw [nI_eq (by omega) (by omega)] at y
    exact h2 z y
  · rw [show (0 : Int32) = nI 0 from rfl, nI_eq (by omega) (by decide)] at z
    exact z
end KD
/-- whether a rule says that a reader's character ends -/
abbrev isE (r : Int32) : Prop := r = 1 ∨ r = 2 ∨ r = 4 ∨ r = 5 ∨ r = 999
theorem s_X3_isEnd {post : Int32 → Prop} {a : Int32} (h : post (if isE a then 1 else 0)) : w_X3_isEnd post a := by
  unfold w_X3_isEnd
  grind
theorem rl_ne1 (kd : Nat → Int32) (p : Nat) : ¬ rl kd p = 1 ∧ ¬ rl kd p = 2 := by
  unfold rl rb
  repeat' split
  all_goals decide
section KE
variable {fi la va tx : Nat → Int32} {k : Nat}
theorem s_X7_endsAt {post : Int32 → Prop} (hk : k ≤ 60) {t p : Nat} (ht : t ≤ 1000) (hp : p ≤ t) (h1 : p = 0 → post (if t = 0 then 0 else 1)) (h2 : ¬ p = 0 → p = t → post 1) (h0 : ¬ p = 0 → p < t → post (if isE (rl (kdf fi la va k tx) p) then 1 else 0)) : w_X7_endsAt post (nI k) (nI t) fi la va tx (nI p) := by
  refine s_X7_ruleAt hk ht hp (fun z => ?_) (fun z y => ?_) (fun z y => ?_)
  · have h := h1 z
    refine ⟨fun w => absurd rfl w, fun _ => ⟨fun w => ?_, fun w => ?_⟩⟩
    · rw [show (0 : Int32) = nI 0 from rfl, nI_leI (by omega) (by decide)] at w
      rwa [if_pos (by omega)] at h
    · rw [show (0 : Int32) = nI 0 from rfl, nI_leI (by omega) (by decide)] at w
      rwa [if_neg (by omega)] at h
  · exact ⟨fun _ => ⟨fun _ => h2 z y, fun w => absurd rfl w⟩, fun w => absurd w (by decide)⟩
  · have h := h0 z y
    obtain ⟨n1, n2⟩ := rl_ne1 (kdf fi la va k tx) p
    generalize rl (kdf fi la va k tx) p = r at h n1 n2
    refine ⟨fun _ => ⟨fun w => absurd w n2, fun _ => ?_⟩, fun w => absurd w n1⟩
    grind
/-- the class's walk over the text: the reader behind i characters -/
theorem s_X6_ruleAt {post : Int32 → Int32 → Int32 → Int32 → Int32 → Prop} (hk : k ≤ 60) {t p : Nat} (ht : t ≤ 1000) (hp : p ≤ t) {r1 r2 r3 r4 : Int32} (h : ∀ a b c d r, (r = if p = 0 then 1 else if p = t then 2 else rl (kdf fi la va k tx) p) → post r a b c d) : w_X6_ruleAt post (nI t) (nI k) fi la va r1 r2 r3 r4 tx (nI p) := by
  refine ⟨fun z => ⟨fun y => ?_, fun y => h _ _ _ _ _ ?_⟩, fun z => h _ _ _ _ _ ?_⟩
  · have z : ¬ p = 0 := fun q => z (by rw [q]; rfl)
    rw [nI_ltI (by omega) (by omega)] at y
    have h := fun a b c d => h a b c d _ rfl
    rw [if_neg z, if_neg (by omega)] at h
    have main : ∀ r i, i + r = p → w_X6_ruleAt_25 post (fun a b c d => vp_in (nI p) 1000 ∧ w_X2_valueOf (fun r_70 => w_X3_ruleBefore (fun r_73 => post r_73 a b c d) a b d r_70) (nI k) fi la va (tx (nI p).toNatClampNeg)) (nI k) fi la va tx (nI p) (r + 1) (nI i) (bf (kdf fi la va k tx) i) (nI (fl (kdf fi la va k tx) i)) (b1 (bp (kdf fi la va k tx) i)) (b1 (jp (kdf fi la va k tx) i)) := by
      intro r
      induction r with
      | zero =>
        intro i hi
        obtain rfl : i = p := by omega
        refine ⟨fun _ => ⟨vp_in_nI (by omega) (by decide), s_X2_valueOf hk (s_X3_ruleBefore (by have := fl_le (kdf fi la va k tx) i; omega) ?_)⟩, fun z => absurd (Int32.le_refl _) z⟩
        rw [nI_clamp (by omega)]
        have e : decide (¬ b1 (jp (kdf fi la va k tx) i) = 0) = jp (kdf fi la va k tx) i := by
          cases jp (kdf fi la va k tx) i <;> decide
        rw [e]
        exact h _ _ _ _
      | succ r ih =>
        intro i hi
        refine ⟨fun z => ?_, fun _ => ⟨vp_in_nI (by omega) (by decide), s_X2_valueOf hk (s_X3_pass ?_)⟩⟩
        · rw [nI_leI (by omega) (by omega)] at z; omega
        · rw [show (nI i).toNatClampNeg = i from nI_clamp (by omega), nI_1]
          exact ih (i + 1) (by omega)
    exact ⟨p + 1, main p 0 (by omega)⟩
  · rw [nI_ltI (by omega) (by omega)] at y
    have z : ¬ p = 0 := fun q => z (by rw [q]; rfl)
    rw [if_neg z, if_pos (by omega)]
  · rw [show (0 : Int32) = nI 0 from rfl, nI_eq (by omega) (by decide)] at z
    rw [if_pos z]
end KE
