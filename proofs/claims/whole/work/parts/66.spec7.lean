/-! rule, ends, readers: answers of class and reference. -/
section KF
variable {fi la va tx : Nat → Int32} {k : Nat}
/-- the rule at a place, the text having t characters -/
abbrev rv (kd : Nat → Int32) (t p : Nat) : Int32 := if p = 0 then 1 else if p = t then 2 else rl kd p
abbrev ev (kd : Nat → Int32) (t p : Nat) : Int32 := if ¬ t = 0 ∧ (p = 0 ∨ p = t ∨ isE (rl kd p)) then 1 else 0
theorem pl_cases {x : Int32} {t : Nat} (ht : t ≤ 1000) : (x < 0 ∧ ¬ ∃ p, p ≤ t ∧ x = nI p) ∨ (¬ x < 0 ∧ nI t < x ∧ ¬ ∃ p, p ≤ t ∧ x = nI p) ∨ ∃ p, p ≤ t ∧ x = nI p := by
  rcases pk_ix x (n := t + 1) (by omega) with h | h | ⟨j, hj, rfl⟩
  · refine Or.inl ⟨h, fun ⟨p, hp, e⟩ => ?_⟩
    rw [e] at h
    exact nI_pos (by omega) h
  · refine Or.inr (Or.inl ⟨fun z => ?_, ?_, fun ⟨p, hp, e⟩ => ?_⟩)
    · have h1 := Int32.le_iff_toInt_le.mp h
      have h2 := Int32.lt_iff_toInt_lt.mp z
      rw [nI_toInt (by omega)] at h1
      have h3 : ((0 : Int32)).toInt = 0 := by decide
      omega
    · have h1 := Int32.le_iff_toInt_le.mp h
      rw [nI_toInt (by omega)] at h1
      rw [Int32.lt_iff_toInt_lt, nI_toInt (by omega)]
      omega
    · rw [e, nI_leI (by omega) (by omega)] at h
      omega
  · exact Or.inr (Or.inr ⟨j, by omega, rfl⟩)
theorem s_X6_isPlace {post : Int32 → Prop} {t : Nat} {x : Int32} (ht : t ≤ 1000) (h1 : (¬ ∃ p, p ≤ t ∧ x = nI p) → post 0) (h0 : ∀ p, p ≤ t → x = nI p → post 1) : w_X6_isPlace post (nI t) x := by
  rcases pl_cases (x := x) ht with ⟨a, b⟩ | ⟨a, b, c⟩ | ⟨p, a, rfl⟩
  · exact ⟨fun _ => h1 b, fun z => absurd a z⟩
  · exact ⟨fun z => absurd z a, fun _ => ⟨fun _ => h1 c, fun z => absurd b z⟩⟩
  · refine ⟨fun z => absurd z (nI_pos (by omega)), fun _ => ⟨fun z => ?_, fun _ => h0 p a rfl⟩⟩
    rw [nI_ltI (by omega) (by omega)] at z; omega
theorem s_X6_rule {post pe : Int32 → Int32 → Int32 → Int32 → Int32 → Prop} (hk : k ≤ 60) {t : Nat} (ht : t ≤ 1000) {x r1 r2 r3 r4 : Int32} (h1 : (¬ ∃ p, p ≤ t ∧ x = nI p) → pe 3 r1 r2 r3 r4) (h0 : ∀ p, p ≤ t → x = nI p → ∀ a b c d, post (rv (kdf fi la va k tx) t p) a b c d) : w_X6_rule post pe (nI t) (nI k) fi la va r1 r2 r3 r4 tx x := by
  refine s_X6_isPlace ht (fun z => n_0 (h1 z)) (fun p hp e => n_1 ?_)
  subst e
  exact s_X6_ruleAt hk ht hp (fun a b c d r hr => by rw [hr]; exact h0 p hp rfl a b c d)
theorem s_X6_ends {post pe : Int32 → Int32 → Int32 → Int32 → Int32 → Prop} (hk : k ≤ 60) {t : Nat} (ht : t ≤ 1000) {x r1 r2 r3 r4 : Int32} (h1 : (¬ ∃ p, p ≤ t ∧ x = nI p) → pe 3 r1 r2 r3 r4) (h0 : ∀ p, p ≤ t → x = nI p → ∀ a b c d, post (ev (kdf fi la va k tx) t p) a b c d) : w_X6_ends post pe (nI t) (nI k) fi la va r1 r2 r3 r4 tx x := by
  refine s_X6_isPlace ht (fun z => n_0 (h1 z)) (fun p hp e => n_1 ?_)
  have hq := h0 p hp e
  subst e
  refine ⟨fun z => ?_, fun z => ?_⟩
  · rw [show (0 : Int32) = nI 0 from rfl, nI_leI (by omega) (by decide)] at z
    have := hq r1 r2 r3 r4
    rwa [ev, if_neg (fun q => q.1 (by omega))] at this
  · rw [show (0 : Int32) = nI 0 from rfl, nI_leI (by omega) (by decide)] at z
    refine s_X6_ruleAt hk ht hp (fun a b c d r hr => s_X3_isEnd ?_)
    have h := hq a b c d
    have e : isE r ↔ (p = 0 ∨ p = t ∨ isE (rl (kdf fi la va k tx) p)) := by
      rw [hr]
      by_cases q : p = 0
      · simp [q, isE]
      · by_cases q2 : p = t
        · subst q2; simp [q, isE]
        · simp [q, q2]
    by_cases hE : isE r
    · rw [if_pos hE]
      rw [ev, if_pos ⟨by omega, e.mp hE⟩] at h
      exact c_1 h
    · rw [if_neg hE]
      rw [ev, if_neg (fun q => hE (e.mpr q.2))] at h
      exact c_0 h
theorem pl_x7 {P : Prop} {t : Nat} {x : Int32} {A B C : Prop} (ht : t ≤ 1000) (h1 : (¬ ∃ p, p ≤ t ∧ x = nI p) → A ∧ C) (h0 : ∀ p, p ≤ t → x = nI p → B) : (x < 0 → A) ∧ (¬ x < 0 → ((x ≤ nI t → B) ∧ (¬ x ≤ nI t → C))) := by
  rcases pl_cases (x := x) ht with ⟨a, b⟩ | ⟨a, b, c⟩ | ⟨p, a, rfl⟩
  · exact ⟨fun _ => (h1 b).1, fun z => absurd a z⟩
  · exact ⟨fun z => absurd z a, fun _ => ⟨fun z => absurd b (Int32.not_lt.mpr z), fun _ => (h1 c).2⟩⟩
  · refine ⟨fun z => absurd z (nI_pos (by omega)), fun _ => ⟨fun _ => h0 p a rfl, fun z => ?_⟩⟩
    rw [nI_leI (by omega) (by omega)] at z; omega
theorem s_X7_rule {post : Int32 → Int32 → Prop} (hk : k ≤ 60) {t : Nat} (ht : t ≤ 1000) {x : Int32} (h1 : (¬ ∃ p, p ≤ t ∧ x = nI p) → post 0 1) (h0 : ∀ p, p ≤ t → x = nI p → post (rv (kdf fi la va k tx) t p) 0) : w_X7_rule post (nI k) (nI t) fi la va tx x := by
  unfold w_X7_rule w_X7_rule_13 w_X7_rule_18
  refine pl_x7 (P := True) ht (fun z => ⟨s_ref1 (c_1 (h1 z)), s_ref1 (c_1 (h1 z))⟩) (fun p hp e => s_ref0 (c_0 ?_))
  have h := h0 p hp e
  subst e
  refine s_X7_ruleAt hk ht hp (fun z => ?_) (fun z y => ?_) (fun z y => ?_)
  · rwa [rv, if_pos z] at h
  · rwa [rv, if_neg z, if_pos y] at h
  · rwa [rv, if_neg z, if_neg (by omega)] at h
theorem s_X7_endsA {post : Int32 → Prop} (hk : k ≤ 60) {t p : Nat} (ht : t ≤ 1000) (hp : p ≤ t) (h : post (ev (kdf fi la va k tx) t p)) : w_X7_endsAt post (nI k) (nI t) fi la va tx (nI p) := by
  refine s_X7_endsAt hk ht hp (fun z => ?_) (fun z y => ?_) (fun z y => ?_)
  · by_cases t0 : t = 0
    · rw [if_pos t0]; rwa [ev, if_neg (fun q => q.1 t0)] at h
    · rw [if_neg t0]; rwa [ev, if_pos ⟨t0, Or.inl z⟩] at h
  · rwa [ev, if_pos ⟨by omega, Or.inr (Or.inl y)⟩] at h
  · by_cases hE : isE (rl (kdf fi la va k tx) p)
    · rw [if_pos hE]; rwa [ev, if_pos ⟨by omega, Or.inr (Or.inr hE)⟩] at h
    · rw [if_neg hE]
      rwa [ev, if_neg (fun q => by rcases q.2 with q | q | q; exact z q; omega; exact hE q)] at h
theorem s_X7_ends {post : Int32 → Int32 → Prop} (hk : k ≤ 60) {t : Nat} (ht : t ≤ 1000) {x : Int32} (h1 : (¬ ∃ p, p ≤ t ∧ x = nI p) → post 0 1) (h0 : ∀ p, p ≤ t → x = nI p → post (ev (kdf fi la va k tx) t p) 0) : w_X7_ends post (nI k) (nI t) fi la va tx x := by
  unfold w_X7_ends w_X7_ends_13 w_X7_ends_18
  refine pl_x7 (P := True) ht (fun z => ⟨s_ref1 (n_1 (h1 z)), s_ref1 (n_1 (h1 z))⟩) (fun p hp e => s_ref0 (n_0 ?_))
  have h := h0 p hp e
  subst e
  refine s_X7_endsA hk ht hp ?_
  unfold ev at h ⊢
  split
  · rename_i q
    rw [if_pos q] at h; exact c_1 h
  · rename_i q
    rw [if_neg q] at h; exact c_0 h
/-- reader's characters -/
def SE (kd : Nat → Int32) : Nat → Nat
  | 0 => 0
  | p + 1 => SE kd p + (if isE (rl kd (p + 1)) then 1 else 0)
theorem SE_le (kd : Nat → Int32) : ∀ p, SE kd p ≤ p
  | 0 => Nat.le_refl 0
  | p + 1 => by
    have := SE_le kd p
    unfold SE
    split <;> omega
def RC (kd : Nat → Int32) (t : Nat) : Nat := if t = 0 then 0 else SE kd (t - 1) + 1
theorem s_X6_readers {post : Int32 → Int32 → Int32 → Int32 → Int32 → Prop} (hk : k ≤ 60) {t : Nat} (ht : t ≤ 1000) (h : ∀ a b c d, post (nI (RC (kdf fi la va k tx) t)) a b c d) : w_X6_readers post (nI t) (nI k) fi la va tx := by
  have main : ∀ r i, i + r = t → w_X6_readers_11 post (nI t) (nI k) fi la va tx (r + 1) (nI (RC (kdf fi la va k tx) i)) (nI i) (bf (kdf fi la va k tx) i) (nI (fl (kdf fi la va k tx) i)) (b1 (bp (kdf fi la va k tx) i)) (b1 (jp (kdf fi la va k tx) i)) := by
    intro r
    induction r with
    | zero =>
      intro i hi
      obtain rfl : i = t := by omega
      exact ⟨fun _ => h _ _ _ _, fun z => absurd (Int32.le_refl _) z⟩
    | succ r ih =>
      intro i hi
      have ih2 := ih (i + 1) (by omega)
      refine ⟨fun z => ?_, fun _ => ⟨vp_in_nI (by omega) (by decide), s_X2_valueOf hk ?_⟩⟩
      · rw [nI_leI (by omega) (by omega)] at z; omega
      · rw [show (nI i).toNatClampNeg = i from nI_clamp (by omega)]
        have one : RC (kdf fi la va k tx) (i + 1) = RC (kdf fi la va k tx) i + 1 → w_X6_readers_51 post (fun e0 e1 e2 e3 e4 e5 => w_X6_readers_11 post (nI t) (nI k) fi la va tx (r + 1) e0 e1 e2 e3 e4 e5) (nI (fl (kdf fi la va k tx) i)) (b1 (bp (kdf fi la va k tx) i)) (nI (RC (kdf fi la va k tx) i)) (nI i) (rg fi la va k (tx i)) := by
          intro e
          refine s_X3_pass ?_
          rw [nI_1, nI_1, ← e]
          exact ih2
        have zero : RC (kdf fi la va k tx) (i + 1) = RC (kdf fi la va k tx) i → w_X6_readers_54 post (fun e0 e1 e2 e3 e4 e5 => w_X6_readers_11 post (nI t) (nI k) fi la va tx (r + 1) e0 e1 e2 e3 e4 e5) (nI (fl (kdf fi la va k tx) i)) (b1 (bp (kdf fi la va k tx) i)) (nI (RC (kdf fi la va k tx) i)) (nI i) (rg fi la va k (tx i)) := by
          intro e
          refine s_X3_pass ?_
          rw [nI_1, ← e]
          exact ih2
        refine ⟨fun z => one ?_, fun z => s_X3_ruleBefore (by have := fl_le (kdf fi la va k tx) i; omega) (s_X3_isEnd ?_)⟩
        · rw [show (0 : Int32) = nI 0 from rfl, nI_eq (by omega) (by decide)] at z
          subst z
          rfl
        · have z : ¬ i = 0 := fun q => z (by rw [q]; rfl)
          have e : decide (¬ b1 (jp (kdf fi la va k tx) i) = 0) = jp (kdf fi la va k tx) i := by
            cases jp (kdf fi la va k tx) i <;> decide
          rw [e]
          obtain ⟨q, rfl⟩ : ∃ q, i = q + 1 := ⟨i - 1, by omega⟩
          have er : RC (kdf fi la va k tx) (q + 1 + 1) = RC (kdf fi la va k tx) (q + 1) + (if isE (rl (kdf fi la va k tx) (q + 1)) then 1 else 0) := by
            show SE (kdf fi la va k tx) q + (if isE (rl (kdf fi la va k tx) (q + 1)) then 1 else 0) + 1 = SE (kdf fi la va k tx) q + 1 + _
            omega
          by_cases hE : isE (rl (kdf fi la va k tx) (q + 1))
          · rw [if_pos hE] at er
            have hE2 : isE (rb (bf (kdf fi la va k tx) (q + 1)) (decide (fl (kdf fi la va k tx) (q + 1) % 2 = 1)) (jp (kdf fi la va k tx) (q + 1)) (rg fi la va k (tx (q + 1)))) := hE
            rw [if_pos hE2]
            exact c_1 (one er)
          · rw [if_neg hE] at er
            have hE2 : ¬ isE (rb (bf (kdf fi la va k tx) (q + 1)) (decide (fl (kdf fi la va k tx) (q + 1) % 2 = 1)) (jp (kdf fi la va k tx) (q + 1)) (rg fi la va k (tx (q + 1)))) := hE
            rw [if_neg hE2]
            exact c_0 (zero er)
  exact ⟨t + 1, main t 0 (by omega)⟩
theorem s_X7_readers {post : Int32 → Int32 → Prop} (hk : k ≤ 60) {t : Nat} (ht : t ≤ 1000) (h : post (nI (RC (kdf fi la va k tx) t)) 0) : w_X7_readers post (nI k) (nI t) fi la va tx := by
  have main : ∀ r i, i + r = t → ∀ c : Nat, (i < t → c = SE (kdf fi la va k tx) i) → (i = t → c = RC (kdf fi la va k tx) t) → w_X7_readers_9 post 0 (nI k) (nI t) fi la va tx (r + 1) (nI c) (nI (i + 1)) := by
    intro r
    induction r with
    | zero =>
      intro i hi c _ hc
      obtain rfl : i = t := by omega
      rw [hc rfl]
      refine ⟨fun _ => h, fun z => ?_⟩
      rw [nI_ltI (by omega) (by omega)] at z; omega
    | succ r ih =>
      intro i hi c hc _
      have hc := hc (by omega)
      have hs := SE_le (kdf fi la va k tx) i
      refine ⟨fun z => ?_, fun _ => s_X7_endsA hk ht (by omega) ?_⟩
      · rw [nI_ltI (by omega) (by omega)] at z; omega
      · rw [nI_1, nI_1]
        by_cases hl : i + 1 = t
        · rw [ev, if_pos ⟨by omega, Or.inr (Or.inl hl)⟩]
          refine c_1 (ih (i + 1) (by omega) (c + 1) (fun q => by omega) (fun _ => ?_))
          rw [hc, RC, if_neg (by omega), ← hl]
          rfl
        · by_cases hE : isE (rl (kdf fi la va k tx) (i + 1))
          · rw [ev, if_pos ⟨by omega, Or.inr (Or.inr hE)⟩]
            refine c_1 (ih (i + 1) (by omega) (c + 1) (fun _ => ?_) (fun q => absurd q hl))
            unfold SE; rw [if_pos hE, hc]
          · rw [ev, if_neg (fun q => by rcases q.2 with q | q | q; omega; exact hl q; exact hE q)]
            refine c_0 (ih (i + 1) (by omega) c (fun _ => ?_) (fun q => absurd q hl))
            unfold SE; rw [if_neg hE, hc]; rfl
  have := main t 0 (by omega) 0 (fun _ => rfl) (fun e => by rw [← e]; rfl)
  exact ⟨t + 1, this⟩
end KF
