/-! rule, ends, readers. kd: the kinds of the text's characters. -/
def b1 (b : Bool) : Int32 := if b then 1 else 0
def fl (kd : Nat → Int32) : Nat → Nat
  | 0 => 0
  | p + 1 => if kd p = 6 then fl kd p + 1 else 0
def bp (kd : Nat → Int32) : Nat → Bool
  | 0 => false
  | p + 1 => decide (kd p = 14) || (decide (kd p = 4) && bp kd p)
def jp (kd : Nat → Int32) : Nat → Bool
  | 0 => false
  | p + 1 => decide (kd p = 5) && bp kd p
def bf (kd : Nat → Int32) : Nat → Int32
  | 0 => 0
  | p + 1 => kd p
abbrev lc (a : Int32) : Prop := a = 1 ∨ a = 2 ∨ a = 3
def rb (a : Int32) (f : Bool) (j : Bool) (b : Int32) : Int32 :=
  if a = 1 ∧ b = 2 then 3 else if lc a then 4 else if lc b then 5 else if a = 9 ∧ (b = 9 ∨ b = 10 ∨ b = 12 ∨ b = 13) then 6
  else if (a = 12 ∨ a = 10) ∧ (b = 10 ∨ b = 11) then 7 else if (a = 13 ∨ a = 11) ∧ b = 11 then 8 else if b = 4 ∨ b = 5 then 9 else if b = 8 then 91 else if a = 7 then 92
  else if j = true ∧ b = 14 then 11 else if f = true ∧ b = 6 then 12 else 999
theorem fl_le (kd : Nat → Int32) : ∀ p, fl kd p ≤ p
  | 0 => Nat.le_refl 0
  | p + 1 => by
    have := fl_le kd p
    unfold fl
    split <;> omega
theorem s_X3_isLine {post : Int32 → Prop} {a : Int32} (h : post (if lc a then 1 else 0)) : w_X3_isLineOrControl post a := by
  unfold w_X3_isLineOrControl
  grind
theorem s_X7_isIn3 {post : Int32 → Prop} {a x y z : Int32} (h : post (if a = x ∨ a = y ∨ a = z then 1 else 0)) : w_X7_isIn3 post a x y z := by
  unfold w_X7_isIn3
  grind
theorem odd_i {f : Nat} (hf : f < 2 ^ 31) : (nI f - nI f / 2 * 2 = 1) ↔ f % 2 = 1 := by
  have : nI f - nI f / nI 2 * nI 2 = nI (f % 2) := pk_rem hf (by decide) (by decide)
  rw [show (2 : Int32) = nI 2 from rfl, this, show (1 : Int32) = nI 1 from rfl, nI_eq (by omega) (by decide)]
theorem s_X3_ruleBefore {post : Int32 → Prop} {a b jI : Int32} {f : Nat} (hf : f < 2 ^ 31) (h : post (rb a (decide (f % 2 = 1)) (decide (¬ jI = 0)) b)) : w_X3_ruleBefore post a (nI f) jI b := by
  have e182 : (rb a (decide (f % 2 = 1)) (decide (¬ jI = 0)) b = if f % 2 = 1 ∧ b = 6 then 12 else 999) → w_X3_ruleBefore_182 post (nI f) b := by
    intro e
    rw [e] at h
    unfold w_X3_ruleBefore_182
    rw [odd_i hf]
    grind
  unfold w_X3_ruleBefore w_X3_ruleBefore_15
  have l15 : w_X3_ruleBefore_15 post a (nI f) jI b ∨ (a = 1 ∧ b = 2) := by
    by_cases hc : a = 1 ∧ b = 2
    · exact Or.inr hc
    · left
      refine s_X3_isLine ?_
      by_cases h1 : lc a
      · rw [if_pos h1]
        refine c_1 ?_
        unfold rb at h
        rwa [if_neg hc, if_pos h1] at h
      · rw [if_neg h1]
        refine c_0 (s_X3_isLine ?_)
        by_cases h2 : lc b
        · rw [if_pos h2]
          refine c_1 ?_
          unfold rb at h
          rwa [if_neg hc, if_neg h1, if_pos h2] at h
        · rw [if_neg h2]
          refine c_0 ?_
          unfold rb at h e182
          rw [if_neg hc, if_neg h1, if_neg h2] at h e182
          have r132 : ¬ (a = 9 ∧ (b = 9 ∨ b = 10 ∨ b = 12 ∨ b = 13)) → ¬ ((a = 12 ∨ a = 10) ∧ (b = 10 ∨ b = 11)) → ¬ ((a = 13 ∨ a = 11) ∧ b = 11) → w_X3_ruleBefore_132 post a (nI f) jI b := by
            intro q1 q2 q3
            rw [if_neg q1, if_neg q2, if_neg q3] at h e182
            unfold w_X3_ruleBefore_132
            refine ⟨fun z => ?_, fun z => ⟨fun y => ⟨fun x => ⟨fun w => ?_, fun w => ?_⟩, fun x => ?_⟩, fun y => ?_⟩⟩
            · rwa [if_pos (Or.inl z)] at h
            · rw [if_neg (fun q => q.elim z y), if_neg x, if_neg w] at h e182
              refine ⟨fun v => e182 ?_, fun v => ⟨fun u => e182 ?_, fun u => ?_⟩⟩
              · rw [if_neg (fun q => by simp [v] at q)]; simp
              · rw [if_neg (fun q => u q.2)]; simp
              · rwa [if_pos ⟨by simp [v], u⟩] at h
            · rwa [if_neg (fun q => q.elim z y), if_neg x, if_pos w] at h
            · rwa [if_neg (fun q => q.elim z y), if_pos x] at h
            · rwa [if_pos (Or.inr y)] at h
          have r123 : (a = 13 ∨ a = 11) → ¬ (a = 9 ∧ (b = 9 ∨ b = 10 ∨ b = 12 ∨ b = 13)) → ¬ ((a = 12 ∨ a = 10) ∧ (b = 10 ∨ b = 11)) → w_X3_ruleBefore_123 post a (nI f) jI b := by
            intro q0 q1 q2
            refine ⟨fun z => r132 q1 q2 (fun q => z q.2), fun z => ?_⟩
            rwa [if_neg q1, if_neg q2, if_pos ⟨q0, z⟩] at h
          have r105 : ¬ (a = 9 ∧ (b = 9 ∨ b = 10 ∨ b = 12 ∨ b = 13)) → ¬ ((a = 12 ∨ a = 10) ∧ (b = 10 ∨ b = 11)) → w_X3_ruleBefore_105 post a (nI f) jI b :=
            fun q1 q2 => ⟨fun z => r123 (Or.inl z) q1 q2, fun z => ⟨fun y => r132 q1 q2 (fun q => q.1.elim z y), fun y => r123 (Or.inr y) q1 q2⟩⟩
          have r90 : (a = 12 ∨ a = 10) → ¬ (a = 9 ∧ (b = 9 ∨ b = 10 ∨ b = 12 ∨ b = 13)) → w_X3_ruleBefore_90 post a (nI f) jI b := by
            intro q0 q1
            refine ⟨fun z => ?_, fun z => ⟨fun y => r105 q1 (fun q => q.2.elim z y), fun y => ?_⟩⟩
            · rwa [if_neg q1, if_pos ⟨q0, Or.inl z⟩] at h
            · rwa [if_neg q1, if_pos ⟨q0, Or.inr y⟩] at h
          have r72 : ¬ (a = 9 ∧ (b = 9 ∨ b = 10 ∨ b = 12 ∨ b = 13)) → w_X3_ruleBefore_72 post a (nI f) jI b :=
            fun q1 => ⟨fun z => r90 (Or.inl z) q1, fun z => ⟨fun y => r105 q1 (fun q => q.1.elim z y), fun y => r90 (Or.inr y) q1⟩⟩
          refine ⟨fun z => r72 (fun q => z q.1), fun z => ⟨fun y => ?_, fun y => ⟨fun x => ?_, fun x => ⟨fun w => ?_, fun w => ⟨fun v => r72 (fun q => by rcases q.2 with q | q | q | q <;> contradiction), fun v => ?_⟩⟩⟩⟩⟩
          · rwa [if_pos ⟨z, Or.inl y⟩] at h
          · rwa [if_pos ⟨z, Or.inr (Or.inl x)⟩] at h
          · rwa [if_pos ⟨z, Or.inr (Or.inr (Or.inl w))⟩] at h
          · rwa [if_pos ⟨z, Or.inr (Or.inr (Or.inr v))⟩] at h
  rcases l15 with h1 | ⟨h1, h2⟩
  · refine ⟨fun _ => h1, fun z => ⟨fun _ => h1, fun y => ?_⟩⟩
    unfold rb at h
    rwa [if_pos ⟨z, y⟩] at h
  · refine ⟨fun z => absurd h1 z, fun _ => ⟨fun z => absurd h2 z, fun _ => ?_⟩⟩
    unfold rb at h
    rwa [if_pos ⟨h1, h2⟩] at h
theorem b1_0 {b : Bool} : b1 b = 0 ↔ b = false := by cases b <;> decide
theorem nb_b1 (b : Bool) : nb (b1 b) := by
  cases b
  · exact nb0
  · exact nb1
theorem s_X3_pass {post : Int32 → Int32 → Int32 → Int32 → Prop} {f : Nat} {q : Bool} {k : Int32} (h : post k (nI (if k = 6 then f + 1 else 0)) (b1 (decide (k = 14) || (decide (k = 4) && q))) (b1 (decide (k = 5) && q))) : w_X3_pass post (nI f) (b1 q) k := by
  unfold w_X3_pass w_X3_pass_17 w_X3_pass_18 w_X3_pass_40 w_X3_pass_44 w_X3_pass_45
  have n0 := nb0
  have n1 := nb1
  have e1 := nI_1 f
  have e2 := nI_0
  have e3 := b1_0 (b := q)
  have e4 : b1 true = 1 := rfl
  have e5 : b1 false = 0 := rfl
  cases q <;> by_cases k5 : k = 5 <;> by_cases k14 : k = 14 <;> by_cases k4 : k = 4 <;> by_cases k6 : k = 6 <;> simp_all
