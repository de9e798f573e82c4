/-! Pure: putting together. cls: a character's class, cmp: the composite of two (below 0: none). p: what is left so far, l characters; o: what came in. -/
def pt_s (cls : Int32 → Int32) (p : Nat → Int32) : Nat → Option Nat
  | 0 => none
  | l + 1 => if cls (p l) = 0 then some l else pt_s cls p l
def pt_step (cls : Int32 → Int32) (cmp : Int32 → Int32 → Int32) (u : (Nat → Int32) × Nat) (c : Int32) : (Nat → Int32) × Nat :=
  match pt_s cls u.1 u.2 with
  | none => (upd u.1 u.2 c, u.2 + 1)
  | some s => if (s + 1 = u.2 ∨ cls (u.1 (u.2 - 1)) < cls c) ∧ 0 ≤ cmp (u.1 s) c then (upd u.1 s (cmp (u.1 s) c), u.2) else (upd u.1 u.2 c, u.2 + 1)
def pt_run (cls : Int32 → Int32) (cmp : Int32 → Int32 → Int32) (o : Nat → Int32) : Nat → (Nat → Int32) × Nat
  | 0 => (o, 0)
  | i + 1 => pt_step cls cmp (pt_run cls cmp o i) (o i)
theorem pt_s_lt {cls : Int32 → Int32} {p : Nat → Int32} : ∀ {l s : Nat}, pt_s cls p l = some s → s < l ∧ cls (p s) = 0 ∧ ∀ j, s < j → j < l → ¬ cls (p j) = 0
  | 0, s, h => by simp [pt_s] at h
  | l + 1, s, h => by
    unfold pt_s at h
    by_cases hc : cls (p l) = 0
    · rw [if_pos hc] at h
      cases h
      exact ⟨Nat.lt_succ_self l, hc, fun j h1 h2 => absurd h1 (by omega)⟩
    · rw [if_neg hc] at h
      obtain ⟨h1, h2, h3⟩ := pt_s_lt h
      refine ⟨by omega, h2, fun j h4 h5 => ?_⟩
      rcases Nat.lt_or_ge j l with h6 | h6
      · exact h3 j h4 h6
      · obtain rfl : j = l := by omega
        exact hc
theorem pt_s_no {cls : Int32 → Int32} {p : Nat → Int32} : ∀ {l : Nat}, pt_s cls p l = none → ∀ j, j < l → ¬ cls (p j) = 0
  | 0, _, j, h => absurd h (by omega)
  | l + 1, h, j, hj => by
    unfold pt_s at h
    by_cases hc : cls (p l) = 0
    · rw [if_pos hc] at h; cases h
    · rw [if_neg hc] at h
      rcases Nat.lt_or_ge j l with h6 | h6
      · exact pt_s_no h j h6
      · obtain rfl : j = l := by omega
        exact hc
theorem pt_s_cg {cls : Int32 → Int32} {p q : Nat → Int32} : ∀ {l : Nat}, (∀ j, j < l → p j = q j) → pt_s cls p l = pt_s cls q l
  | 0, _ => rfl
  | l + 1, h => by
    unfold pt_s
    rw [h l (Nat.lt_succ_self l), pt_s_cg (fun j hj => h j (Nat.lt_succ_of_lt hj))]
theorem pt_upd {f : Nat → Int32} {k j : Nat} {x : Int32} : upd f k x j = if j = k then x else f j := by
  by_cases h : j = k
  · subst h; rw [if_pos rfl]; exact pk_us
  · rw [if_neg h]; exact pk_un h
/-- the number that are left, and what comes in, stay ahead of each other -/
theorem pt_run_le {cls : Int32 → Int32} {cmp : Int32 → Int32 → Int32} {o : Nat → Int32} : ∀ (i : Nat), (pt_run cls cmp o i).2 ≤ i ∧ ∀ j, i ≤ j → (pt_run cls cmp o i).1 j = o j
  | 0 => ⟨Nat.le_refl 0, fun _ _ => rfl⟩
  | i + 1 => by
    obtain ⟨h1, h2⟩ := pt_run_le (cls := cls) (cmp := cmp) (o := o) i
    show (pt_step cls cmp (pt_run cls cmp o i) (o i)).2 ≤ i + 1 ∧ ∀ j, i + 1 ≤ j → (pt_step cls cmp (pt_run cls cmp o i) (o i)).1 j = o j
    unfold pt_step
    split
    · refine ⟨by show _ + 1 ≤ _; omega, fun j hj => ?_⟩
      show upd _ _ _ j = _
      rw [pt_upd, if_neg (by omega), h2 j (by omega)]
    · rename_i s hs
      have h3 := (pt_s_lt hs).1
      split
      · refine ⟨by show _ ≤ _; omega, fun j hj => ?_⟩
        show upd _ _ _ j = _
        rw [pt_upd, if_neg (by omega), h2 j (by omega)]
      · refine ⟨by show _ + 1 ≤ _; omega, fun j hj => ?_⟩
        show upd _ _ _ j = _
        rw [pt_upd, if_neg (by omega), h2 j (by omega)]
/-- only the first characters count -/
theorem pt_run_cg {cls : Int32 → Int32} {cmp : Int32 → Int32 → Int32} {o o' : Nat → Int32} {n : Nat} (h : ∀ j, j < n → o j = o' j) : ∀ (i : Nat), i ≤ n → (pt_run cls cmp o i).2 = (pt_run cls cmp o' i).2 ∧ ∀ j, j < (pt_run cls cmp o i).2 → (pt_run cls cmp o i).1 j = (pt_run cls cmp o' i).1 j
  | 0, _ => ⟨rfl, fun j hj => absurd hj (Nat.not_lt_zero j)⟩
  | i + 1, hi => by
    obtain ⟨h1, h2⟩ := pt_run_cg (cls := cls) (cmp := cmp) h i (by omega)
    have e0 := h i (by omega)
    have e1 : pt_s cls (pt_run cls cmp o' i).1 (pt_run cls cmp o' i).2 = pt_s cls (pt_run cls cmp o i).1 (pt_run cls cmp o i).2 := by
      rw [← h1]; exact (pt_s_cg h2).symm
    show (pt_step cls cmp (pt_run cls cmp o i) (o i)).2 = (pt_step cls cmp (pt_run cls cmp o' i) (o' i)).2 ∧ ∀ j, j < (pt_step cls cmp (pt_run cls cmp o i) (o i)).2 → (pt_step cls cmp (pt_run cls cmp o i) (o i)).1 j = (pt_step cls cmp (pt_run cls cmp o' i) (o' i)).1 j
    unfold pt_step
    rw [e1, ← e0, ← h1]
    cases hs : pt_s cls (pt_run cls cmp o i).1 (pt_run cls cmp o i).2 with
    | none =>
      refine ⟨rfl, fun j hj => ?_⟩
      show upd _ _ _ j = upd _ _ _ j
      rw [pt_upd, pt_upd]
      split
      · rfl
      · exact h2 j (by have : j < (pt_run cls cmp o i).2 + 1 := hj; omega)
    | some s =>
      have h3 := (pt_s_lt hs).1
      dsimp only
      rw [← h2 s h3, ← h2 ((pt_run cls cmp o i).2 - 1) (by omega)]
      split
      · refine ⟨rfl, fun j hj => ?_⟩
        show upd _ _ _ j = upd _ _ _ j
        rw [pt_upd, pt_upd]
        split
        · rfl
        · exact h2 j hj
      · refine ⟨rfl, fun j hj => ?_⟩
        show upd _ _ _ j = upd _ _ _ j
        rw [pt_upd, pt_upd]
        split
        · rfl
        · exact h2 j (by have : j < (pt_run cls cmp o i).2 + 1 := hj; omega)
/-- what all characters satisfy, composites too, is kept -/
theorem pt_run_al {cls : Int32 → Int32} {cmp : Int32 → Int32 → Int32} {o : Nat → Int32} {n : Nat} {Q : Int32 → Prop} (h : ∀ j, j < n → Q (o j)) (hc : ∀ a b, 0 ≤ cmp a b → Q (cmp a b)) : ∀ (i : Nat), i ≤ n → ∀ j, j < (pt_run cls cmp o i).2 → Q ((pt_run cls cmp o i).1 j)
  | 0, _, j, hj => absurd hj (Nat.not_lt_zero j)
  | i + 1, hi, j, hj => by
    have ih := pt_run_al (cls := cls) (cmp := cmp) h hc i (by omega)
    have e0 := h i (by omega)
    revert hj
    show j < (pt_step cls cmp (pt_run cls cmp o i) (o i)).2 → Q ((pt_step cls cmp (pt_run cls cmp o i) (o i)).1 j)
    unfold pt_step
    split
    · intro hj
      show Q (upd _ _ _ j)
      rw [pt_upd]
      split
      · exact e0
      · exact ih j (by have : j < (pt_run cls cmp o i).2 + 1 := hj; omega)
    · rename_i s hs
      split
      · rename_i hq
        intro hj
        show Q (upd _ _ _ j)
        rw [pt_upd]
        split
        · exact hc _ _ hq.2
        · exact ih j hj
      · intro hj
        show Q (upd _ _ _ j)
        rw [pt_upd]
        split
        · exact e0
        · exact ih j (by have : j < (pt_run cls cmp o i).2 + 1 := hj; omega)
