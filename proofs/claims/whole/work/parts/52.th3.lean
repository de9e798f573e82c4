/-! Pure: marks put into order. w: the characters, r: their classes; od_ins i moves character i back to its place among those before it. -/
def od_sw (f : Nat → Int32) (i : Nat) : Nat → Int32 := fun j => if j = i then f (i + 1) else if j = i + 1 then f i else f j
abbrev od_bad (r : Nat → Int32) (i : Nat) : Prop := 0 < r (i + 1) ∧ r (i + 1) < r i
def od_ins : Nat → (Nat → Int32) → (Nat → Int32) → (Nat → Int32) × (Nat → Int32)
  | 0, w, r => (w, r)
  | i + 1, w, r => if od_bad r i then od_ins i (od_sw w i) (od_sw r i) else (w, r)
/-- the first n characters put into order -/
def od_sort : Nat → (Nat → Int32) → (Nat → Int32) → (Nat → Int32) × (Nat → Int32)
  | 0, w, r => (w, r)
  | n + 1, w, r => od_ins n (od_sort n w r).1 (od_sort n w r).2
theorem od_sw0 {f : Nat → Int32} {i : Nat} : od_sw f i i = f (i + 1) := by simp [od_sw]
theorem od_sw1 {f : Nat → Int32} {i : Nat} : od_sw f i (i + 1) = f i := by simp [od_sw]
theorem od_swn {f : Nat → Int32} {i j : Nat} (h1 : j ≠ i) (h2 : j ≠ i + 1) : od_sw f i j = f j := by simp [od_sw, h1, h2]
def od_S (r : Nat → Int32) (n : Nat) : Prop := ∀ i, i + 1 < n → ¬ od_bad r i
/-- what is kept while character i moves back from place K -/
def od_I (r : Nat → Int32) (i K : Nat) : Prop := i ≤ K ∧ od_S r i ∧ (∀ j, i < j → j < K → ¬ od_bad r j) ∧ (i < K → r i < r (i + 1) ∧ ∀ z, z + 1 = i → ¬ (0 < r (i + 1) ∧ r (i + 1) < r z))
theorem od_keep : ∀ (i K : Nat) (w r : Nat → Int32), od_I r i K → od_S (od_ins i w r).2 (K + 1) := by
  intro i
  induction i with
  | zero =>
    intro K w r ⟨_, h2, h3, h4⟩ j hj
    show ¬ od_bad r j
    rcases Nat.eq_zero_or_pos j with rfl | hp
    · intro hb
      exact absurd hb.2 (Int32.not_lt.mpr (Int32.le_of_lt (h4 (by omega)).1))
    · exact h3 j hp (by omega)
  | succ i ih =>
    intro K w r ⟨h1, h2, h3, h4⟩
    by_cases hb : od_bad r i
    · simp only [od_ins, if_pos hb]
      refine ih K _ _ ⟨by omega, ?_, ?_, ?_⟩
      · intro j hj
        have := h2 j (by omega)
        simp only [od_bad, od_swn (f := r) (i := i) (j := j + 1) (by omega) (by omega), od_swn (f := r) (i := i) (j := j) (by omega) (by omega)]
        exact this
      · intro j hj1 hj2
        rcases Nat.lt_or_ge (i + 1) j with hj | hj
        · have := h3 j hj hj2
          simp only [od_bad, od_swn (f := r) (i := i) (j := j + 1) (by omega) (by omega), od_swn (f := r) (i := i) (j := j) (by omega) (by omega)]
          exact this
        · obtain rfl : j = i + 1 := by omega
          have := (h4 (by omega)).2 i rfl
          simp only [od_bad, od_swn (f := r) (i := i) (j := i + 1 + 1) (by omega) (by omega), od_sw1]
          exact this
      · intro _
        rw [od_sw0, od_sw1]
        refine ⟨hb.2, fun z hz => ?_⟩
        rw [od_swn (f := r) (i := i) (j := z) (by omega) (by omega)]
        subst hz
        exact h2 z (by omega)
    · simp only [od_ins, if_neg hb]
      intro j hj
      rcases Nat.lt_trichotomy j i with hji | rfl | hji
      · exact h2 j (by omega)
      · exact hb
      · rcases Nat.lt_or_ge (i + 1) j with hj2 | hj2
        · exact h3 j hj2 (by omega)
        · obtain rfl : j = i + 1 := by omega
          intro hb2
          exact absurd hb2.2 (Int32.not_lt.mpr (Int32.le_of_lt (h4 (by omega)).1))
theorem od_sorted : ∀ (n : Nat) (w r : Nat → Int32), od_S (od_sort n w r).2 n
  | 0, _, _ => fun i h => absurd h (by omega)
  | n + 1, w, r => od_keep n n _ _ ⟨Nat.le_refl n, od_sorted n w r, fun j h1 h2 => absurd h1 (by omega), fun h => absurd h (by omega)⟩
/-- characters from n on stay -/
theorem od_ins_hi : ∀ (i : Nat) (w r : Nat → Int32) (j : Nat), i < j → (od_ins i w r).1 j = w j ∧ (od_ins i w r).2 j = r j
  | 0, _, _, _, _ => ⟨rfl, rfl⟩
  | i + 1, w, r, j, h => by
    by_cases hb : od_bad r i
    · simp only [od_ins, if_pos hb]
      have := od_ins_hi i (od_sw w i) (od_sw r i) j (by omega)
      exact ⟨this.1.trans (od_swn (by omega) (by omega)), this.2.trans (od_swn (by omega) (by omega))⟩
    · simp [od_ins, if_neg hb]
theorem od_sort_hi : ∀ (n : Nat) (w r : Nat → Int32) (j : Nat), n ≤ j → (od_sort n w r).1 j = w j ∧ (od_sort n w r).2 j = r j
  | 0, _, _, _, _ => ⟨rfl, rfl⟩
  | n + 1, w, r, j, h => by
    have h1 := od_ins_hi n (od_sort n w r).1 (od_sort n w r).2 j (by omega)
    have h2 := od_sort_hi n w r j (by omega)
    simp only [od_sort]
    rw [h1.1, h1.2]
    exact h2
/-- only the first characters count -/
theorem od_ins_cg : ∀ (i n : Nat) (w r w' r' : Nat → Int32), i < n → (∀ j, j < n → w j = w' j) → (∀ j, j < n → r j = r' j) → ∀ j, j < n → (od_ins i w r).1 j = (od_ins i w' r').1 j ∧ (od_ins i w r).2 j = (od_ins i w' r').2 j
  | 0, _, _, _, _, _, _, h1, h2, j, hj => ⟨h1 j hj, h2 j hj⟩
  | i + 1, n, w, r, w', r', hi, h1, h2, j, hj => by
    have e1 := h2 i (by omega)
    have e2 := h2 (i + 1) hi
    have sw : ∀ (f f' : Nat → Int32), (∀ j, j < n → f j = f' j) → ∀ j, j < n → od_sw f i j = od_sw f' i j := by
      intro f f' hf j hj
      simp only [od_sw]
      split
      · exact hf _ hi
      · split
        · exact hf _ (by omega)
        · exact hf _ hj
    by_cases hb : od_bad r i
    · have hb' : od_bad r' i := by simp only [od_bad, ← e1, ← e2]; exact hb
      simp only [od_ins, if_pos hb, if_pos hb']
      exact od_ins_cg i n _ _ _ _ (by omega) (sw w w' h1) (sw r r' h2) j hj
    · have hb' : ¬ od_bad r' i := by simp only [od_bad, ← e1, ← e2]; exact hb
      simp only [od_ins, if_neg hb, if_neg hb']
      exact ⟨h1 j hj, h2 j hj⟩
theorem od_sort_cg : ∀ (k n : Nat) (w r w' r' : Nat → Int32), k ≤ n → (∀ j, j < n → w j = w' j) → (∀ j, j < n → r j = r' j) → ∀ j, j < n → (od_sort k w r).1 j = (od_sort k w' r').1 j ∧ (od_sort k w r).2 j = (od_sort k w' r').2 j
  | 0, _, _, _, _, _, _, h1, h2, j, hj => ⟨h1 j hj, h2 j hj⟩
  | k + 1, n, w, r, w', r', hk, h1, h2, j, hj => by
    have ih := od_sort_cg k n w r w' r' (by omega) h1 h2
    exact od_ins_cg k n _ _ _ _ (by omega) (fun j hj => (ih j hj).1) (fun j hj => (ih j hj).2) j hj
/-- classes stay with their characters -/
theorem od_ins_cl {g : Int32 → Int32} : ∀ (i n : Nat) (w r : Nat → Int32), i < n → (∀ j, j < n → r j = g (w j)) → ∀ j, j < n → (od_ins i w r).2 j = g ((od_ins i w r).1 j)
  | 0, _, _, _, _, h, j, hj => h j hj
  | i + 1, n, w, r, hi, h, j, hj => by
    by_cases hb : od_bad r i
    · simp only [od_ins, if_pos hb]
      refine od_ins_cl i n _ _ (by omega) (fun j hj => ?_) j hj
      simp only [od_sw]
      split
      · exact h _ hi
      · split
        · exact h _ (by omega)
        · exact h _ hj
    · simp only [od_ins, if_neg hb]
      exact h j hj
theorem od_sort_cl {g : Int32 → Int32} : ∀ (k n : Nat) (w r : Nat → Int32), k ≤ n → (∀ j, j < n → r j = g (w j)) → ∀ j, j < n → (od_sort k w r).2 j = g ((od_sort k w r).1 j)
  | 0, _, _, _, _, h, j, hj => h j hj
  | k + 1, n, w, r, hk, h, j, hj => od_ins_cl k n _ _ (by omega) (fun j hj => od_sort_cl k n w r (by omega) h j hj) j hj
/-- what all characters satisfy they satisfy afterwards -/
theorem od_ins_al {Q : Int32 → Prop} : ∀ (i n : Nat) (w r : Nat → Int32), i < n → (∀ j, j < n → Q (w j)) → ∀ j, j < n → Q ((od_ins i w r).1 j)
  | 0, _, _, _, _, h, j, hj => h j hj
  | i + 1, n, w, r, hi, h, j, hj => by
    by_cases hb : od_bad r i
    · simp only [od_ins, if_pos hb]
      refine od_ins_al i n _ _ (by omega) (fun j hj => ?_) j hj
      simp only [od_sw]
      split
      · exact h _ hi
      · split
        · exact h _ (by omega)
        · exact h _ hj
    · simp only [od_ins, if_neg hb]
      exact h j hj
theorem od_sort_al {Q : Int32 → Prop} : ∀ (k n : Nat) (w r : Nat → Int32), k ≤ n → (∀ j, j < n → Q (w j)) → ∀ j, j < n → Q ((od_sort k w r).1 j)
  | 0, _, _, _, _, h, j, hj => h j hj
  | k + 1, n, w, r, hk, h, j, hj => od_ins_al k n _ _ (by omega) (fun j hj => od_sort_al k n w r (by omega) h j hj) j hj
