/-! Pure: rows without circles. tp_ok ch l: l holds rows, the later ones first; the rows that a row needs (ch) stand behind it. -/
def tp_ok (ch : Nat → Nat → Prop) : List Nat → Prop
  | [] => True
  | j :: l => (j ∉ l ∧ ∀ k, ch j k → k ∈ l) ∧ tp_ok ch l
theorem tp_mono {ch ch' : Nat → Nat → Prop} : ∀ {l : List Nat}, (∀ j ∈ l, ∀ k, ch' j k → ch j k) → tp_ok ch l → tp_ok ch' l
  | [], _, _ => trivial
  | j :: l, h, ⟨⟨h1, h2⟩, h3⟩ => ⟨⟨h1, fun k hk => h2 k (h j List.mem_cons_self k hk)⟩, tp_mono (fun i hi => h i (List.mem_cons_of_mem _ hi)) h3⟩
theorem tp_filter {ch : Nat → Nat → Prop} {R : Nat → Bool} (hR : ∀ j k, ch j k → R k = true → R j = true) : ∀ {l : List Nat}, tp_ok ch l → tp_ok ch (l.filter (fun j => !R j))
  | [], _ => trivial
  | j :: l, ⟨⟨h1, h2⟩, h3⟩ => by
    by_cases hj : R j = true
    · rw [List.filter_cons_of_neg (by simp [hj])]
      exact tp_filter hR h3
    · rw [List.filter_cons_of_pos (by simp [hj])]
      refine ⟨⟨fun h => h1 (List.mem_filter.mp h).1, fun k hk => List.mem_filter.mpr ⟨h2 k hk, ?_⟩⟩, tp_filter hR h3⟩
      cases hk2 : R k with
      | true => exact absurd (hR j k hk hk2) hj
      | false => rfl
theorem tp_ins {ch ch' : Nat → Nat → Prop} {R : Nat → Bool} {n : Nat} {l0 : List Nat} (hR : ∀ j k, ch j k → R k = true → R j = true) (hn : n ∉ l0)
    (hc1 : ∀ j ∈ l0, ∀ k, ch' j k → ch j k ∨ (k = n ∧ R j = true)) (hc2 : ∀ k, ch' n k → k ∈ l0 ∧ R k = false) (h0 : tp_ok ch l0) :
    tp_ok ch' (l0.filter R ++ n :: l0.filter (fun j => !R j)) := by
  have hb : tp_ok ch' (l0.filter (fun j => !R j)) := by
    refine tp_mono (fun j hj k hk => ?_) (tp_filter hR h0)
    obtain ⟨hj1, hj2⟩ := List.mem_filter.mp hj
    rcases hc1 j hj1 k hk with h | ⟨-, h⟩
    · exact h
    · simp [h] at hj2
  have hb2 : tp_ok ch' (n :: l0.filter (fun j => !R j)) :=
    ⟨⟨fun h => hn (List.mem_filter.mp h).1, fun k hk => List.mem_filter.mpr ⟨(hc2 k hk).1, by simp [(hc2 k hk).2]⟩⟩, hb⟩
  have main : ∀ l : List Nat, (∀ k ∈ l, k ∈ l0) → tp_ok ch l → tp_ok ch' (l.filter R ++ n :: l0.filter (fun j => !R j)) := by
    intro l
    induction l with
    | nil => intro _ _; exact hb2
    | cons j l ih =>
      intro hs h
      obtain ⟨⟨h1, h2⟩, h3⟩ := h
      have hs' : ∀ k ∈ l, k ∈ l0 := fun k hk => hs k (List.mem_cons_of_mem _ hk)
      have hj0 := hs j List.mem_cons_self
      by_cases hj : R j = true
      · rw [List.filter_cons_of_pos hj]
        refine ⟨⟨fun h => ?_, fun k hk => ?_⟩, ih hs' h3⟩
        · rcases List.mem_append.mp h with h | h
          · exact h1 (List.mem_filter.mp h).1
          · rcases List.mem_cons.mp h with h | h
            · exact hn (h ▸ hj0)
            · have := (List.mem_filter.mp h).2
              simp [hj] at this
        · rcases hc1 j hj0 k hk with h | ⟨rfl, -⟩
          · have hkl := h2 k h
            cases hk2 : R k with
            | true => exact List.mem_append_left _ (List.mem_filter.mpr ⟨hkl, hk2⟩)
            | false => exact List.mem_append_right _ (List.mem_cons_of_mem _ (List.mem_filter.mpr ⟨hs' k hkl, by simp [hk2]⟩))
          · exact List.mem_append_right _ List.mem_cons_self
      · rw [List.filter_cons_of_neg hj]
        exact ih hs' h3
  exact main l0 (fun _ h => h) h0
theorem tp_len {R : Nat → Bool} : ∀ (l : List Nat), (l.filter R).length + (l.filter (fun j => !R j)).length = l.length
  | [] => rfl
  | j :: l => by
    have h := tp_len (R := R) l
    cases hj : R j with
    | true => rw [List.filter_cons_of_pos hj, List.filter_cons_of_neg (by simp [hj]), List.length_cons, List.length_cons]; omega
    | false => rw [List.filter_cons_of_neg (by simp [hj]), List.filter_cons_of_pos (by simp [hj]), List.length_cons, List.length_cons]; omega
def tp_rk : List Nat → Nat → Nat
  | [], _ => 0
  | j :: l, k => if k = j then l.length + 1 else tp_rk l k
theorem tp_rk_le : ∀ (l : List Nat) (k : Nat), tp_rk l k ≤ l.length
  | [], _ => Nat.le_refl 0
  | j :: l, k => by
    have h := tp_rk_le l k
    unfold tp_rk
    rw [List.length_cons]
    split <;> omega
theorem tp_rk_pos : ∀ (l : List Nat) (k : Nat), k ∈ l → 1 ≤ tp_rk l k
  | [], _, h => nomatch h
  | j :: l, k, h => by
    unfold tp_rk
    split
    · omega
    · rename_i hk
      rcases List.mem_cons.mp h with h | h
      · exact absurd h hk
      · exact tp_rk_pos l k h
theorem tp_in {ch : Nat → Nat → Prop} : ∀ {l : List Nat}, tp_ok ch l → ∀ j ∈ l, ∀ k, ch j k → k ∈ l
  | [], _, _, h, _, _ => nomatch h
  | i :: l, ⟨⟨_, h2⟩, h3⟩, j, hj, k, hk => by
    rcases List.mem_cons.mp hj with rfl | hj
    · exact List.mem_cons_of_mem _ (h2 k hk)
    · exact List.mem_cons_of_mem _ (tp_in h3 j hj k hk)
theorem tp_rk_lt {ch : Nat → Nat → Prop} : ∀ {l : List Nat}, tp_ok ch l → ∀ j ∈ l, ∀ k, ch j k → tp_rk l k < tp_rk l j
  | [], _, _, h, _, _ => nomatch h
  | i :: l, ⟨⟨h1, h2⟩, h3⟩, j, hj, k, hk => by
    rcases List.mem_cons.mp hj with rfl | hj
    · have hkl := h2 k hk
      have hne : k ≠ j := fun e => h1 (e ▸ hkl)
      have h4 := tp_rk_le l k
      simp only [tp_rk, if_neg hne, if_true]
      omega
    · have hkl := tp_in h3 j hj k hk
      have hne : k ≠ i := fun e => h1 (e ▸ hkl)
      have hnj : j ≠ i := fun e => h1 (e ▸ hj)
      simp only [tp_rk, if_neg hne, if_neg hnj]
      exact tp_rk_lt h3 j hj k hk
