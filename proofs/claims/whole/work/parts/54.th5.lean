/-! Pure: rows found by hash. sl: 256 slots, each with a row's number and one more, or 0; own: the rows' characters, n of them. -/
def hs_h (c : Int32) : Nat := c.toBitVec.toNat % 256
def hs_z (sl : Nat → Int32) : Nat → Nat
  | 0 => 0
  | m + 1 => hs_z sl m + (if sl m = 0 then 1 else 0)
theorem hs_z_upd {sl : Nat → Int32} {s : Nat} {v : Int32} : ∀ m, hs_z sl m ≤ hs_z (upd sl s v) m + (if s < m then 1 else 0)
  | 0 => Nat.zero_le _
  | m + 1 => by
    have h := hs_z_upd (sl := sl) (s := s) (v := v) m
    unfold hs_z
    rcases Nat.lt_trichotomy s m with hs | hs | hs
    · rw [pk_un (by omega : m ≠ s), if_pos (by omega : s < m + 1)]
      rw [if_pos hs] at h
      omega
    · subst hs
      rw [if_pos (Nat.lt_succ_self s)]
      rw [if_neg (Nat.lt_irrefl s)] at h
      have : (if sl s = 0 then 1 else 0) ≤ 1 := by split <;> omega
      omega
    · rw [pk_un (by omega : m ≠ s), if_neg (by omega : ¬ s < m + 1)]
      rw [if_neg (by omega : ¬ s < m)] at h
      omega
theorem hs_z_ex {sl : Nat → Int32} : ∀ m, 0 < hs_z sl m → ∃ s, s < m ∧ sl s = 0
  | 0, h => absurd h (Nat.lt_irrefl 0)
  | m + 1, h => by
    by_cases h0 : sl m = 0
    · exact ⟨m, Nat.lt_succ_self m, h0⟩
    · unfold hs_z at h
      rw [if_neg h0] at h
      obtain ⟨s, h1, h2⟩ := hs_z_ex m h
      exact ⟨s, Nat.lt_succ_of_lt h1, h2⟩
theorem hs_z_all {sl : Nat → Int32} (h : ∀ s, sl s = 0) : ∀ m, hs_z sl m = m
  | 0 => rfl
  | m + 1 => by unfold hs_z; rw [hs_z_all h m, if_pos (h m)]
def hs_ok (sl own : Nat → Int32) (n : Nat) : Prop :=
  256 ≤ hs_z sl 256 + n ∧ (∀ s, s < 256 → sl s = 0 ∨ ∃ j, j < n ∧ sl s = nI (j + 1)) ∧ (∀ j, j < n → ∃ d, d < 256 ∧ sl ((hs_h (own j) + d) % 256) = nI (j + 1) ∧ ∀ e, e < d → ¬ sl ((hs_h (own j) + e) % 256) = 0)
/-- where the search for c ends, d slots on -/
def hs_stop (sl own : Nat → Int32) (n : Nat) (c : Int32) (d : Nat) : Prop := sl ((hs_h c + d) % 256) = 0 ∨ ∃ j, j < n ∧ sl ((hs_h c + d) % 256) = nI (j + 1) ∧ own j = c
theorem hs_find {sl own : Nat → Int32} {n : Nat} (h : hs_ok sl own n) (hn : n ≤ 120) (c : Int32) : ∃ d, d < 256 ∧ hs_stop sl own n c d ∧ ∀ e, e < d → ¬ hs_stop sl own n c e := by
  obtain ⟨s, hs1, hs2⟩ := hs_z_ex (sl := sl) 256 (by have := h.1; omega)
  have ex : ∃ k, hs_stop sl own n c k := by
    refine ⟨(256 + s - hs_h c % 256) % 256, Or.inl ?_⟩
    have : (hs_h c + (256 + s - hs_h c % 256) % 256) % 256 = s := by
      have : hs_h c < 256 := Nat.mod_lt _ (by decide)
      omega
    rw [this]; exact hs2
  obtain ⟨d, h1, h2⟩ := pk_least _ ex
  refine ⟨d, ?_, h1, h2⟩
  rcases Nat.lt_or_ge d 256 with hd | hd
  · exact hd
  · refine absurd ?_ (h2 (d % 256) (by have := Nat.mod_lt d (show 256 > 0 by decide); omega))
    have e : (hs_h c + d % 256) % 256 = (hs_h c + d) % 256 := by omega
    unfold hs_stop
    rw [e]
    exact h1
/-- a character with a row: the row is found -/
theorem hs_row {sl own : Nat → Int32} {n : Nat} (h : hs_ok sl own n) (hn : n ≤ 120) (hd : ∀ i j, i < n → j < n → own i = own j → i = j) {c : Int32} {j d : Nat} (hj : j < n) (hc : own j = c)
    (hs : hs_stop sl own n c d) (hf : ∀ e, e < d → ¬ hs_stop sl own n c e) : sl ((hs_h c + d) % 256) = nI (j + 1) := by
  rcases hs with h0 | ⟨k, hk, h1, h2⟩
  · obtain ⟨d2, hd1, hd2, hd3⟩ := h.2.2 j hj
    rw [hc] at hd2 hd3
    rcases Nat.lt_trichotomy d d2 with hl | rfl | hl
    · exact absurd h0 (hd3 d hl)
    · exact hd2
    · exact absurd (Or.inr ⟨j, hj, hd2, hc⟩) (hf d2 hl)
  · rw [h1, hd k j hk hj (h2.trans hc.symm)]
/-- a character without: an empty slot is found -/
theorem hs_none {sl own : Nat → Int32} {n : Nat} {c : Int32} {d : Nat} (hc : ∀ j, j < n → ¬ own j = c) (hs : hs_stop sl own n c d) : sl ((hs_h c + d) % 256) = 0 := by
  rcases hs with h0 | ⟨k, hk, -, h2⟩
  · exact h0
  · exact absurd h2 (hc k hk)
/-- a row more -/
theorem hs_add {sl own : Nat → Int32} {n : Nat} (h : hs_ok sl own n) (hn : n < 120) {c : Int32} {d : Nat} (hd : d < 256) (hc : ∀ j, j < n → ¬ own j = c)
    (hs : hs_stop sl own n c d) (hf : ∀ e, e < d → ¬ hs_stop sl own n c e) : hs_ok (upd sl ((hs_h c + d) % 256) (nI (n + 1))) (upd own n c) (n + 1) := by
  have h0 := hs_none hc hs
  obtain ⟨s, hse⟩ : ∃ s, s = (hs_h c + d) % 256 := ⟨_, rfl⟩
  have hsl : s < 256 := by rw [hse]; exact Nat.mod_lt _ (by decide)
  rw [← hse] at h0 ⊢
  have nz : ∀ k, k < 2 ^ 31 → ¬ k + 1 = 2 ^ 31 → ¬ nI (k + 1) = 0 := fun k h1 h2 => nI_ne0 (by omega) (by omega)
  refine ⟨?_, fun t ht => ?_, fun j hj => ?_⟩
  · have h1 := hs_z_upd (sl := sl) (s := s) (v := nI (n + 1)) 256
    have h2 := h.1
    rw [if_pos hsl] at h1
    omega
  · by_cases e : t = s
    · subst e
      exact Or.inr ⟨n, Nat.lt_succ_self n, pk_us⟩
    · rw [pk_un e]
      rcases h.2.1 t ht with h1 | ⟨j, h1, h2⟩
      · exact Or.inl h1
      · exact Or.inr ⟨j, by omega, h2⟩
  · rcases Nat.lt_or_ge j n with hjn | hjn
    · obtain ⟨d2, hd1, hd2, hd3⟩ := h.2.2 j hjn
      rw [pk_un (by omega : j ≠ n)]
      refine ⟨d2, hd1, ?_, fun e he => ?_⟩
      · rw [pk_un (fun e => nz j (by omega) (by omega) (by rw [← hd2, e]; exact h0))]
        exact hd2
      · by_cases e2 : (hs_h (own j) + e) % 256 = s
        · rw [e2, pk_us]; exact nz n (by omega) (by omega)
        · rw [pk_un e2]; exact hd3 e he
    · obtain rfl : j = n := by omega
      rw [pk_us]
      refine ⟨d, hd, ?_, fun e he => ?_⟩
      · rw [← hse]; exact pk_us
      · by_cases e2 : (hs_h c + e) % 256 = s
        · rw [e2, pk_us]; exact nz j (by omega) (by omega)
        · rw [pk_un e2]; exact fun z => hf e he (Or.inl z)
theorem hs_0 {sl own : Nat → Int32} (h : ∀ s, sl s = 0) : hs_ok sl own 0 :=
  ⟨by rw [hs_z_all h]; exact Nat.le_refl _, fun s _ => Or.inl (h s), fun j hj => absurd hj (Nat.not_lt_zero j)⟩
