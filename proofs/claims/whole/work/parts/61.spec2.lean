/-! What the class's rows answer. -/
theorem nI_inj {a b : Nat} (ha : a < 2 ^ 31) (hb : b < 2 ^ 31) (h : nI a = nI b) : a = b := (nI_eq ha hb).mp h
theorem s_X4_slotFor {post : Int32 → Prop} {ch sl : Nat → Int32} {n : Nat} {c : Int32} (hok : hs_ok sl ch n) (hn : n ≤ 120)
    (h : ∀ d, d < 256 → hs_stop sl ch n c d → (∀ e, e < d → ¬ hs_stop sl ch n c e) → post (nI ((hs_h c + d) % 256))) : w_X4_slotFor post ch sl c := by
  obtain ⟨d, hd, hs, hf⟩ := hs_find hok hn c
  have hp := h d hd hs hf
  have main : ∀ r i, i + r = d → w_X4_slotFor_8 post ch sl c (r + 1) (nI ((hs_h c + i) % 256)) (nI i) := by
    intro r
    induction r with
    | zero =>
      intro i hi
      obtain rfl : i = d := by omega
      obtain ⟨x, hx⟩ : ∃ x, x = (hs_h c + i) % 256 := ⟨_, rfl⟩
      have hx2 : x < 256 := by rw [hx]; exact Nat.mod_lt _ (by decide)
      unfold hs_stop at hs
      rw [← hx] at hp hs ⊢
      unfold w_X4_slotFor_8
      rw [nI_clamp (by omega : x < 2 ^ 31)]
      refine ⟨fun _ => hp, fun _ => ⟨vp_in_nI hx2 (by decide), fun _ => hp, fun h1 => ?_⟩⟩
      rcases hs with h0 | ⟨j, hj, h2, h3⟩
      · rw [h0] at h1; exact absurd (by decide) h1
      · rw [h2, nI_pred, nI_clamp (by omega : j < 2 ^ 31)]
        exact ⟨vp_in_nI (by omega) (by decide), fun h4 => absurd h3 h4, fun _ => hp⟩
    | succ r ih =>
      intro i hi
      have hns := hf i (by omega)
      have ih2 := ih (i + 1) (by omega)
      obtain ⟨x, hx⟩ : ∃ x, x = (hs_h c + i) % 256 := ⟨_, rfl⟩
      have hx2 : x < 256 := by rw [hx]; exact Nat.mod_lt _ (by decide)
      have hx3 : (hs_h c + (i + 1)) % 256 = (x + 1) % 256 := by omega
      rw [hx3] at ih2
      unfold hs_stop at hns
      rw [← hx] at hns ⊢
      unfold w_X4_slotFor_8
      rw [nI_clamp (by omega : x < 2 ^ 31)]
      refine ⟨fun h1 => ?_, fun _ => ⟨vp_in_nI hx2 (by decide), fun h1 => ?_, fun h1 => ?_⟩⟩
      · rw [show (256 : Int32) = nI 256 from rfl, nI_leI (by decide) (by omega)] at h1
        omega
      · rcases hok.2.1 x hx2 with h0 | ⟨j, hj, h2⟩
        · exact absurd (Or.inl h0) hns
        · rw [h2, nI_pred] at h1
          exact absurd h1 (nI_pos (by omega))
      · rcases hok.2.1 x hx2 with h0 | ⟨j, hj, h2⟩
        · exact absurd (Or.inl h0) hns
        · rw [h2, nI_pred, nI_clamp (by omega : j < 2 ^ 31)]
          refine ⟨vp_in_nI (by omega) (by decide), fun h3 => ?_, fun h3 => absurd (Or.inr ⟨j, hj, h2, h3⟩) hns⟩
          rw [nI_1, nI_1, pk_andN (by omega) 8 (by decide)]
          exact ih2
  refine ⟨d + 1, ?_⟩
  have := main d 0 (by omega)
  rw [nI_0] at this
  rw [pk_and c 8 (by decide)]
  have e : (hs_h c + 0) % 256 = c.toBitVec.toNat % 2 ^ 8 := by
    unfold hs_h
    omega
  rw [e] at this
  exact this
theorem s_X4_find {post : Int32 → Prop} {ch sl : Nat → Int32} {n : Nat} {c : Int32} (hok : hs_ok sl ch n) (hn : n ≤ 120) (hd : ∀ i j, i < n → j < n → ch i = ch j → i = j) (h : post (o1 (ri ch n c))) : w_X4_find post ch sl c := by
  refine s_X4_slotFor hok hn (fun d hd1 hs hf => ?_)
  have hx2 : (hs_h c + d) % 256 < 256 := Nat.mod_lt _ (by decide)
  refine ⟨vp_in_nI hx2 (by decide), ?_⟩
  rw [nI_clamp (by omega)]
  cases hr : ri ch n c with
  | none =>
    rw [hs_none (ri_none hr) hs]
    rw [hr] at h
    exact h
  | some j =>
    obtain ⟨h1, h2⟩ := ri_some hr
    rw [hs_row hok hn hd h1 h2 hs hf, nI_pred]
    rw [hr] at h
    exact h
theorem o1_neg {o : Option Nat} {N : Nat} (h : ∀ j, o = some j → j < N) (hN : N < 2 ^ 31) : o1 o < 0 ↔ o = none := by
  cases o with
  | none => exact ⟨fun _ => rfl, fun _ => by decide⟩
  | some j => exact ⟨fun z => absurd z (nI_pos (by have := h j rfl; omega)), fun z => nomatch z⟩
theorem s_X4_has {post : Int32 → Prop} {ch sl : Nat → Int32} {n : Nat} {c : Int32} (hok : hs_ok sl ch n) (hn : n ≤ 120) (hd : ∀ i j, i < n → j < n → ch i = ch j → i = j) (h : post (if (ri ch n c).isSome then 1 else 0)) : w_X4_has post ch sl c := by
  refine s_X4_find hok hn hd ?_
  cases hr : ri ch n c with
  | none =>
    rw [hr] at h
    exact ⟨fun _ => h, fun z => absurd rfl z⟩
  | some j =>
    have hj := (ri_some hr).1
    rw [hr] at h
    refine ⟨fun z => ?_, fun _ => h⟩
    have e : nI j = -1 := z
    have := nI_toInt (n := j) (by omega)
    rw [e] at this
    have e2 : ((-1 : Int32)).toInt = -1 := by decide
    omega
