/-! Rows: whole and wholeOf, composites. -/
def swh (a b : Int32) : Int32 := if ¬ a - 4352 < 0 ∧ ¬ 19 ≤ a - 4352 ∧ ¬ b - 4449 < 0 ∧ ¬ 21 ≤ b - 4449 then 44032 + ((a - 4352) * 21 + (b - 4449)) * 28 else if sy a ∧ sy_t a = 0 ∧ ¬ b - 4519 ≤ 0 ∧ ¬ 28 ≤ b - 4519 then a + (b - 4519) else -1
theorem s_X5_whole {post : Int32 → Prop} {a b : Int32} (h : post (swh a b)) : w_X5_whole post a b := by
  have lo : ¬ (¬ a - 4352 < 0 ∧ ¬ 19 ≤ a - 4352 ∧ ¬ b - 4449 < 0 ∧ ¬ 21 ≤ b - 4449) → w_X5_whole_45 post a b := by
    intro z
    unfold swh at h
    rw [if_neg z] at h
    refine s_X5_has ?_
    by_cases hs : sy a
    · rw [if_pos hs]
      refine c_1 (s_X5_hasTail ?_)
      by_cases ht : sy_t a = 0
      · rw [if_pos ht]
        refine n_0 ⟨fun y => ?_, fun y => ⟨fun x => ?_, fun x => ?_⟩⟩
        · rwa [if_neg (fun q => q.2.2.1 y)] at h
        · rwa [if_neg (fun q => q.2.2.2 x)] at h
        · rwa [if_pos ⟨hs, ht, y, x⟩] at h
      · rw [if_neg ht]
        rw [if_neg (fun q => ht q.2.1)] at h
        exact n_1 h
    · rw [if_neg hs]
      rw [if_neg (fun q => hs q.1)] at h
      exact c_0 h
  refine ⟨fun z => lo (fun q => q.1 z), fun z => ⟨fun y => lo (fun q => q.2.1 y), fun y => ⟨fun x => lo (fun q => q.2.2.1 x), fun x => ⟨fun w => lo (fun q => q.2.2.2 w), fun w => ?_⟩⟩⟩⟩
  unfold swh at h
  rwa [if_pos ⟨z, y, x, w⟩] at h
/-- the last of the first n rows that is a, b and not LOOSE -/
def pm (fi se lo : Nat → Int32) (a b : Int32) : Nat → Option Nat
  | 0 => none
  | n + 1 => if se n = b ∧ fi n = a ∧ lo n = 0 then some n else pm fi se lo a b n
theorem pm_some {fi se lo : Nat → Int32} {a b : Int32} : ∀ {n j : Nat}, pm fi se lo a b n = some j → j < n ∧ se j = b ∧ fi j = a ∧ lo j = 0
  | 0, j, h => by simp [pm] at h
  | n + 1, j, h => by
    unfold pm at h
    split at h
    · rename_i q; cases h; exact ⟨Nat.lt_succ_self n, q⟩
    · have := pm_some h; exact ⟨by omega, this.2⟩
theorem pm_none {fi se lo : Nat → Int32} {a b : Int32} : ∀ {n : Nat}, pm fi se lo a b n = none → ∀ j, j < n → ¬ (se j = b ∧ fi j = a ∧ lo j = 0)
  | 0, _, j, h => absurd h (Nat.not_lt_zero j)
  | n + 1, h, j, hj => by
    unfold pm at h
    split at h
    · cases h
    · rename_i q
      rcases Nat.lt_or_ge j n with h1 | h1
      · exact pm_none h j h1
      · obtain rfl : j = n := by omega
        exact q
def RowsU (n : Nat) (fi se lo : Nat → Int32) : Prop :=
  (∀ i j, i < n → j < n → lo i = 0 → lo j = 0 → ¬ se i = -1 → fi i = fi j → se i = se j → i = j) ∧ ∀ j, j < n → lo j = 0 → ¬ se j = -1 → swh (fi j) (se j) = -1
def wh (ch fi se lo : Nat → Int32) (n : Nat) (a b : Int32) : Int32 := match pm fi se lo a b n with | some j => ch j | none => swh a b
theorem s_X4_whole {post : Int32 → Prop} {n : Nat} {ch fi se lo : Nat → Int32} {a b : Int32} (hn : n ≤ 120) (hu : RowsU n fi se lo) (hb : ¬ b = -1) (h : post (wh ch fi se lo n a b)) : w_X4_whole post (nI n) ch fi se lo a b := by
  have main : ∀ r k, k + r = n → (∀ j, j < k → ¬ (se j = b ∧ fi j = a ∧ lo j = 0)) → w_X4_whole_2 post (w_X5_whole (fun r => post r) a b) (nI n) ch fi se lo a b (r + 1) (nI k) := by
    intro r
    induction r with
    | zero =>
      intro k hk hno
      obtain rfl : k = n := by omega
      refine ⟨fun _ => s_X5_whole ?_, fun z => absurd (Int32.le_refl _) z⟩
      unfold wh at h
      cases hp : pm fi se lo a b k with
      | none => rw [hp] at h; exact h
      | some j => exact absurd (pm_some hp).2 (hno j (pm_some hp).1)
    | succ r ih =>
      intro k hk hno
      have vk : vp_in (nI k) 120 := vp_in_nI (by omega) (by decide)
      have nx : ¬ (se k = b ∧ fi k = a ∧ lo k = 0) → w_X4_whole_2 post (w_X5_whole (fun r => post r) a b) (nI n) ch fi se lo a b (r + 1) (nI (k + 1)) := by
        intro q
        refine ih (k + 1) (by omega) (fun j hj => ?_)
        rcases Nat.lt_or_ge j k with h1 | h1
        · exact hno j h1
        · obtain rfl : j = k := by omega
          exact q
      unfold w_X4_whole_2
      rw [nI_clamp (by omega : k < 2 ^ 31), nI_1]
      refine ⟨fun z => ?_, fun _ => ⟨vk, fun z => nx (fun q => z q.1), fun z => ⟨vk, fun y => nx (fun q => y q.2.1), fun y => ⟨vk, fun x => nx (fun q => x q.2.2), fun x => ⟨vk, ?_⟩⟩⟩⟩⟩
      · rw [nI_leI (by omega) (by omega)] at z; omega
      · unfold wh at h
        cases hp : pm fi se lo a b n with
        | none => exact absurd ⟨z, y, x⟩ (pm_none hp k (by omega))
        | some j =>
          rw [hp] at h
          obtain ⟨j1, j2, j3, j4⟩ := pm_some hp
          rw [hu.1 j k j1 (by omega) j4 x (by rw [j2]; exact hb) (by rw [j3, y]) (by rw [j2, z])] at h
          exact h
  exact ⟨n + 1, main n 0 (by omega) (fun j hj => absurd hj (Nat.not_lt_zero j))⟩
theorem nsub {x K : Nat} (hx : x ≤ 1114111) (hK : K ≤ 1114111) : (nI x - nI K < 0 ↔ x < K) ∧ (∀ m : Nat, m ≤ 1114111 → (nI m ≤ nI x - nI K ↔ K + m ≤ x)) ∧ (nI x - nI K ≤ 0 ↔ x ≤ K) := by
  have h := pk_sub_toInt (a := x) (b := K) (by omega) (by omega)
  refine ⟨?_, fun m hm => ?_, ?_⟩
  · rw [Int32.lt_iff_toInt_lt, h, show ((0 : Int32)).toInt = 0 by decide]; omega
  · rw [Int32.le_iff_toInt_le, h, nI_toInt (by omega)]; omega
  · rw [Int32.le_iff_toInt_le, h, show ((0 : Int32)).toInt = 0 by decide]; omega
/-- the syllable of two characters, by their numbers -/
theorem swh_nat {x y : Nat} (hx : x ≤ 1114111) (hy : y ≤ 1114111) : swh (nI x) (nI y) = if 4352 ≤ x ∧ x ≤ 4370 ∧ 4449 ≤ y ∧ y ≤ 4469 then nI (44032 + ((x - 4352) * 21 + (y - 4449)) * 28) else if sy (nI x) ∧ sy_t (nI x) = 0 ∧ 4520 ≤ y ∧ y ≤ 4546 then nI (x + (y - 4519)) else -1 := by
  obtain ⟨a1, a2, -⟩ := nsub (x := x) (K := 4352) hx (by decide)
  obtain ⟨b1, b2, -⟩ := nsub (x := y) (K := 4449) hy (by decide)
  obtain ⟨-, c2, c3⟩ := nsub (x := y) (K := 4519) hy (by decide)
  have e1 : (¬ nI x - 4352 < 0 ∧ ¬ 19 ≤ nI x - 4352 ∧ ¬ nI y - 4449 < 0 ∧ ¬ 21 ≤ nI y - 4449) ↔ (4352 ≤ x ∧ x ≤ 4370 ∧ 4449 ≤ y ∧ y ≤ 4469) := by
    have a2 := a2 19 (by decide)
    have b2 := b2 21 (by decide)
    constructor
    · rintro ⟨q1, q2, q3, q4⟩
      have q1 : ¬ x < 4352 := fun z => q1 (a1.mpr z)
      have q2 : ¬ 4352 + 19 ≤ x := fun z => q2 (a2.mpr z)
      have q3 : ¬ y < 4449 := fun z => q3 (b1.mpr z)
      have q4 : ¬ 4449 + 21 ≤ y := fun z => q4 (b2.mpr z)
      omega
    · rintro ⟨q1, q2, q3, q4⟩
      exact ⟨fun z => by have := a1.mp z; omega, fun z => by have := a2.mp z; omega, fun z => by have := b1.mp z; omega, fun z => by have := b2.mp z; omega⟩
  have e2 : (¬ nI y - 4519 ≤ 0 ∧ ¬ 28 ≤ nI y - 4519) ↔ (4520 ≤ y ∧ y ≤ 4546) := by
    have c2 := c2 28 (by decide)
    constructor
    · rintro ⟨q1, q2⟩
      have q1 : ¬ y ≤ 4519 := fun z => q1 (c3.mpr z)
      have q2 : ¬ 4519 + 28 ≤ y := fun z => q2 (c2.mpr z)
      omega
    · rintro ⟨q1, q2⟩
      exact ⟨fun z => by have := c3.mp z; omega, fun z => by have := c2.mp z; omega⟩
  unfold swh
  by_cases h1 : 4352 ≤ x ∧ x ≤ 4370 ∧ 4449 ≤ y ∧ y ≤ 4469
  · rw [if_pos (e1.mpr h1), if_pos h1]
    rw [show (4352 : Int32) = nI 4352 from rfl, show (4449 : Int32) = nI 4449 from rfl, pk_sub h1.1, pk_sub h1.2.2.1, show (21 : Int32) = nI 21 from rfl, pk_mul, nI_add, show (28 : Int32) = nI 28 from rfl, pk_mul, show (44032 : Int32) = nI 44032 from rfl, nI_add]
  · rw [if_neg (fun q => h1 (e1.mp q)), if_neg h1]
    by_cases h2 : sy (nI x) ∧ sy_t (nI x) = 0 ∧ 4520 ≤ y ∧ y ≤ 4546
    · rw [if_pos ⟨h2.1, h2.2.1, (e2.mpr h2.2.2)⟩, if_pos h2, show (4519 : Int32) = nI 4519 from rfl, pk_sub (by omega), nI_add]
    · rw [if_neg (fun q => h2 ⟨q.1, q.2.1, e2.mp q.2.2⟩), if_neg h2]
theorem swh_ich {a b : Int32} (ha : ich a) (hb : ich b) : swh a b = -1 ∨ sy (swh a b) := by
  obtain ⟨x, hx, rfl⟩ := ich_nat ha
  obtain ⟨y, hy, rfl⟩ := ich_nat hb
  have q : ∀ k : Nat, 44032 ≤ k → k ≤ 55203 → sy (nI k) := fun k h1 h2 => ⟨by rw [show (44032 : Int32) = nI 44032 from rfl, nI_leI (by decide) (by omega)]; exact h1, by rw [show (55203 : Int32) = nI 55203 from rfl, nI_leI (by omega) (by decide)]; exact h2⟩
  rw [swh_nat hx hy]
  split
  · right; exact q _ (by omega) (by omega)
  · split
    · rename_i h
      right
      obtain ⟨s, hs, e, et, -⟩ := sy_nat h.1
      have e := nI_inj (by omega) (by omega) e
      have h1 := h.2.1
      rw [et, show (0 : Int32) = nI 0 from rfl, nI_eq (by omega) (by decide)] at h1
      exact q _ (by omega) (by omega)
    · left; rfl
theorem s_X7_wholeOf_104 {post : Int32 → Prop} {n : Nat} {ch fi se th lo pt : Nat → Int32} {a b : Int32} (hn : n ≤ 120) (hp : PtOk fi se th pt) (h : post (match pm fi se lo a b n with | some j => ch j | none => -1)) : ∃ k, w_X7_wholeOf_104 post (nI n) ch lo pt a b k (-1) 0 := by
  have main : ∀ r k, k + r = n → w_X7_wholeOf_104 post (nI n) ch lo pt a b (r + 1) (match pm fi se lo a b k with | some j => ch j | none => -1) (nI k) := by
    intro r
    induction r with
    | zero =>
      intro k hk
      obtain rfl : k = n := by omega
      exact ⟨fun _ => h, fun z => absurd (Int32.le_refl _) z⟩
    | succ r ih =>
      intro k hk
      have ih2 := ih (k + 1) (by omega)
      unfold pm at ih2
      obtain ⟨p0, p1, p2⟩ := hp k (by omega)
      have vk : vp_in (nI k) 120 := vp_in_nI (by omega) (by decide)
      unfold w_X7_wholeOf_104
      rw [show (3 : Int32) = nI 3 from rfl, pk_mul, nI_1, nI_1, nI_clamp (by omega : k < 2 ^ 31), nI_clamp (by omega : 3 * k < 2 ^ 31), nI_clamp (by omega : 3 * k + 1 < 2 ^ 31), p0, p1]
      refine ⟨fun z => ?_, fun _ => ⟨vk, fun z => ?_, fun z => ⟨vp_in_nI (by omega) (by decide), fun y => ?_, fun y => ⟨vp_in_nI (by omega) (by decide), fun x => ?_, fun x => ⟨vk, ?_⟩⟩⟩⟩⟩
      · rw [nI_leI (by omega) (by omega)] at z; omega
      · rwa [if_neg (fun q => z q.2.2)] at ih2
      · rwa [if_neg (fun q => y q.2.1)] at ih2
      · rwa [if_neg (fun q => x q.1)] at ih2
      · rwa [if_pos ⟨x, y, z⟩] at ih2
  exact ⟨n + 1, main n 0 (by omega)⟩
theorem s_X7_wholeOf {post : Int32 → Prop} {n : Nat} {ch fi se th lo pt : Nat → Int32} {a b : Int32} (hn : n ≤ 120) (hu : RowsU n fi se lo) (hp : PtOk fi se th pt) (ha : ich a) (hb : ich b) (h : post (wh ch fi se lo n a b)) : w_X7_wholeOf post (nI n) ch lo pt a b := by
  have hb1 : ¬ b = -1 := fun e => by rw [e] at hb; exact m1_ich hb
  have hs : ¬ swh a b = -1 → post (swh a b) := by
    intro z
    unfold wh at h
    cases hq : pm fi se lo a b n with
    | none => rw [hq] at h; exact h
    | some j =>
      obtain ⟨j1, j2, j3, j4⟩ := pm_some hq
      have := hu.2 j j1 j4 (by rw [j2]; exact hb1)
      rw [j2, j3] at this
      exact absurd this z
  have hl : swh a b = -1 → ∃ k, w_X7_wholeOf_104 post (nI n) ch lo pt a b k (-1) 0 := by
    intro z
    refine s_X7_wholeOf_104 (fi := fi) (se := se) (th := th) hn hp ?_
    unfold wh at h
    cases hq : pm fi se lo a b n with
    | none => rw [hq, z] at h; exact h
    | some j => rw [hq] at h; exact h
  obtain ⟨x, hx, rfl⟩ := ich_nat ha
  obtain ⟨y, hy, rfl⟩ := ich_nat hb
  have e := swh_nat hx hy
  have lt : ∀ K : Nat, K ≤ 1114111 → ∀ z : Nat, z ≤ 1114111 → (nI z < nI K ↔ z < K) := fun K hK z hz => nI_ltI (by omega) (by omega)
  have ltr : ∀ K : Nat, K ≤ 1114111 → ∀ z : Nat, z ≤ 1114111 → (nI K < nI z ↔ K < z) := fun K hK z hz => nI_ltI (by omega) (by omega)
  have go : ¬ (4352 ≤ x ∧ x ≤ 4370 ∧ 4449 ≤ y ∧ y ≤ 4469) → w_X7_wholeOf_32 post (nI n) ch lo pt (nI x) (nI y) := by
    intro z
    rw [if_neg z] at e
    refine c_0 (s_X7_isSyllable ?_)
    by_cases h1 : sy (nI x)
    · rw [if_pos h1]
      refine c_1 ⟨fun w => hl ?_, fun w => ⟨fun v => hl ?_, fun v => ⟨fun u => hl ?_, fun u => ?_⟩⟩⟩
      · rw [e, if_neg (fun q => w q.2.1)]
      · have v := (lt 4520 (by decide) y hy).mp v
        rw [e, if_neg (by omega)]
      · have u := (ltr 4546 (by decide) y hy).mp u
        rw [e, if_neg (by omega)]
      · have v : ¬ y < 4520 := fun q => v ((lt 4520 (by decide) y hy).mpr q)
        have u : ¬ 4546 < y := fun q => u ((ltr 4546 (by decide) y hy).mpr q)
        rw [if_pos ⟨h1, w, by omega, by omega⟩] at e
        rw [e] at hs
        have := hs (nI_nm1 (by omega))
        rw [nI_add, show (4519 : Int32) = nI 4519 from rfl, pk_sub (by omega), show x + y - 4519 = x + (y - 4519) by omega]
        exact this
    · rw [if_neg h1]
      refine c_0 (hl ?_)
      rw [e, if_neg (fun q => h1 q.1)]
  refine ⟨fun z => go ?_, fun z => ⟨fun w => go ?_, fun w => ⟨fun v => go ?_, fun v => ⟨fun u => go ?_, fun u => c_1 ?_⟩⟩⟩⟩
  · have z := (lt 4352 (by decide) x hx).mp z; omega
  · have w := (ltr 4370 (by decide) x hx).mp w; omega
  · have v := (lt 4449 (by decide) y hy).mp v; omega
  · have u := (ltr 4469 (by decide) y hy).mp u; omega
  · have z : ¬ x < 4352 := fun q => z ((lt 4352 (by decide) x hx).mpr q)
    have w : ¬ 4370 < x := fun q => w ((ltr 4370 (by decide) x hx).mpr q)
    have v : ¬ y < 4449 := fun q => v ((lt 4449 (by decide) y hy).mpr q)
    have u : ¬ 4469 < y := fun q => u ((ltr 4469 (by decide) y hy).mpr q)
    rw [if_pos (by omega)] at e
    rw [e] at hs
    have := hs (nI_nm1 (by omega))
    rw [show (4352 : Int32) = nI 4352 from rfl, pk_sub (by omega), show (21 : Int32) = nI 21 from rfl, pk_mul, nI_add, show (4449 : Int32) = nI 4449 from rfl, pk_sub (by omega), show (28 : Int32) = nI 28 from rfl, pk_mul, show (44032 : Int32) = nI 44032 from rfl, nI_add, show (x - 4352) * 21 + y - 4449 = (x - 4352) * 21 + (y - 4449) by omega]
    exact this
