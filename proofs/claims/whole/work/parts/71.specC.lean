/-! Marks put into order: class and reference. -/
theorem s_X0_readClasses {post : (Nat → Int32) → Prop} {C cl0 mf ml mv : Nat → Int32} {s m : Nat} (hs : s ≤ 2000) (hm : m ≤ 60) (h : ∀ cl : Nat → Int32, (∀ j, j < s → cl j = rg mf ml mv m (C j)) → post cl) : w_X0_readClasses post (nI s) C cl0 (nI m) mf ml mv := by
  have lp : ∀ r k (cl : Nat → Int32), k + r = s → (∀ j, j < k → cl j = rg mf ml mv m (C j)) → w_X0_readClasses_2 post (nI s) C (nI m) mf ml mv (r + 1) (nI k) cl := by
    intro r
    induction r with
    | zero =>
      intro k cl hk hw
      obtain rfl : k = s := by omega
      exact ⟨fun _ => h cl hw, fun z => absurd (Int32.le_refl _) z⟩
    | succ r ih =>
      intro k cl hk hw
      unfold w_X0_readClasses_2
      rw [nI_1, nI_clamp (by omega : k < 2 ^ 31)]
      refine pk_le s k (fun z => absurd z (by omega)) (fun _ => ⟨pk_in k 2000 (by omega), s_X2_valueOf hm ⟨pk_in k 2000 (by omega), ih (k + 1) _ (by omega) (fun j hj => ?_)⟩⟩)
      rw [pt_upd]
      split
      · rename_i h; rw [h]
      · exact hw j (by omega)
  exact ⟨s + 1, lp s 0 cl0 (by omega) (fun j hj => absurd hj (Nat.not_lt_zero j))⟩
theorem s_X0_moveBack {post : (Nat → Int32) → (Nat → Int32) → Prop} {C cl : Nat → Int32} {i : Nat} (hi : i < 2000) (hp : 0 < cl i) (h : post (od_ins i C cl).1 (od_ins i C cl).2) : w_X0_moveBack post C cl (nI i) := by
  obtain ⟨x, hx⟩ : ∃ x, x = C i := ⟨_, rfl⟩
  obtain ⟨k, hk⟩ : ∃ k, k = cl i := ⟨_, rfl⟩
  have lp : ∀ to (c u : Nat → Int32), to ≤ i → post (od_ins to (upd c to x) (upd u to k)).1 (od_ins to (upd c to x) (upd u to k)).2 → w_X0_moveBack_17 post (fun x4 c u => w_X0_moveBack_73 post c u x k x4) k (to + 1) (nI to) c u := by
    intro to
    induction to with
    | zero =>
      intro c u _ hpo
      exact ⟨fun _ => ⟨pk_in 0 2000 (by omega), pk_in 0 2000 (by omega), hpo⟩, fun z => absurd (Int32.le_refl _) z⟩
    | succ to ih =>
      intro c u hto hpo
      have ec : nI (to + 1) - 1 = nI to := nI_pred to
      unfold w_X0_moveBack_17
      rw [ec, pk_m1, nI_clamp (by omega : to < 2 ^ 31), nI_clamp (by omega : to + 1 < 2 ^ 31)]
      have ut : upd u (to + 1) k to = u to := pk_un (by omega)
      refine ⟨fun z => absurd z (nI_nle (by omega) (by omega)), fun _ => ⟨pk_in to 2000 (by omega), fun z => ?_, fun z => ?_⟩⟩
      · have hb : ¬ od_bad (upd u (to + 1) k) to := by
          rintro ⟨-, q⟩
          rw [pk_us, ut] at q
          exact absurd q (Int32.not_lt.mpr z)
        simp only [od_ins, if_neg hb] at hpo
        refine ⟨pk_in (to + 1) 2000 (by omega), pk_in (to + 1) 2000 (by omega), ?_⟩
        rw [nI_clamp (by omega : to + 1 < 2 ^ 31)]
        exact hpo
      · have hb : od_bad (upd u (to + 1) k) to := by
          refine ⟨?_, ?_⟩
          · rw [pk_us, hk]; exact hp
          · rw [pk_us, ut]; exact Int32.not_le.mp z
        simp only [od_ins, if_pos hb] at hpo
        refine ⟨pk_in to 2000 (by omega), pk_in (to + 1) 2000 (by omega), pk_in to 2000 (by omega), pk_in (to + 1) 2000 (by omega), ih _ _ (by omega) ?_⟩
        have sw : ∀ (f : Nat → Int32) (y : Int32), upd (upd f (to + 1) (f to)) to y = od_sw (upd f (to + 1) y) to := by
          intro f y
          funext j
          simp only [od_sw, pt_upd]
          by_cases h1 : j = to
          · rw [if_pos h1, if_pos h1, if_pos trivial]
          · rw [if_neg h1, if_neg h1]
            by_cases h2 : j = to + 1
            · rw [if_pos h2, if_pos h2, if_neg (by omega)]
            · rw [if_neg h2, if_neg h2, if_neg h2]
        rw [sw, sw]
        exact hpo
  have us : ∀ (f : Nat → Int32), upd f i (f i) = f := by
    intro f
    funext j
    rw [pt_upd]
    split
    · rename_i h; rw [h]
    · rfl
  unfold w_X0_moveBack
  rw [nI_clamp (by omega : i < 2 ^ 31), ← hx, ← hk]
  refine ⟨pk_in i 2000 hi, pk_in i 2000 hi, i + 1, lp i C cl (Nat.le_refl _) ?_⟩
  rw [hx, hk, us, us]
  exact h
theorem s_X0_putInOrder {post : (Nat → Int32) → (Nat → Int32) → Prop} {C cl : Nat → Int32} {s : Nat} (hs : s ≤ 2000) (h : post (od_sort s C cl).1 (od_sort s C cl).2) : w_X0_putInOrder post (nI s) C cl := by
  have lp : ∀ r k, k + r = s → w_X0_putInOrder_2 post (nI s) (r + 1) (nI k) (od_sort k C cl).1 (od_sort k C cl).2 := by
    intro r
    induction r with
    | zero =>
      intro k hk
      obtain rfl : k = s := by omega
      exact ⟨fun _ => h, fun z => absurd (Int32.le_refl _) z⟩
    | succ r ih =>
      intro k hk
      have ih2 := ih (k + 1) (by omega)
      unfold w_X0_putInOrder_2
      rw [nI_1, nI_clamp (by omega : k < 2 ^ 31)]
      refine pk_le s k (fun z => absurd z (by omega)) (fun _ => ⟨pk_in k 2000 (by omega), fun z => ?_, fun z => s_X0_moveBack (by omega) (Int32.not_le.mp z) ih2⟩)
      have e : od_sort (k + 1) C cl = od_sort k C cl := by
        show od_ins k (od_sort k C cl).1 (od_sort k C cl).2 = _
        cases k with
        | zero => rfl
        | succ k =>
          have hb : ¬ od_bad (od_sort (k + 1) C cl).2 k := fun q => absurd q.1 (Int32.not_lt.mpr z)
          simp only [od_ins, if_neg hb]
      rw [e] at ih2
      exact ih2
  rcases Nat.eq_zero_or_pos s with rfl | hp
  · exact ⟨1, fun _ => h, fun z => absurd (by decide) z⟩
  · exact ⟨s, by have := lp (s - 1) 1 (by omega); rwa [show s - 1 + 1 = s by omega] at this⟩
/-- the reference's way: forward where it is right, back where it isn't -/
theorem s_X7_order_34 {post : (Nat → Int32) → (Nat → Int32) → Prop} {m : Nat} (hm : m ≤ 2000) {W R : Nat → Int32} (h : post (od_sort m W R).1 (od_sort m W R).2) : ∃ k, w_X7_order_34 post (nI m) k 1 W R := by
  have E0 : ∀ k (w r : Nat → Int32), m ≤ k → k ≤ 2000 → post w r → ∃ N, w_X7_order_34 post (nI m) N (nI k) w r := fun k w r hk hk2 hp => ⟨1, pk_le m k (fun _ => hp) (fun z => absurd z (by omega))⟩
  have E1 : ∀ k (w r : Nat → Int32), k + 1 < m → ¬ od_bad r k → (∃ N, w_X7_order_34 post (nI m) N (nI (k + 1 + 1)) w r) → ∃ N, w_X7_order_34 post (nI m) N (nI (k + 1)) w r := by
    intro k w r hk hb ⟨N, hN⟩
    refine ⟨N + 1, ?_⟩
    have go : w_X7_order_72 post (fun e0 e1 e2 => w_X7_order_34 post (nI m) N e0 e1 e2) w r (nI (k + 1)) := by
      refine ⟨fun _ => ⟨fun z => absurd rfl z, fun _ => ?_⟩, fun z => absurd rfl z⟩
      rw [nI_1]
      exact hN
    unfold w_X7_order_34
    rw [nI_pred, nI_clamp (by omega : k + 1 < 2 ^ 31), nI_clamp (by omega : k < 2 ^ 31)]
    refine pk_le m (k + 1) (fun z => absurd z (by omega)) (fun _ => ⟨pk_in (k + 1) 2010 (by omega), fun _ => go, fun z => ⟨pk_in (k + 1) 2010 (by omega), pk_in k 2010 (by omega), fun _ => go, fun y => ?_⟩⟩)
    exact absurd ⟨Int32.not_le.mp z, Int32.not_le.mp y⟩ hb
  have sw : ∀ (f : Nat → Int32) (k : Nat), upd (upd f (k + 1) (f k)) k (f (k + 1)) = od_sw f k := by
    intro f k
    funext j
    simp only [od_sw, pt_upd]
  have E2 : ∀ k (w r : Nat → Int32), k + 1 < m → od_bad r k → (∃ N, w_X7_order_34 post (nI m) N (nI (if k = 0 then 1 else k)) (od_sw w k) (od_sw r k)) → ∃ N, w_X7_order_34 post (nI m) N (nI (k + 1)) w r := by
    intro k w r hk hb ⟨N, hN⟩
    refine ⟨N + 1, ?_⟩
    have v1 : vp_in (nI (k + 1)) 2010 := pk_in (k + 1) 2010 (by omega)
    have v0 : vp_in (nI k) 2010 := pk_in k 2010 (by omega)
    unfold w_X7_order_34
    rw [nI_pred, nI_clamp (by omega : k + 1 < 2 ^ 31), nI_clamp (by omega : k < 2 ^ 31)]
    refine pk_le m (k + 1) (fun z => absurd z (by omega)) (fun _ => ⟨v1, fun z => absurd hb.1 (Int32.not_lt.mpr z), fun z => ⟨v1, v0, fun y => absurd hb.2 (Int32.not_lt.mpr y), fun y => ?_⟩⟩)
    unfold w_X7_order_73
    rw [nI_pred, nI_clamp (by omega : k + 1 < 2 ^ 31), nI_clamp (by omega : k < 2 ^ 31), sw, sw]
    refine ⟨fun q => absurd q (by decide), fun _ => ⟨v1, v0, v1, v0, v1, v0, v1, v0, ?_⟩⟩
    unfold w_X7_order_140
    rw [nI_pred]
    refine ⟨fun _ => pk_le (k + 1) 1 (fun q => ?_) (fun q => ?_), fun q => absurd q (by decide)⟩
    · rw [if_pos (by omega)] at hN
      rw [show k + 1 = 1 by omega]
      exact hN
    · rw [if_neg (by omega)] at hN
      exact hN
  have up : ∀ (K : Nat) (w r : Nat → Int32), K < m → od_S r (K + 1) → (∃ N, w_X7_order_34 post (nI m) N (nI (K + 1)) w r) → ∀ d k, 1 ≤ k → k + d = K + 1 → ∃ N, w_X7_order_34 post (nI m) N (nI k) w r := by
    intro K w r hK hS hN d
    induction d with
    | zero =>
      intro k h1 hk
      obtain rfl : k = K + 1 := by omega
      exact hN
    | succ d ih =>
      intro k h1 hk
      obtain ⟨j, rfl⟩ : ∃ j, k = j + 1 := ⟨k - 1, by omega⟩
      exact E1 j w r (by omega) (hS j (by omega)) (ih (j + 1 + 1) (by omega) (by omega))
  have down : ∀ (K : Nat), K < m → ∀ (k : Nat) (w r : Nat → Int32), 1 ≤ k → k ≤ K → od_S (od_ins k w r).2 (K + 1) → (∃ N, w_X7_order_34 post (nI m) N (nI (K + 1)) (od_ins k w r).1 (od_ins k w r).2) → ∃ N, w_X7_order_34 post (nI m) N (nI k) w r := by
    intro K hK k
    induction k with
    | zero => intro w r h; exact absurd h (by omega)
    | succ k ih =>
      intro w r _ hk hS hN
      by_cases hb : od_bad r k
      · simp only [od_ins, if_pos hb] at hS hN
        refine E2 k w r (by omega) hb ?_
        by_cases h0 : k = 0
        · subst h0
          rw [if_pos rfl]
          exact up K _ _ hK hS hN K 1 (by omega) (by omega)
        · rw [if_neg h0]
          exact ih _ _ (by omega) (by omega) hS hN
      · simp only [od_ins, if_neg hb] at hS hN
        exact up K _ _ hK hS hN (K + 1 - (k + 1)) (k + 1) (by omega) (by omega)
  have main : ∀ d K, 1 ≤ K → K + d = m → ∃ N, w_X7_order_34 post (nI m) N (nI K) (od_sort K W R).1 (od_sort K W R).2 := by
    intro d
    induction d with
    | zero =>
      intro K _ hK
      obtain rfl : K = m := by omega
      exact E0 K _ _ (Nat.le_refl _) hm h
    | succ d ih =>
      intro K h1 hK
      exact down K (by omega) K _ _ h1 (Nat.le_refl _) (od_sorted (K + 1) W R) (ih (K + 1) (by omega) (by omega))
  rcases Nat.eq_zero_or_pos m with rfl | hp
  · exact E0 1 W R (by omega) (by omega) h
  · exact main (m - 1) 1 (by omega) (by omega)
theorem s_X7_order {post : (Nat → Int32) → (Nat → Int32) → Prop} {W R0 mf ml mv : Nat → Int32} {s m : Nat} (hs : s ≤ 2000) (hm : m ≤ 60) (h : ∀ cl : Nat → Int32, (∀ j, j < s → cl j = rg mf ml mv m (W j)) → post (od_sort s W cl).1 (od_sort s W cl).2) : w_X7_order post (nI m) (nI s) mf ml mv W R0 := by
  have lp : ∀ (C : (Nat → Int32) → Prop), (∀ cl : Nat → Int32, (∀ j, j < s → cl j = rg mf ml mv m (W j)) → C cl) → ∀ r k (cl : Nat → Int32), k + r = s → (∀ j, j < k → cl j = rg mf ml mv m (W j)) → w_X7_order_2 post C (nI m) (nI s) mf ml mv W (r + 1) (nI k) cl := by
    intro C hC r
    induction r with
    | zero =>
      intro k cl hk hw
      obtain rfl : k = s := by omega
      exact ⟨fun _ => hC cl hw, fun z => absurd (Int32.le_refl _) z⟩
    | succ r ih =>
      intro k cl hk hw
      unfold w_X7_order_2
      rw [nI_1, nI_clamp (by omega : k < 2 ^ 31)]
      refine pk_le s k (fun z => absurd z (by omega)) (fun _ => ⟨pk_in k 2010 (by omega), s_X7_classOf hm ⟨pk_in k 2010 (by omega), ih (k + 1) _ (by omega) (fun j hj => ?_)⟩⟩)
      rw [pt_upd]
      split
      · rename_i h; rw [h]
      · exact hw j (by omega)
  exact ⟨s + 1, lp _ (fun cl hcl => s_X7_order_34 hs (h cl hcl)) s 0 R0 (by omega) (fun j hj => absurd hj (Nat.not_lt_zero j))⟩
