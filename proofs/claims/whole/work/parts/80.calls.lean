/-! Each call of the law: class and reference answer alike, and what both keep is kept. -/
abbrev FN : Type := Nat → Int32
def InvM (m : Nat) (mv : FN) : Prop := m ≤ 60 ∧ ∀ j, j < m → 0 ≤ mv j
def InvR (n : Nat) (ch fi se th lo sl pt : FN) : Prop := RowsB n ch fi se th lo ∧ RowsU n fi se lo ∧ hs_ok sl ch n ∧ Acy n ch fi se th ∧ PtOk fi se th pt
def InvE (e : Nat) (ex : FN) : Prop := e ≤ 60 ∧ dis ex e
def InvT (t : Nat) (tx : FN) : Prop := t ≤ 1000 ∧ ∀ j, j < t → ich (tx j)
def InvF (s : Nat) (as : Int32) (fm : FN) : Prop := s ≤ 2000 ∧ (∀ j, j < s → ich (fm j)) ∧ (as = 0 → s = 0)
theorem rg_nn {fi la va : FN} {c : Int32} : ∀ {m : Nat}, (∀ j, j < m → 0 ≤ va j) → 0 ≤ rg fi la va m c
  | 0, _ => Int32.le_refl _
  | m + 1, h => by
    unfold rg
    split
    · exact h m (Nat.lt_succ_self m)
    · exact rg_nn (fun j hj => h j (Nat.lt_succ_of_lt hj))
theorem t_0 {A : Prop} {c : Int32} (h : A) : w_X7_thrown (fun r => (r = c → A) ∧ (¬ r = c → False)) c := ⟨fun _ => h, fun z => absurd rfl z⟩
theorem e_0 {A : Prop} {c : Int32} (h : A) : (c = c → A) ∧ (¬ c = c → False) := ⟨fun _ => h, fun z => absurd rfl z⟩
theorem l_0 {A : Prop} {x : Int64} (h : A) : (lg_cmp x x = 0 → A) ∧ (¬ lg_cmp x x = 0 → False) := ⟨fun _ => h, fun z => absurd ((lg_cmp_eq x x).mpr rfl) z⟩
theorem v01 : vp_in (0 : Int32) 1 := vp_in_nI (n := 0) (by decide) (by decide)
theorem n1a {A B : Prop} (h : A) : (¬ (1 : Int32) = 0 → A) ∧ ((1 : Int32) = 0 → B) := n_1 h
theorem n2a {A B : Prop} (h : A) : (¬ (2 : Int32) = 0 → A) ∧ ((2 : Int32) = 0 → B) := ⟨fun _ => h, fun z => absurd z (by decide)⟩
theorem c_mark {V1 V2 V3 : Prop} (v1 : V1) (v2 : V2) (v3 : V3) {m : Nat} {mf ml mv : FN} (iM : InvM m mv) {a b c : Int32} {Rec : Int32 → FN → FN → FN → Int32 → Int32 → FN → FN → FN → Prop} (h : ∀ m' mf' ml' mv' fa, InvM m' mv' → Rec (nI m') mf' ml' mv' fa (nI m') mf' ml' mv') :
    V1 ∧ V2 ∧ V3 ∧ w_L_mark (fun r cc cf cl cv => V1 ∧ V2 ∧ V3 ∧ w_X7_mark (fun fa mm mf ml mv => w_X7_thrown (fun q => (q = r → Rec cc cf cl cv fa mm mf ml mv) ∧ (¬ q = r → False)) fa) (nI m) mf ml mv a b c) (nI m) mf ml mv a b c := by
  refine ⟨v1, v2, v3, s_X6_mark iM.1 (fun z => Or.inl ⟨rfl, v1, v2, v3, s_X7_mark iM.1 (fun _ => t_0 (h _ _ _ _ _ iM)) (fun y => absurd y z) (fun y => absurd y z)⟩) (fun z q => Or.inr ⟨rfl, v1, v2, v3, s_X7_mark iM.1 (fun y => absurd z y) (fun _ _ => t_0 (h _ _ _ _ _ iM)) (fun _ y => absurd q (by omega))⟩) (fun z q => ⟨v1, v2, v3, s_X7_mark iM.1 (fun y => absurd z y) (fun _ y => absurd q (by omega)) (fun _ _ => t_0 (h _ _ _ _ _ ⟨by omega, fun j hj => ?_⟩))⟩)⟩
  rw [pt_upd]
  split
  · exact z.2.1
  · exact iM.2 j (by omega)
theorem c_property {V1 V2 V3 : Prop} (v1 : V1) (v2 : V2) (v3 : V3) {m : Nat} {mf ml mv : FN} (iM : m ≤ 60) {a b c : Int32} {Rec : Int32 → FN → FN → FN → Int32 → Int32 → FN → FN → FN → Prop} (h : ∀ m' mf' ml' mv' fa, m' ≤ 60 → Rec (nI m') mf' ml' mv' fa (nI m') mf' ml' mv') :
    V1 ∧ V2 ∧ V3 ∧ w_L_property (fun r cc cf cl cv => V1 ∧ V2 ∧ V3 ∧ w_X7_property (fun fa mm mf ml mv => w_X7_thrown (fun q => (q = r → Rec cc cf cl cv fa mm mf ml mv) ∧ (¬ q = r → False)) fa) (nI m) mf ml mv a b c) (nI m) mf ml mv a b c :=
  ⟨v1, v2, v3, s_X6_property iM (fun z => Or.inl ⟨rfl, v1, v2, v3, s_X7_property iM (fun _ => t_0 (h _ _ _ _ _ iM)) (fun y => absurd y z) (fun y => absurd y z)⟩) (fun z q => Or.inr ⟨rfl, v1, v2, v3, s_X7_property iM (fun y => absurd z y) (fun _ _ => t_0 (h _ _ _ _ _ iM)) (fun _ y => absurd q (by omega))⟩) (fun z q => ⟨v1, v2, v3, s_X7_property iM (fun y => absurd z y) (fun _ y => absurd q (by omega)) (fun _ _ => t_0 (h _ _ _ _ _ (by omega)))⟩)⟩
theorem c_part {V1 V2 V3 : Prop} (v1 : V1) (v2 : V2) (v3 : V3) {n : Nat} {ch fi se th lo sl pt wt0 sn0 wts0 met0 : FN} {k0 w0 : Int32} (iR : InvR n ch fi se th lo sl pt) {w a b : Int32} {Rec : Int32 → Int32 → FN → FN → FN → FN → FN → FN → FN → FN → Int32 → Int32 → Int32 → FN → FN → FN → FN → FN → Prop}
    (h : ∀ n' k ch' fi' se' th' lo' sl' wt sn fa k2 pt' wt2 sn2, InvR n' ch' fi' se' th' lo' sl' pt' → Rec (nI n') k ch' fi' se' th' lo' sl' wt sn fa (nI n') k2 ch' lo' pt' wt2 sn2) :
    V1 ∧ V2 ∧ V3 ∧ w_L_part (fun r c1 c2 c3 c4 c5 c6 c7 c8 c9 c10 => V1 ∧ V2 ∧ V3 ∧ w_X7_part (fun fa d1 d2 d3 d4 d5 d6 d7 => w_X7_thrown (fun q => (q = r → Rec c1 c2 c3 c4 c5 c6 c7 c8 c9 c10 fa d1 d2 d3 d4 d5 d6 d7) ∧ (¬ q = r → False)) fa) (nI n) w0 ch lo pt wts0 met0 w a b) (nI n) k0 ch fi se th lo sl wt0 sn0 w a b := by
  obtain ⟨hr, hu, hok, ha, hp⟩ := iR
  have iR : InvR n ch fi se th lo sl pt := ⟨hr, hu, hok, ha, hp⟩
  refine ⟨v1, v2, v3, s_X6_part hr hu hok (fun z k wt sn => Or.inl ⟨rfl, v1, v2, v3, s_X7_part hr hu hp (fun _ k2 wt2 sn2 => t_0 (h _ _ _ _ _ _ _ _ _ _ _ _ _ _ _ iR)) (fun y => absurd y z) (fun y => absurd y z)⟩) (fun z q k wt sn => Or.inr ⟨rfl, v1, v2, v3, s_X7_part hr hu hp (fun y => absurd z y) (fun _ _ k2 wt2 sn2 => t_0 (h _ _ _ _ _ _ _ _ _ _ _ _ _ _ _ iR)) (fun _ y => absurd q (by omega))⟩) (fun z q k wt sn sl' hsl => ⟨v1, v2, v3, s_X7_part hr hu hp (fun y => absurd z y) (fun _ y => absurd q (by omega)) (fun _ _ k2 wt2 sn2 => t_0 (h _ _ _ _ _ _ _ _ _ _ _ _ _ _ _ ?_))⟩)⟩
  obtain ⟨q1, q2, q3⟩ := rows_add (l := false) hr hu ha q z.1 (fun _ => ⟨rfl, z.2⟩)
  exact ⟨q1, q2, hsl, q3, pt_add hp⟩
theorem c_loose {V1 V2 V3 V4 : Prop} (v1 : V1) (v2 : V2) (v3 : V3) (v4 : V4) {n : Nat} {ch fi se th lo sl pt wt0 sn0 wts0 met0 : FN} {k0 w0 : Int32} (iR : InvR n ch fi se th lo sl pt) {w a b c : Int32} {Rec : Int32 → Int32 → FN → FN → FN → FN → FN → FN → FN → FN → Int32 → Int32 → Int32 → FN → FN → FN → FN → FN → Prop}
    (h : ∀ n' k ch' fi' se' th' lo' sl' wt sn fa k2 pt' wt2 sn2, InvR n' ch' fi' se' th' lo' sl' pt' → Rec (nI n') k ch' fi' se' th' lo' sl' wt sn fa (nI n') k2 ch' lo' pt' wt2 sn2) :
    V1 ∧ V2 ∧ V3 ∧ V4 ∧ w_L_loose (fun r c1 c2 c3 c4 c5 c6 c7 c8 c9 c10 => V1 ∧ V2 ∧ V3 ∧ V4 ∧ w_X7_loose (fun fa d1 d2 d3 d4 d5 d6 d7 => w_X7_thrown (fun q => (q = r → Rec c1 c2 c3 c4 c5 c6 c7 c8 c9 c10 fa d1 d2 d3 d4 d5 d6 d7) ∧ (¬ q = r → False)) fa) (nI n) w0 ch lo pt wts0 met0 w a b c) (nI n) k0 ch fi se th lo sl wt0 sn0 w a b c := by
  obtain ⟨hr, hu, hok, ha, hp⟩ := iR
  have iR : InvR n ch fi se th lo sl pt := ⟨hr, hu, hok, ha, hp⟩
  refine ⟨v1, v2, v3, v4, s_X6_loose hr hok (fun z k wt sn => Or.inl ⟨rfl, v1, v2, v3, v4, s_X7_loose hr hp (fun _ k2 wt2 sn2 => t_0 (h _ _ _ _ _ _ _ _ _ _ _ _ _ _ _ iR)) (fun y => absurd y z) (fun y => absurd y z)⟩) (fun z q k wt sn => Or.inr ⟨rfl, v1, v2, v3, v4, s_X7_loose hr hp (fun y => absurd z y) (fun _ _ k2 wt2 sn2 => t_0 (h _ _ _ _ _ _ _ _ _ _ _ _ _ _ _ iR)) (fun _ y => absurd q (by omega))⟩) (fun z q k wt sn sl' hsl => ⟨v1, v2, v3, v4, s_X7_loose hr hp (fun y => absurd z y) (fun _ y => absurd q (by omega)) (fun _ _ k2 wt2 sn2 => t_0 (h _ _ _ _ _ _ _ _ _ _ _ _ _ _ _ ?_))⟩)⟩
  obtain ⟨q1, q2, q3⟩ := rows_add (l := true) hr hu ha q z (fun y => nomatch y)
  exact ⟨q1, q2, hsl, q3, pt_add hp⟩
theorem c_excl {V1 V2 : Prop} (v1 : V1) (v2 : V2) {e : Nat} {ex : FN} (iE : InvE e ex) {a y is : Int32} {Rec : Int32 → FN → Int32 → Int32 → FN → Prop} (h : ∀ e' ex' fa, InvE e' ex' → Rec (nI e') ex' fa (nI e') ex') (hy : (y = 0 ∧ is = 0) ∨ (¬ y = 0 ∧ is = 1)) :
    w_L_exclude (fun r cc cf => V1 ∧ V2 ∧ ((y = 0 → w_X7_exclude (fun fa d1 d2 => w_X7_thrown (fun q => (q = r → Rec cc cf fa d1 d2) ∧ (¬ q = r → False)) fa) (nI e) ex a 0) ∧ (¬ y = 0 → w_X7_exclude (fun fa d1 d2 => w_X7_thrown (fun q => (q = r → Rec cc cf fa d1 d2) ∧ (¬ q = r → False)) fa) (nI e) ex a 1))) (nI e) ex a is := by
  have both : ∀ (P : Int32 → Prop), P is → (y = 0 → P 0) ∧ (¬ y = 0 → P 1) := by
    intro P hP
    rcases hy with ⟨y1, y2⟩ | ⟨y1, y2⟩
    · subst y2; exact ⟨fun _ => hP, fun z => absurd y1 z⟩
    · subst y2; exact ⟨fun z => absurd z y1, fun _ => hP⟩
  refine s_X6_exclude iE.1 iE.2 (fun z => Or.inl ⟨rfl, v1, v2, both (fun i => w_X7_exclude (fun fa d1 d2 => w_X7_thrown (fun q => (q = 1 → Rec (nI e) ex fa d1 d2) ∧ (¬ q = 1 → False)) fa) (nI e) ex a i) ?_⟩) (fun z1 z2 z3 z4 => Or.inr ⟨rfl, v1, v2, both (fun i => w_X7_exclude (fun fa d1 d2 => w_X7_thrown (fun q => (q = 2 → Rec (nI e) ex fa d1 d2) ∧ (¬ q = 2 → False)) fa) (nI e) ex a i) ?_⟩) (fun z1 z2 => ⟨v1, v2, both (fun i => w_X7_exclude (fun fa d1 d2 => w_X7_thrown (fun q => (q = 0 → Rec (nI (ex_new e ex a is).1) (ex_new e ex a is).2 fa d1 d2) ∧ (¬ q = 0 → False)) fa) (nI e) ex a i) ?_⟩)
  · exact s_X7_exclude iE.1 (fun _ => t_0 (h _ _ _ iE)) (fun y1 => absurd y1 z) (fun y1 => absurd y1 z)
  · exact s_X7_exclude iE.1 (fun y1 => absurd z1 y1) (fun _ _ _ _ => t_0 (h _ _ _ iE)) (fun _ y2 => absurd (y2 z2 z3) (by omega))
  · exact s_X7_exclude iE.1 (fun y1 => absurd z1 y1) (fun _ y2 y3 y4 => absurd (z2 y2 y3) (by omega)) (fun _ _ => t_0 (h _ _ _ (ex_keep iE.1 iE.2 z1 z2)))
theorem c_exclude {V1 V2 : Prop} (v1 : V1) (v2 : V2) {e : Nat} {ex : FN} (iE : InvE e ex) {a y : Int32} {Rec : Int32 → FN → Int32 → Int32 → FN → Prop} (h : ∀ e' ex' fa, InvE e' ex' → Rec (nI e') ex' fa (nI e') ex') :
    V1 ∧ V2 ∧ ((y = 0 → w_L_exclude (fun r cc cf => V1 ∧ V2 ∧ ((y = 0 → w_X7_exclude (fun fa d1 d2 => w_X7_thrown (fun q => (q = r → Rec cc cf fa d1 d2) ∧ (¬ q = r → False)) fa) (nI e) ex a 0) ∧ (¬ y = 0 → w_X7_exclude (fun fa d1 d2 => w_X7_thrown (fun q => (q = r → Rec cc cf fa d1 d2) ∧ (¬ q = r → False)) fa) (nI e) ex a 1))) (nI e) ex a 0)
      ∧ (¬ y = 0 → w_L_exclude (fun r cc cf => V1 ∧ V2 ∧ ((y = 0 → w_X7_exclude (fun fa d1 d2 => w_X7_thrown (fun q => (q = r → Rec cc cf fa d1 d2) ∧ (¬ q = r → False)) fa) (nI e) ex a 0) ∧ (¬ y = 0 → w_X7_exclude (fun fa d1 d2 => w_X7_thrown (fun q => (q = r → Rec cc cf fa d1 d2) ∧ (¬ q = r → False)) fa) (nI e) ex a 1))) (nI e) ex a 1)) :=
  ⟨v1, v2, fun z => c_excl v1 v2 iE h (Or.inl ⟨z, rfl⟩), fun z => c_excl v1 v2 iE h (Or.inr ⟨z, rfl⟩)⟩
theorem c_add {V1 V2 V3 V4 V5 : Prop} (v1 : V1) (v2 : V2) (v3 : V3) (v4 : V4) (v5 : V5) {t : Nat} {tx : FN} {out : Nat → Int64} (iT : InvT t tx) {a b c d e : Int32} {Rec : Int32 → FN → (Nat → Int64) → Int32 → Int32 → FN → Prop} (h : ∀ t' tx' o fa, InvT t' tx' → Rec (nI t') tx' o fa (nI t') tx') :
    V1 ∧ V2 ∧ V3 ∧ V4 ∧ V5 ∧ w_L_add (fun r cc cf o => V1 ∧ V2 ∧ V3 ∧ V4 ∧ V5 ∧ w_X7_add (fun r2 fa d1 d2 => w_X7_thrown (fun q => ((q = r → ((¬ r = (0 : Int32) → Rec cc cf o fa d1 d2) ∧ (r = (0 : Int32) → vp_in (0 : Int32) 1 ∧ ((lg_cmp (o (0 : Int32).toNatClampNeg) r2.toInt64 = (0 : Int32) → Rec cc cf o fa d1 d2) ∧ (¬ lg_cmp (o (0 : Int32).toNatClampNeg) r2.toInt64 = (0 : Int32) → False))))) ∧ (¬ q = r → False))) fa) (nI t) tx a b c d e) (nI t) tx out a b c d e := by
  obtain ⟨k, hk⟩ := upto_ex (fv a b c d e)
  refine ⟨v1, v2, v3, v4, v5, s_X6_add iT.1 hk (fun z => Or.inl ⟨rfl, v1, v2, v3, v4, v5, s_X7_add iT.1 hk (fun _ => t_0 (n1a (h _ _ _ _ iT))) (fun y => absurd y z) (fun y => absurd y z)⟩) (fun z q => Or.inr ⟨rfl, v1, v2, v3, v4, v5, s_X7_add iT.1 hk (fun y => absurd z y) (fun _ _ => t_0 (n2a (h _ _ _ _ iT))) (fun _ y => absurd q (by omega))⟩) (fun z q => ⟨v01, v1, v2, v3, v4, v5, s_X7_add iT.1 hk (fun y => absurd z y) (fun _ y => absurd q (by omega)) (fun _ _ => t_0 (n_0 ⟨v01, ?_⟩))⟩)⟩
  rw [pk_uLs]
  exact l_0 (h _ _ _ _ ⟨q, adt_al iT.2 z⟩)
theorem c_clear {t : Nat} {tx : FN} {Rec : Int32 → Int32 → Int32 → Prop} (h : Rec (nI 0) 0 (nI 0)) : w_X6_clear (fun r c1 => w_X7_clear (fun r2 fa d1 => (r = r2 → Rec c1 fa d1) ∧ (¬ r = r2 → False)) (nI t)) (nI t) := e_0 h
theorem c_form {V1 : Prop} (v1 : V1) {m n e t s : Nat} {mf ml mv ch fi se th lo sl pt ex tx fm C0 cl0 ps0 wk0 rk0 : FN} {out : Nat → Int64} {as dz my : Int32} (iM : InvM m mv) (iR : InvR n ch fi se th lo sl pt) (iE : InvE e ex) (iT : InvT t tx) (iF : InvF s as fm) {x : Int32} {Rec : Int32 → Int32 → Int32 → FN → FN → FN → FN → (Nat → Int64) → Int32 → Int32 → Int32 → Int32 → FN → FN → FN → Prop}
    (h : ∀ s' as' fm' z C cl ps o fa my wk rk, InvF s' as' fm' → Rec (nI s') as' z C cl ps fm' o fa my (nI s') as' wk rk fm') :
    V1 ∧ w_L_form (fun r c1 c2 c3 c4 c5 c6 c7 o => V1 ∧ w_X7_form (fun r2 fa d1 d2 d3 d4 d5 d6 => w_X7_thrown (fun q => ((q = r → ((¬ r = (0 : Int32) → Rec c1 c2 c3 c4 c5 c6 c7 o fa d1 d2 d3 d4 d5 d6) ∧ (r = (0 : Int32) → vp_in (0 : Int32) 1 ∧ ((lg_cmp (o (0 : Int32).toNatClampNeg) r2.toInt64 = (0 : Int32) → Rec c1 c2 c3 c4 c5 c6 c7 o fa d1 d2 d3 d4 d5 d6) ∧ (¬ lg_cmp (o (0 : Int32).toNatClampNeg) r2.toInt64 = (0 : Int32) → False))))) ∧ (¬ q = r → False))) fa) (nI m) (nI n) (nI e) (nI t) my (nI s) as mf ml mv ch lo pt ex tx wk0 rk0 fm x) (nI t) (nI s) as (nI m) mf ml mv (nI n) ch fi se th lo sl (nI e) ex dz C0 cl0 ps0 tx fm out x := by
  obtain ⟨hr, hu, hok, ha, hp⟩ := iR
  have hc0 : ∀ c, 0 ≤ rg mf ml mv m c := fun c => rg_nn iM.2
  have inj : ∀ f f', f < 4 → f' < 4 → x = nI f → x = nI f' → f = f' := fun f f' h1 h2 e1 e2 => nI_inj (by omega) (by omega) (e1.symm.trans e2)
  refine ⟨v1, s_X6_form hr hu hok ha iM.1 iE.1 iE.2 iT.1 iT.2 (fun z _ _ _ _ => Or.inl ⟨rfl, v1, s_X7_form hr hu hp ha iM.1 iE.1 hc0 iT.1 iT.2 (fun _ _ _ _ => t_0 (n1a (h _ _ _ _ _ _ _ _ _ _ _ _ iF))) (fun f y1 y2 => absurd ⟨f, y1, y2⟩ z) (fun f y1 y2 => absurd ⟨f, y1, y2⟩ z)⟩) (fun f z1 z2 z3 _ _ _ _ => Or.inr ⟨rfl, v1, s_X7_form hr hu hp ha iM.1 iE.1 hc0 iT.1 iT.2 (fun y => absurd ⟨f, z1, z2⟩ y) (fun _ _ _ _ _ _ _ => t_0 (n2a (h _ _ _ _ _ _ _ _ _ _ _ _ iF))) (fun f' y1 y2 y3 => absurd z3 (by rw [inj f f' z1 y1 z2 y2]; omega))⟩) (fun f z1 z2 z3 _ _ _ _ => ⟨v01, v1, s_X7_form hr hu hp ha iM.1 iE.1 hc0 iT.1 iT.2 (fun y => absurd ⟨f, z1, z2⟩ y) (fun f' y1 y2 y3 => absurd z3 (by rw [inj f f' z1 y1 z2 y2]; omega)) (fun f' y1 y2 y3 _ _ _ => ?_)⟩)⟩
  obtain rfl := inj f f' z1 y1 z2 y2
  have hle : (fM ch fi se th lo n mf ml mv m ex e tx t f).2 ≤ (fT ch fi se th lo n tx t f).length := mk_le
  refine t_0 (n_0 ⟨v01, ?_⟩)
  rw [pk_uLs]
  exact l_0 (h _ _ _ _ _ _ _ _ _ _ _ _ ⟨by omega, cp_al (fM_ok hr iT.2), fun q => absurd q (by decide)⟩)
theorem c_at {V1 : Prop} (v1 : V1) {s : Nat} {as : Int32} {fm : FN} (iF : InvF s as fm) {x : Int32} {Rec : Int32 → Prop} (h : ∀ fa, Rec fa) : V1 ∧ w_X6_at (fun r => V1 ∧ w_X7_at (fun r2 fa => (r = r2 → Rec fa) ∧ (¬ r = r2 → False)) (nI s) fm x) (nI s) fm x := by
  refine ⟨v1, s_X6_at iF.1 (fun z => ⟨v1, s_X7_at iF.1 (fun _ => e_0 (h _)) (fun i y1 y2 => absurd ⟨i, y1, y2⟩ z)⟩) (fun i z1 z2 => ⟨v1, s_X7_at iF.1 (fun y => absurd ⟨i, z1, z2⟩ y) (fun j y1 y2 => ?_)⟩)⟩
  have hs := iF.1
  rw [nI_inj (by omega) (by omega) (z2.symm.trans y2)]
  exact e_0 (h _)
theorem c_keep {t s : Nat} {tx fm : FN} {as : Int32} {out : Nat → Int64} (iT : InvT t tx) (iF : InvF s as fm) {Rec : Int32 → FN → (Nat → Int64) → Int32 → Int32 → FN → Prop} (h : ∀ t' tx' o fa, InvT t' tx' → Rec (nI t') tx' o fa (nI t') tx') :
    w_L_keep (fun r cc cf o => w_X7_keep (fun r2 fa d1 d2 => w_X7_thrown (fun q => ((q = r → ((¬ r = (0 : Int32) → Rec cc cf o fa d1 d2) ∧ (r = (0 : Int32) → vp_in (0 : Int32) 1 ∧ ((lg_cmp (o (0 : Int32).toNatClampNeg) r2.toInt64 = (0 : Int32) → Rec cc cf o fa d1 d2) ∧ (¬ lg_cmp (o (0 : Int32).toNatClampNeg) r2.toInt64 = (0 : Int32) → False))))) ∧ (¬ q = r → False))) fa) (nI t) (nI s) as tx fm) (nI t) (nI s) as tx fm out := by
  refine s_X6_keep iF.1 (fun z => ⟨v01, s_X7_keep iF.1 iF.2.2 (fun _ => t_0 (n_0 ⟨v01, ?_⟩)) (fun y => absurd z y) (fun y => absurd z y)⟩) (fun z q => ⟨rfl, s_X7_keep iF.1 iF.2.2 (fun y => absurd y z) (fun _ _ => t_0 (n1a (h _ _ _ _ iT))) (fun _ y => absurd q (by omega))⟩) (fun z q => ⟨v01, s_X7_keep iF.1 iF.2.2 (fun y => absurd y z) (fun _ y => absurd q (by omega)) (fun _ _ => t_0 (n_0 ⟨v01, ?_⟩))⟩)
  · rw [pk_uLs]
    exact l_0 (h _ _ _ _ iT)
  · rw [pk_uLs]
    exact l_0 (h _ _ _ _ ⟨q, cp_al iF.2.1⟩)
theorem c_isIn {V1 : Prop} (v1 : V1) {m n e t : Nat} {mf ml mv ch fi se th lo sl pt ex tx C0 cl0 ps0 wk0 rk0 : FN} {out : Nat → Int64} {dz my : Int32} (iM : InvM m mv) (iR : InvR n ch fi se th lo sl pt) (iE : InvE e ex) (iT : InvT t tx) {x : Int32} {Rec : Int32 → FN → FN → FN → (Nat → Int64) → Int32 → Int32 → FN → FN → Prop}
    (h : ∀ z C cl ps o fa my wk rk, Rec z C cl ps o fa my wk rk) :
    V1 ∧ w_L_isIn (fun r c1 c2 c3 c4 o => V1 ∧ w_X7_isIn (fun r2 fa d1 d2 d3 => w_X7_thrown (fun q => ((q = r → ((¬ r = (0 : Int32) → Rec c1 c2 c3 c4 o fa d1 d2 d3) ∧ (r = (0 : Int32) → vp_in (0 : Int32) 1 ∧ ((r2 = (0 : Int32) → ((lg_cmp (o (0 : Int32).toNatClampNeg) (0 : Int64) = (0 : Int32) → Rec c1 c2 c3 c4 o fa d1 d2 d3) ∧ (¬ lg_cmp (o (0 : Int32).toNatClampNeg) (0 : Int64) = (0 : Int32) → False))) ∧ (¬ r2 = (0 : Int32) → ((lg_cmp (o (0 : Int32).toNatClampNeg) (1 : Int64) = (0 : Int32) → Rec c1 c2 c3 c4 o fa d1 d2 d3) ∧ (¬ lg_cmp (o (0 : Int32).toNatClampNeg) (1 : Int64) = (0 : Int32) → False))))))) ∧ (¬ q = r → False))) fa) (nI m) (nI n) (nI e) (nI t) my mf ml mv ch lo pt ex tx wk0 rk0 x) (nI t) (nI m) mf ml mv (nI n) ch fi se th lo sl (nI e) ex dz C0 cl0 ps0 tx out x := by
  obtain ⟨hr, hu, hok, ha, hp⟩ := iR
  have hc0 : ∀ c, 0 ≤ rg mf ml mv m c := fun c => rg_nn iM.2
  have inj : ∀ f f', f < 4 → f' < 4 → x = nI f → x = nI f' → f = f' := fun f f' h1 h2 e1 e2 => nI_inj (by omega) (by omega) (e1.symm.trans e2)
  refine ⟨v1, s_X6_isIn hr hu hok ha iM.1 iE.1 iE.2 iT.1 iT.2 (fun z _ _ _ _ => Or.inl ⟨rfl, v1, s_X7_isIn hr hu hp ha iM.1 iE.1 hc0 iT.1 iT.2 (fun _ _ _ _ => t_0 (n1a (h _ _ _ _ _ _ _ _ _))) (fun f y1 y2 => absurd ⟨f, y1, y2⟩ z) (fun f y1 y2 => absurd ⟨f, y1, y2⟩ z)⟩) (fun f z1 z2 z3 _ _ _ _ => Or.inr ⟨rfl, v1, s_X7_isIn hr hu hp ha iM.1 iE.1 hc0 iT.1 iT.2 (fun y => absurd ⟨f, z1, z2⟩ y) (fun _ _ _ _ _ _ _ => t_0 (n2a (h _ _ _ _ _ _ _ _ _))) (fun f' y1 y2 y3 => absurd z3 (by rw [inj f f' z1 y1 z2 y2]; omega))⟩) (fun f z1 z2 z3 _ _ _ _ => ⟨fun s1 => c_1 ⟨v01, v1, s_X7_isIn hr hu hp ha iM.1 iE.1 hc0 iT.1 iT.2 (fun y => absurd ⟨f, z1, z2⟩ y) (fun f' y1 y2 y3 => absurd z3 (by rw [inj f f' z1 y1 z2 y2]; omega)) (fun f' y1 y2 y3 _ _ _ => ?_)⟩, fun s1 => c_0 ⟨v01, v1, s_X7_isIn hr hu hp ha iM.1 iE.1 hc0 iT.1 iT.2 (fun y => absurd ⟨f, z1, z2⟩ y) (fun f' y1 y2 y3 => absurd z3 (by rw [inj f f' z1 y1 z2 y2]; omega)) (fun f' y1 y2 y3 _ _ _ => ?_)⟩⟩)⟩
  · obtain rfl := inj f f' z1 y1 z2 y2
    refine ⟨fun _ => t_0 (n_0 ⟨v01, c_1 ?_⟩), fun q => absurd s1 q⟩
    rw [pk_uLs]
    exact l_0 (h _ _ _ _ _ _ _ _ _)
  · obtain rfl := inj f f' z1 y1 z2 y2
    refine ⟨fun q => absurd q s1, fun _ => t_0 (n_0 ⟨v01, c_0 ?_⟩)⟩
    rw [pk_uLs]
    exact l_0 (h _ _ _ _ _ _ _ _ _)
theorem c_ends {V1 : Prop} (v1 : V1) {k t : Nat} {kf kl kv tx : FN} {out : Nat → Int64} {r1 r2 r3 r4 : Int32} (iK : k ≤ 60) (iT : InvT t tx) {x : Int32} {Rec : Int32 → Int32 → Int32 → Int32 → (Nat → Int64) → Int32 → Prop} (h : ∀ a b c d o fa, Rec a b c d o fa) :
    V1 ∧ w_L_ends (fun r c1 c2 c3 c4 o => V1 ∧ w_X7_ends (fun r2 fa => w_X7_thrown (fun q => ((q = r → ((¬ r = (0 : Int32) → Rec c1 c2 c3 c4 o fa) ∧ (r = (0 : Int32) → vp_in (0 : Int32) 1 ∧ ((r2 = (0 : Int32) → ((lg_cmp (o (0 : Int32).toNatClampNeg) (0 : Int64) = (0 : Int32) → Rec c1 c2 c3 c4 o fa) ∧ (¬ lg_cmp (o (0 : Int32).toNatClampNeg) (0 : Int64) = (0 : Int32) → False))) ∧ (¬ r2 = (0 : Int32) → ((lg_cmp (o (0 : Int32).toNatClampNeg) (1 : Int64) = (0 : Int32) → Rec c1 c2 c3 c4 o fa) ∧ (¬ lg_cmp (o (0 : Int32).toNatClampNeg) (1 : Int64) = (0 : Int32) → False))))))) ∧ (¬ q = r → False))) fa) (nI k) (nI t) kf kl kv tx x) (nI t) (nI k) kf kl kv r1 r2 r3 r4 tx out x := by
  have ht := iT.1
  refine ⟨v1, s_X6_ends iK iT.1 (fun z => ⟨rfl, v1, s_X7_ends iK iT.1 (fun _ => t_0 (n1a (h _ _ _ _ _ _))) (fun p y1 y2 => absurd ⟨p, y1, y2⟩ z)⟩) (fun p z1 z2 a b c d => ⟨fun s1 => ⟨v01, v1, s_X7_ends iK iT.1 (fun y => absurd ⟨p, z1, z2⟩ y) (fun p' y1 y2 => t_0 (n_0 ⟨v01, ?_⟩))⟩, fun s1 => ⟨v01, v1, s_X7_ends iK iT.1 (fun y => absurd ⟨p, z1, z2⟩ y) (fun p' y1 y2 => t_0 (n_0 ⟨v01, ?_⟩))⟩⟩)⟩
  · obtain rfl : p = p' := nI_inj (by omega) (by omega) (z2.symm.trans y2)
    refine ⟨fun _ => ?_, fun q => absurd s1 q⟩
    rw [pk_uLs]
    exact l_0 (h _ _ _ _ _ _)
  · obtain rfl : p = p' := nI_inj (by omega) (by omega) (z2.symm.trans y2)
    refine ⟨fun q => absurd q s1, fun _ => ?_⟩
    rw [pk_uLs]
    exact l_0 (h _ _ _ _ _ _)
theorem c_rule {V1 : Prop} (v1 : V1) {k t : Nat} {kf kl kv tx : FN} {out : Nat → Int64} {r1 r2 r3 r4 : Int32} (iK : k ≤ 60) (iT : InvT t tx) {x : Int32} {Rec : Int32 → Int32 → Int32 → Int32 → (Nat → Int64) → Int32 → Prop} (h : ∀ a b c d o fa, Rec a b c d o fa) :
    V1 ∧ w_L_rule (fun r c1 c2 c3 c4 o => V1 ∧ w_X7_rule (fun r2 fa => w_X7_thrown (fun q => ((q = r → ((¬ r = (0 : Int32) → Rec c1 c2 c3 c4 o fa) ∧ (r = (0 : Int32) → vp_in (0 : Int32) 1 ∧ ((lg_cmp (o (0 : Int32).toNatClampNeg) r2.toInt64 = (0 : Int32) → Rec c1 c2 c3 c4 o fa) ∧ (¬ lg_cmp (o (0 : Int32).toNatClampNeg) r2.toInt64 = (0 : Int32) → False))))) ∧ (¬ q = r → False))) fa) (nI k) (nI t) kf kl kv tx x) (nI t) (nI k) kf kl kv r1 r2 r3 r4 tx out x := by
  have ht := iT.1
  refine ⟨v1, s_X6_rule iK iT.1 (fun z => ⟨rfl, v1, s_X7_rule iK iT.1 (fun _ => t_0 (n1a (h _ _ _ _ _ _))) (fun p y1 y2 => absurd ⟨p, y1, y2⟩ z)⟩) (fun p z1 z2 a b c d => ⟨v01, v1, s_X7_rule iK iT.1 (fun y => absurd ⟨p, z1, z2⟩ y) (fun p' y1 y2 => t_0 (n_0 ⟨v01, ?_⟩))⟩)⟩
  obtain rfl : p = p' := nI_inj (by omega) (by omega) (z2.symm.trans y2)
  rw [pk_uLs]
  exact l_0 (h _ _ _ _ _ _)
theorem c_readers {k t : Nat} {kf kl kv tx : FN} (iK : k ≤ 60) (iT : InvT t tx) {Rec : Int32 → Int32 → Int32 → Int32 → Int32 → Prop} (h : ∀ a b c d fa, Rec a b c d fa) :
    w_X6_readers (fun r c1 c2 c3 c4 => w_X7_readers (fun r2 fa => (r = r2 → Rec c1 c2 c3 c4 fa) ∧ (¬ r = r2 → False)) (nI k) (nI t) kf kl kv tx) (nI t) (nI k) kf kl kv tx :=
  s_X6_readers iK iT.1 (fun a b c d => s_X7_readers iK iT.1 (e_0 (h _ _ _ _ _)))
