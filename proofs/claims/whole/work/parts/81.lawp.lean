/-! The law: by its calls. -/
def GO (xs : Nat → Int32) (L f tt : Nat) : Prop := ∀ {m k n e t s : Nat} {as wc dz rb rf rp rj ft my mw : Int32} {mf ml mv kf kl kv ch fi se th lo sl wt sn ex dC dcl dps tx fm pt wk rk wts met : FN} {out : Nat → Int64}, InvM m mv → k ≤ 60 → InvR n ch fi se th lo sl pt → InvE e ex → InvT t tx → InvF s as fm →
  w_L_law_23 xs L f (nI (6 * tt)) (nI t) (nI s) as (nI m) mf ml mv (nI k) kf kl kv (nI n) wc ch fi se th lo sl wt sn (nI e) ex dz dC dcl dps rb rf rp rj tx fm ft (nI m) (nI k) (nI n) (nI e) (nI t) my (nI s) as mw mf ml mv kf kl kv ch lo pt ex tx wk rk fm wts met out
theorem law_go (xs : Nat → Int32) (L : Nat) (hL : L ≤ 3072) : ∀ f tt, tt + f = 513 → tt ≤ 512 → GO xs L f tt := by
  intro f
  induction f with
  | zero => intro tt h1 h2; exact absurd h1 (by omega)
  | succ f IH =>
    intro tt h1 h2 m k n e t s as wc dz rb rf rp rj ft my mw mf ml mv kf kl kv ch fi se th lo sl wt sn ex dC dcl dps tx fm pt wk rk wts met out iM iK iR iE iT iF
    unfold w_L_law_23
    refine ⟨fun _ => trivial, fun hx => ?_⟩
    have h6 : 6 * tt + 6 ≤ L := (law_t rfl hL hx).resolve_right (by omega)
    have ih : GO xs L f (tt + 1) := IH (tt + 1) (by omega) (by omega)
    have v0 : vp_in (nI (6 * tt)) L := vp_in_nI (by omega) (by omega)
    have v1 : vp_in (nI (6 * tt) + 1) L := pk_in (6 * tt + 1) L (by omega) (nI_add _ 1) (by omega)
    have v2 : vp_in (nI (6 * tt) + 2) L := pk_in (6 * tt + 2) L (by omega) (nI_add _ 2) (by omega)
    have v3 : vp_in (nI (6 * tt) + 3) L := pk_in (6 * tt + 3) L (by omega) (nI_add _ 3) (by omega)
    have v4 : vp_in (nI (6 * tt) + 4) L := pk_in (6 * tt + 4) L (by omega) (nI_add _ 4) (by omega)
    have v5 : vp_in (nI (6 * tt) + 5) L := pk_in (6 * tt + 5) L (by omega) (nI_add _ 5) (by omega)
    rw [law_n (t := tt) rfl]
    refine ⟨v0, fun _ => ?_, fun _ => ⟨fun _ => ?_, fun _ => ⟨fun _ => ?_, fun _ => ⟨fun _ => ?_, fun _ => ⟨fun _ => ?_, fun _ => ⟨fun _ => ?_, fun _ => ⟨fun _ => ?_, fun _ => ⟨fun _ => ?_, fun _ => ⟨fun _ => ?_, fun _ => ⟨fun _ => ?_, fun _ => ⟨fun _ => ?_, fun _ => ⟨fun _ => ?_, fun _ => ⟨fun _ => ?_, fun _ => ⟨fun _ => ?_, fun _ => ?_⟩⟩⟩⟩⟩⟩⟩⟩⟩⟩⟩⟩⟩⟩
    · exact c_mark v1 v2 v3 iM (fun _ _ _ _ _ q => ih q iK iR iE iT iF)
    · exact c_property v1 v2 v3 iK (fun _ _ _ _ _ q => ih iM q iR iE iT iF)
    · exact c_part v1 v2 v3 iR (fun _ _ _ _ _ _ _ _ _ _ _ _ _ _ _ q => ih iM iK q iE iT iF)
    · exact c_loose v1 v2 v3 v4 iR (fun _ _ _ _ _ _ _ _ _ _ _ _ _ _ _ q => ih iM iK q iE iT iF)
    · exact c_exclude v1 v2 iE (fun _ _ _ q => ih iM iK iR q iT iF)
    · exact c_add v1 v2 v3 v4 v5 iT (fun _ _ _ _ q => ih iM iK iR iE q iF)
    · exact c_clear (t := t) (tx := tx) (ih iM iK iR iE ⟨Nat.zero_le _, fun j hj => absurd hj (Nat.not_lt_zero j)⟩ iF)
    · exact c_form v1 iM iR iE iT iF (fun _ _ _ _ _ _ _ _ _ _ _ _ q => ih iM iK iR iE iT q)
    · exact c_at v1 iF (fun _ => ih iM iK iR iE iT iF)
    · exact c_keep iT iF (fun _ _ _ _ q => ih iM iK iR iE q iF)
    · exact c_isIn v1 iM iR iE iT (fun _ _ _ _ _ _ _ _ _ => ih iM iK iR iE iT iF)
    · exact c_ends v1 iK iT (fun _ _ _ _ _ _ => ih iM iK iR iE iT iF)
    · exact c_rule v1 iK iT (fun _ _ _ _ _ _ => ih iM iK iR iE iT iF)
    · exact c_readers iK iT (fun _ _ _ _ _ => ih iM iK iR iE iT iF)
    · exact ih iM iK iR iE iT iF
theorem law_pure (xs : Nat → Int32) (L : Nat) (hL : L ≤ 3072) : w_L_law xs L := by
  refine ⟨513, ?_⟩
  have no : ∀ {P : Nat → Prop} (j : Nat), j < 0 → P j := fun j hj => absurd hj (Nat.not_lt_zero j)
  have := law_go xs L hL 513 0 (by omega) (by omega) (m := 0) (k := 0) (n := 0) (e := 0) (t := 0) (s := 0) (as := 0) (wc := 0) (dz := 0) (rb := 0) (rf := 0) (rp := 0) (rj := 0) (ft := 0) (my := 0) (mw := 0) (mf := fun _ => 0) (ml := fun _ => 0) (mv := fun _ => 0) (kf := fun _ => 0) (kl := fun _ => 0) (kv := fun _ => 0) (ch := fun _ => 0) (fi := fun _ => 0) (se := fun _ => 0) (th := fun _ => 0) (lo := fun _ => 0) (sl := fun _ => 0) (wt := fun _ => 0) (sn := fun _ => 0) (ex := fun _ => 0) (dC := fun _ => 0) (dcl := fun _ => 0) (dps := fun _ => 0) (tx := fun _ => 0) (fm := fun _ => 0) (pt := fun _ => 0) (wk := fun _ => 0) (rk := fun _ => 0) (wts := fun _ => 0) (met := fun _ => 0) (out := fun _ => 0)
    ⟨by omega, no⟩ (by omega) ⟨⟨by omega, fun i j hi => absurd hi (Nat.not_lt_zero i), no⟩, ⟨fun i j hi => absurd hi (Nat.not_lt_zero i), no⟩, hs_0 (fun _ => rfl), ⟨[], fun j => by simp, rfl, trivial⟩, fun _ _ => ⟨rfl, rfl, rfl⟩⟩ ⟨by omega, fun i j hi => absurd hi (Nat.not_lt_zero i)⟩ ⟨by omega, no⟩ ⟨by omega, no, fun _ => rfl⟩
  exact this
