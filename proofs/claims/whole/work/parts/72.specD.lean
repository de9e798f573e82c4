/-! Putting together: class and reference. -/
def cmg (ch fi se lo : Nat → Int32) (n : Nat) (cls : Int32 → Int32) (ex : Nat → Int32) (e : Nat) (a b : Int32) : Int32 := if ich a ∧ ich b then cmp ch fi se lo n cls ex e a b else -1
theorem cmg_ich {n : Nat} {ch fi se th lo : Nat → Int32} {cls : Int32 → Int32} {ex : Nat → Int32} {e : Nat} (hr : RowsB n ch fi se th lo) (a b : Int32) (h : 0 ≤ cmg ch fi se lo n cls ex e a b) : ich (cmg ch fi se lo n cls ex e a b) := by
  unfold cmg at h ⊢
  split at h
  · rename_i q
    rw [if_pos q]
    rcases cmp_iop (cls := cls) (ex := ex) (e := e) hr q.1 q.2 with z | z
    · rw [z] at h; exact absurd h (by decide)
    · exact z
  · exact absurd h (by decide)
theorem cmg_cls {n : Nat} {ch fi se lo : Nat → Int32} {cls : Int32 → Int32} {ex : Nat → Int32} {e : Nat} {a b : Int32} (h : 0 ≤ cmg ch fi se lo n cls ex e a b) : cls (cmg ch fi se lo n cls ex e a b) = 0 := by
  unfold cmg at h ⊢
  split at h
  · rename_i q
    rw [if_pos q]
    unfold cmp at h ⊢
    split at h
    · exact absurd h (by decide)
    · rename_i q1
      rw [if_neg q1]
      split at h
      · exact absurd h (by decide)
      · rename_i q2
        rw [if_neg q2]
        split at h
        · rename_i q3
          rw [if_pos q3]
          exact Decidable.not_not.mp q2
        · exact absurd h (by decide)
  · exact absurd h (by decide)
theorem pt_s_app {cls : Int32 → Int32} {p : Nat → Int32} {l : Nat} {c : Int32} : pt_s cls (upd p l c) (l + 1) = if cls c = 0 then some l else pt_s cls p l := by
  show (if cls (upd p l c l) = 0 then some l else pt_s cls (upd p l c) l) = _
  rw [pk_us, pt_s_cg (q := p) (fun j hj => pk_un (by omega))]
theorem pt_s_set {cls : Int32 → Int32} {p : Nat → Int32} {c : Int32} (hc : cls c = 0) : ∀ {l s : Nat}, pt_s cls p l = some s → pt_s cls (upd p s c) l = some s
  | 0, s, h => by simp [pt_s] at h
  | l + 1, s, h => by
    have hs := (pt_s_lt h).1
    unfold pt_s at h ⊢
    by_cases e : s = l
    · subst e
      rw [pk_us, if_pos hc]
    · rw [pk_un (by omega : l ≠ s)]
      by_cases q : cls (p l) = 0
      · rw [if_pos q] at h
        cases h
        exact absurd rfl e
      · rw [if_neg q] at h ⊢
        exact pt_s_set hc h
theorem s_X0_putTogether {post : Int32 → (Nat → Int32) → (Nat → Int32) → Prop} {n : Nat} {ch fi se th lo mf ml mv ex o cl0 : Nat → Int32} {m e s : Nat} (hr : RowsB n ch fi se th lo) (hu : RowsU n fi se lo) (hm : m ≤ 60) (he : e ≤ 60) (hd : dis ex e) (hs : s ≤ 2000) (ho : ∀ j, j < s → ich (o j)) (hcl : ∀ j, j < s → cl0 j = rg mf ml mv m (o j))
    (h : ∀ cl, post (nI (pt_run (rg mf ml mv m) (cmg ch fi se lo n (rg mf ml mv m) ex e) o s).2) (pt_run (rg mf ml mv m) (cmg ch fi se lo n (rg mf ml mv m) ex e) o s).1 cl) : w_X0_putTogether post (nI s) o cl0 (nI n) ch fi se lo (nI m) mf ml mv (nI e) ex := by
  obtain ⟨cls, hcls⟩ : ∃ cls, cls = rg mf ml mv m := ⟨_, rfl⟩
  obtain ⟨cm, hcm⟩ : ∃ cm, cm = cmg ch fi se lo n cls ex e := ⟨_, rfl⟩
  rw [← hcls] at hcl h
  rw [← hcm] at h
  have hal : ∀ i, i ≤ s → ∀ j, j < (pt_run cls cm o i).2 → ich ((pt_run cls cm o i).1 j) := fun i hi => pt_run_al ho (fun a b q => by rw [hcm] at q ⊢; exact cmg_ich hr a b q) i hi
  have lp : ∀ r i (p cl : Nat → Int32) (l : Nat), i + r = s → pt_run cls cm o i = (p, l) → (∀ j, j < l → cl j = cls (p j)) → (∀ j, i ≤ j → j < s → cl j = cls (o j)) →
      w_X0_putTogether_9 post (nI s) (nI n) ch fi se lo (nI m) mf ml mv (nI e) ex (r + 1) (nI l) (o1 (pt_s cls p l)) (nI i) p cl := by
    intro r
    induction r with
    | zero =>
      intro i p cl l hi hp h1 h2
      obtain rfl : i = s := by omega
      refine ⟨fun _ => ?_, fun z => absurd (Int32.le_refl _) z⟩
      have := h cl
      rw [hp] at this
      exact this
    | succ r ih =>
      intro i p cl l hi hp h1 h2
      have hle := pt_run_le (cls := cls) (cmp := cm) (o := o) i
      rw [hp] at hle
      have hle1 : l ≤ i := hle.1
      have hpi : p i = o i := hle.2 i (Nat.le_refl i)
      have hci : cl i = cls (o i) := h2 i (Nat.le_refl i) (by omega)
      have hich := hal i (by omega)
      rw [hp] at hich
      have vi : vp_in (nI i) 2000 := pk_in i 2000 (by omega)
      have vl : vp_in (nI l) 2000 := pk_in l 2000 (by omega)
      have stay : pt_step cls cm (p, l) (o i) = (upd p l (o i), l + 1) → w_X0_putTogether_69 post (fun e0 e1 e2 e3 e4 => w_X0_putTogether_9 post (nI s) (nI n) ch fi se lo (nI m) mf ml mv (nI e) ex (r + 1) e0 e1 e2 e3 e4) p cl (nI l) (o1 (pt_s cls p l)) (nI i) (-1) := by
        intro hst
        have hp2 : pt_run cls cm o (i + 1) = (upd p l (o i), l + 1) := by show pt_step cls cm (pt_run cls cm o i) (o i) = _; rw [hp]; exact hst
        have ih2 := ih (i + 1) (upd p l (o i)) (upd cl l (cls (o i))) (l + 1) (by omega) hp2 (fun j hj => by
          rw [pt_upd, pt_upd]
          split
          · rfl
          · exact h1 j (by omega)) (fun j hj1 hj2 => by rw [pt_upd, if_neg (by omega)]; exact h2 j (by omega) hj2)
        rw [pt_s_app] at ih2
        unfold w_X0_putTogether_69
        rw [nI_clamp (by omega : l < 2 ^ 31), nI_clamp (by omega : i < 2 ^ 31), pk_us, hpi, hci, nI_1, nI_1]
        refine ⟨fun _ => ⟨vi, vl, vi, vl, vl, fun z => ?_, fun z => ?_⟩, fun z => absurd rfl z⟩
        · rw [if_neg z] at ih2; exact ih2
        · rw [if_pos z] at ih2; exact ih2
      unfold w_X0_putTogether_9
      refine pk_le s i (fun z => absurd z (by omega)) (fun _ => ?_)
      cases hst : pt_s cls p l with
      | none =>
        rw [hst] at stay
        refine ⟨fun _ => stay ?_, fun z => absurd rfl z⟩
        unfold pt_step
        rw [hst]
      | some q =>
        obtain ⟨q1, q2, q3⟩ := pt_s_lt hst
        rw [hst] at stay
        have hstep : pt_step cls cm (p, l) (o i) = if (q + 1 = l ∨ cls (p (l - 1)) < cls (o i)) ∧ 0 ≤ cm (p q) (o i) then (upd p q (cm (p q) (o i)), l) else (upd p l (o i), l + 1) := by
          unfold pt_step
          rw [hst]
        refine ⟨fun z => absurd z (nI_nm1 (by omega)), fun _ => ⟨vi, ?_⟩⟩
        have el : nI l - 1 = nI (l - 1) := by rw [show (1 : Int32) = nI 1 from rfl, pk_sub (by omega)]
        rw [el, nI_clamp (by omega : i < 2 ^ 31), show o1 (some q) = nI q from rfl, nI_clamp (by omega : q < 2 ^ 31), hci, hpi]
        rw [show o1 (some q) = nI q from rfl] at stay
        have open1 : (q + 1 = l ∨ cls (p (l - 1)) < cls (o i)) → vp_in (nI q) 2000 ∧ vp_in (nI i) 2000 ∧ w_X0_compositeOf (fun r_64 => w_X0_putTogether_69 post (fun e0 e1 e2 e3 e4 => w_X0_putTogether_9 post (nI s) (nI n) ch fi se lo (nI m) mf ml mv (nI e) ex (r + 1) e0 e1 e2 e3 e4) p cl (nI l) (nI q) (nI i) r_64) (nI n) ch fi se lo (nI m) mf ml mv (nI e) ex (p q) (o i) := by
          intro hop
          refine ⟨pk_in q 2000 (by omega), vi, s_X0_compositeOf hr hu hm he hd (ho i (by omega)) ?_⟩
          have ecm : cmp ch fi se lo n (rg mf ml mv m) ex e (p q) (o i) = cm (p q) (o i) := by
            rw [hcm, hcls]; unfold cmg; rw [if_pos ⟨hich q q1, ho i (by omega)⟩]
          rw [ecm]
          by_cases hc : 0 ≤ cm (p q) (o i)
          · rw [if_pos ⟨hop, hc⟩] at hstep
            have hp2 : pt_run cls cm o (i + 1) = (upd p q (cm (p q) (o i)), l) := by show pt_step cls cm (pt_run cls cm o i) (o i) = _; rw [hp]; exact hstep
            have hc0 : cls (cm (p q) (o i)) = 0 := by rw [hcm] at hc ⊢; exact cmg_cls hc
            have ih2 := ih (i + 1) (upd p q (cm (p q) (o i))) cl l (by omega) hp2 (fun j hj => by
              rw [pt_upd]
              split
              · rename_i hjq; rw [hjq, h1 q q1, q2, hc0]
              · exact h1 j hj) (fun j hj1 hj2 => h2 j (by omega) hj2)
            rw [pt_s_set hc0 hst] at ih2
            refine ⟨fun z => ?_, fun _ => ⟨pk_in q 2000 (by omega), ?_⟩⟩
            · rw [z] at hc; exact absurd hc (by decide)
            · rw [nI_clamp (by omega : q < 2 ^ 31), nI_1]
              exact ih2
          · have hn : cm (p q) (o i) = -1 := by
              have := cmp_iop (cls := cls) (ex := ex) (e := e) hr (hich q q1) (ho i (by omega))
              rw [hcls, ecm] at this
              rcases this with z | z
              · exact z
              · exact absurd z.1 hc
            rw [hn]
            refine stay ?_
            rw [hstep, if_neg (fun z => hc z.2)]
        have shut : ¬ (q + 1 = l ∨ cls (p (l - 1)) < cls (o i)) → w_X0_putTogether_69 post (fun e0 e1 e2 e3 e4 => w_X0_putTogether_9 post (nI s) (nI n) ch fi se lo (nI m) mf ml mv (nI e) ex (r + 1) e0 e1 e2 e3 e4) p cl (nI l) (nI q) (nI i) (-1) := by
          intro hop
          refine stay ?_
          rw [hstep, if_neg (fun z => hop z.1)]
        unfold w_X0_isOpen
        rw [nI_clamp (by omega : l - 1 < 2 ^ 31), h1 (l - 1) (by omega)]
        have vl1 : vp_in (nI (l - 1)) 2000 := pk_in (l - 1) 2000 (by omega)
        refine pk_eq (l - 1) q (fun z => c_1 (open1 (Or.inl (by omega)))) (fun z => ⟨vl1, fun y => c_0 (shut ?_), fun y => ⟨vl1, fun x => ?_, fun x => c_1 (open1 (Or.inr (Int32.not_le.mp y)))⟩⟩)
        · rintro (w | w)
          · omega
          · exact absurd w (Int32.not_lt.mpr y)
        · exact absurd x (q3 (l - 1) (by omega) (by omega))
  exact ⟨s + 1, lp s 0 o cl0 0 (by omega) rfl (fun j hj => absurd hj (Nat.not_lt_zero j)) (fun j _ hj => hcl j hj)⟩
theorem s_X7_putTogether {post : Int32 → (Nat → Int32) → Prop} {n : Nat} {ch fi se th lo pt mf ml mv ex o : Nat → Int32} {m e s : Nat} (hr : RowsB n ch fi se th lo) (hu : RowsU n fi se lo) (hp : PtOk fi se th pt) (hm : m ≤ 60) (he : e ≤ 60) (hs : s ≤ 2000) (ho : ∀ j, j < s → ich (o j)) (h0 : ∀ c, 0 ≤ rg mf ml mv m c)
    (h : ∀ wk : Nat → Int32, (∀ j, j < (pt_run (rg mf ml mv m) (cmg ch fi se lo n (rg mf ml mv m) ex e) o s).2 → wk j = (pt_run (rg mf ml mv m) (cmg ch fi se lo n (rg mf ml mv m) ex e) o s).1 j) → post (nI (pt_run (rg mf ml mv m) (cmg ch fi se lo n (rg mf ml mv m) ex e) o s).2) wk) : w_X7_putTogether post (nI m) (nI n) (nI e) (nI s) mf ml mv ch lo pt ex o := by
  obtain ⟨cls, hcls⟩ : ∃ cls, cls = rg mf ml mv m := ⟨_, rfl⟩
  obtain ⟨cm, hcm⟩ : ∃ cm, cm = cmg ch fi se lo n cls ex e := ⟨_, rfl⟩
  rw [← hcls] at h h0
  rw [← hcm] at h
  have hal : ∀ i, i ≤ s → ∀ j, j < (pt_run cls cm o i).2 → ich ((pt_run cls cm o i).1 j) := fun i hi => pt_run_al ho (fun a b q => by rw [hcm] at q ⊢; exact cmg_ich hr a b q) i hi
  have srch : ∀ (C : Int32 → Prop) (w : Nat → Int32) (j : Nat), j ≤ 2000 → C (o1 (pt_s cls w j)) → w_X7_putTogether_14 post C (nI m) mf ml mv w (j + 1) (nI j - 1) := by
    intro C w j
    induction j with
    | zero => intro _ hC; exact ⟨fun _ => hC, fun z => absurd (by decide) z⟩
    | succ j ih =>
      intro hj hC
      unfold w_X7_putTogether_14
      rw [nI_pred, nI_clamp (by omega : j < 2 ^ 31), i_m1]
      refine ⟨fun z => absurd z (nI_pos (by omega)), fun _ => ⟨pk_in j 2010 (by omega), s_X7_classOf hm ?_⟩⟩
      rw [← hcls]
      unfold pt_s at hC
      refine ⟨fun z => ?_, fun z => ih (by omega) ?_⟩
      · rw [if_pos (Int32.le_antisymm z (h0 _))] at hC
        exact hC
      · rw [if_neg (fun q => z (by rw [q]; exact Int32.le_refl _))] at hC
        exact hC
  have shft : ∀ (C : (Nat → Int32) → Prop) (w0 : Nat → Int32) (l M : Nat), M ≤ 2000 → (∀ w : Nat → Int32, (∀ j, j < l → w j = w0 j) → (∀ j, l ≤ j → j < M → w j = w0 (j + 1)) → C w) → ∀ r k (w : Nat → Int32), k + r = M → l ≤ k → (∀ j, j < l → w j = w0 j) → (∀ j, l ≤ j → j < k → w j = w0 (j + 1)) → (∀ j, k ≤ j → w j = w0 j) → w_X7_putTogether_131 post C (nI M) (r + 1) (nI k) w := by
    intro C w0 l M hM hC r
    induction r with
    | zero =>
      intro k w hk _ q1 q2 _
      obtain rfl : k = M := by omega
      exact ⟨fun _ => hC w q1 q2, fun z => absurd (Int32.le_refl _) z⟩
    | succ r ih =>
      intro k w hk hl q1 q2 q3
      unfold w_X7_putTogether_131
      rw [nI_1, nI_clamp (by omega : k < 2 ^ 31), nI_clamp (by omega : k + 1 < 2 ^ 31)]
      refine pk_le M k (fun z => absurd z (by omega)) (fun _ => ⟨pk_in (k + 1) 2010 (by omega), pk_in k 2010 (by omega), ih (k + 1) _ (by omega) (by omega) (fun j hj => ?_) (fun j hj1 hj2 => ?_) (fun j hj => ?_)⟩)
      · rw [pt_upd, if_neg (by omega)]; exact q1 j hj
      · rw [pt_upd]
        split
        · rename_i z; rw [z]; exact q3 (k + 1) (by omega)
        · exact q2 j hj1 (by omega)
      · rw [pt_upd, if_neg (by omega)]; exact q3 j (by omega)
  have lp : ∀ r i (w : Nat → Int32), 1 ≤ i → i + r = s → 1 ≤ (pt_run cls cm o i).2 → (∀ j, j < (pt_run cls cm o i).2 → w j = (pt_run cls cm o i).1 j) → (∀ j, j < r → w ((pt_run cls cm o i).2 + j) = o (i + j)) →
      w_X7_putTogether_2 post (nI m) (nI n) (nI e) mf ml mv ch lo pt ex (r + 1) (nI (pt_run cls cm o i).2) (nI ((pt_run cls cm o i).2 + r)) w := by
    intro r
    induction r with
    | zero =>
      intro i w _ hi hl q1 _
      obtain rfl : i = s := by omega
      exact ⟨fun _ => h w q1, fun z => absurd (Int32.le_refl _) z⟩
    | succ r ih =>
      intro i w hi1 hi hl q1 q2
      have hle := (pt_run_le (cls := cls) (cmp := cm) (o := o) i).1
      have hich := hal i (by omega)
      have ih2 := ih (i + 1)
      have hstep0 : pt_run cls cm o (i + 1) = pt_step cls cm (pt_run cls cm o i) (o i) := rfl
      rw [hstep0] at ih2
      obtain ⟨p, hpe⟩ : ∃ p, p = (pt_run cls cm o i).1 := ⟨_, rfl⟩
      obtain ⟨l, hle'⟩ : ∃ l, l = (pt_run cls cm o i).2 := ⟨_, rfl⟩
      have hpl : pt_run cls cm o i = (p, l) := by rw [hpe, hle']
      rw [hpl] at ih2 hle hl q1 q2 hich ⊢
      dsimp only at hle hl q1 q2 hich ⊢
      have hwl : w l = o i := by have := q2 0 (by omega); simpa using this
      have hps : pt_s cls w l = pt_s cls p l := pt_s_cg q1
      have el : nI l - 1 = nI (l - 1) := by rw [show (1 : Int32) = nI 1 from rfl, pk_sub (by omega)]
      have vl : vp_in (nI l) 2010 := pk_in l 2010 (by omega)
      have stay : pt_step cls cm (p, l) (o i) = (upd p l (o i), l + 1) → ∀ x, w_X7_putTogether_103 post (fun e0 e1 e2 => w_X7_putTogether_2 post (nI m) (nI n) (nI e) mf ml mv ch lo pt ex (r + 1) e0 e1 e2) (nI (l + (r + 1))) w (nI l) x (-1) := by
        intro hst x
        rw [hst] at ih2
        refine ⟨fun _ => ?_, fun z => absurd (by decide) z⟩
        have := ih2 w (by omega) (by omega) (by omega) (fun j hj => by
          show w j = upd p l (o i) j
          rw [pt_upd]
          split
          · rename_i z; rw [z]; exact hwl
          · have hj : j < l + 1 := hj
            exact q1 j (by omega)) (fun j hj => by
          show w (l + 1 + j) = _
          have := q2 (j + 1) (by omega)
          rw [show l + 1 + j = l + (j + 1) by omega, this]
          congr 1
          omega)
        dsimp only at this
        rw [nI_1, show l + (r + 1) = l + 1 + r by omega]
        exact this
      unfold w_X7_putTogether_2
      refine pk_le (l + (r + 1)) l (fun z => absurd z (by omega)) (fun _ => ⟨l + 1, srch _ w l (by omega) ?_⟩)
      rw [hps]
      unfold w_X7_putTogether_37
      rw [el, nI_clamp (by omega : l < 2 ^ 31), nI_clamp (by omega : l - 1 < 2 ^ 31), hwl, q1 (l - 1) (by omega)]
      have vl1 : vp_in (nI (l - 1)) 2010 := pk_in (l - 1) 2010 (by omega)
      cases hst : pt_s cls p l with
      | none =>
        have hstep : pt_step cls cm (p, l) (o i) = (upd p l (o i), l + 1) := by unfold pt_step; rw [hst]
        have no : ∀ s0, w_X7_putTogether_74 post (fun e0 e1 e2 => w_X7_putTogether_2 post (nI m) (nI n) (nI e) mf ml mv ch lo pt ex (r + 1) e0 e1 e2) (nI m) (nI n) (nI e) (nI (l + (r + 1))) mf ml mv ch lo pt ex w (nI l) (-1) s0 := fun s0 => ⟨fun _ => stay hstep _, fun z => absurd (by decide) z⟩
        exact ⟨fun _ => no _, fun _ => ⟨vl1, s_X7_classOf hm ⟨vl, s_X7_classOf hm ⟨fun _ => no _, fun _ => no _⟩⟩⟩⟩
      | some q =>
        obtain ⟨k1, k2, k3⟩ := pt_s_lt hst
        have hstep : pt_step cls cm (p, l) (o i) = if (q + 1 = l ∨ cls (p (l - 1)) < cls (o i)) ∧ 0 ≤ cm (p q) (o i) then (upd p q (cm (p q) (o i)), l) else (upd p l (o i), l + 1) := by
          unfold pt_step
          rw [hst]
        rw [show o1 (some q) = nI q from rfl]
        have open1 : (q + 1 = l ∨ cls (p (l - 1)) < cls (o i)) → w_X7_putTogether_74 post (fun e0 e1 e2 => w_X7_putTogether_2 post (nI m) (nI n) (nI e) mf ml mv ch lo pt ex (r + 1) e0 e1 e2) (nI m) (nI n) (nI e) (nI (l + (r + 1))) mf ml mv ch lo pt ex w (nI l) (nI q) 1 := by
          intro hop
          refine ⟨fun z => absurd z (nI_pos (by omega)), fun _ => c_1 ⟨pk_in q 2010 (by omega), vl, ?_⟩⟩
          rw [nI_clamp (by omega : q < 2 ^ 31), nI_clamp (by omega : l < 2 ^ 31), hwl, q1 q k1]
          refine s_X7_compositeOf hr hu hp hm he (hich q k1) (ho i (by omega)) ?_
          have ecm : cmp ch fi se lo n (rg mf ml mv m) ex e (p q) (o i) = cm (p q) (o i) := by
            rw [hcm, hcls]; unfold cmg; rw [if_pos ⟨hich q k1, ho i (by omega)⟩]
          rw [ecm]
          by_cases hc : 0 ≤ cm (p q) (o i)
          · rw [hstep, if_pos ⟨hop, hc⟩] at ih2
            refine ⟨fun z => absurd z (Int32.not_lt.mpr hc), fun _ => ⟨pk_in q 2010 (by omega), ?_⟩⟩
            have em : nI (l + (r + 1)) - 1 = nI (l + r) := by rw [show l + (r + 1) = l + r + 1 by omega, nI_pred]
            rw [em, nI_clamp (by omega : q < 2 ^ 31)]
            refine ⟨r + 1, shft _ (upd w q (cm (p q) (o i))) l (l + r) (by omega) (fun w2 z1 z2 => ?_) r l _ (by omega) (Nat.le_refl _) (fun _ _ => rfl) (fun j h1 h2 => absurd h1 (by omega)) (fun _ _ => rfl)⟩
            have := ih2 w2 (by omega) (by omega) hl (fun j hj => by
              have hj : j < l := hj
              rw [z1 j hj]
              show upd w q _ j = upd p q _ j
              rw [pt_upd, pt_upd]
              split
              · rfl
              · exact q1 j hj) (fun j hj => by
              show w2 (l + j) = _
              rw [z2 (l + j) (by omega) (by omega), pt_upd, if_neg (by omega)]
              have := q2 (j + 1) (by omega)
              rw [show l + j + 1 = l + (j + 1) by omega, this]
              congr 1
              omega)
            exact this
          · have hn : cm (p q) (o i) = -1 := by
              have := cmp_iop (cls := cls) (ex := ex) (e := e) hr (hich q k1) (ho i (by omega))
              rw [hcls, ecm] at this
              rcases this with z | z
              · exact z
              · exact absurd z.1 hc
            rw [hn]
            refine stay ?_ _
            rw [hstep, if_neg (fun z => hc z.2)]
        refine pk_eq q (l - 1) (fun z => open1 (Or.inl (by omega))) (fun z => ⟨vl1, s_X7_classOf hm ⟨vl, s_X7_classOf hm ?_⟩⟩)
        rw [← hcls]
        refine ⟨fun y => ⟨fun x => absurd x (nI_pos (by omega)), fun _ => c_0 (stay ?_ _)⟩, fun y => open1 (Or.inr (Int32.not_le.mp y))⟩
        rw [hstep, if_neg]
        rintro ⟨x | x, -⟩
        · omega
        · exact absurd x (Int32.not_lt.mpr y)
  rcases Nat.eq_zero_or_pos s with rfl | hpos
  · exact ⟨1, fun _ => h o (fun _ _ => rfl), fun z => absurd (by decide) z⟩
  · have e1 : pt_run cls cm o 1 = (upd o 0 (o 0), 1) := rfl
    have := lp (s - 1) 1 o (by omega) (by omega) (by rw [e1]; omega) (fun j hj => by
      rw [e1] at hj ⊢
      show o j = upd o 0 (o 0) j
      rw [pt_upd]
      split
      · rename_i z; rw [z]
      · rfl) (fun j hj => by rw [e1])
    rw [e1] at this
    dsimp only at this
    rw [show 1 + (s - 1) = s by omega] at this
    exact ⟨_, this⟩
