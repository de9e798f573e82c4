/-! Forms: class and reference. -/
def mk (cls : Int32 → Int32) (cm : Int32 → Int32 → Int32) (T : List Int32) (odd : Bool) : (Nat → Int32) × Nat :=
  if odd then pt_run cls cm (od_sort T.length (fun i => T.getD i (-1)) (fun i => cls (T.getD i (-1)))).1 T.length else ((od_sort T.length (fun i => T.getD i (-1)) (fun i => cls (T.getD i (-1)))).1, T.length)
theorem mk_le {cls : Int32 → Int32} {cm : Int32 → Int32 → Int32} {T : List Int32} {odd : Bool} : (mk cls cm T odd).2 ≤ T.length := by
  unfold mk
  split
  · exact (pt_run_le _).1
  · exact Nat.le_refl _
theorem mk_al {cls : Int32 → Int32} {cm : Int32 → Int32 → Int32} {T : List Int32} {odd : Bool} (hT : ∀ x ∈ T, ich x) (hc : ∀ a b, 0 ≤ cm a b → ich (cm a b)) : ∀ j, j < (mk cls cm T odd).2 → ich ((mk cls cm T odd).1 j) := by
  have h0 : ∀ j, j < T.length → ich (T.getD j (-1)) := by
    intro j hj
    rw [List.getD_eq_getElem?_getD, List.getElem?_eq_getElem hj, Option.getD_some]
    exact hT _ (List.getElem_mem hj)
  have h1 := od_sort_al (Q := ich) T.length T.length (fun i => T.getD i (-1)) (fun i => cls (T.getD i (-1))) (Nat.le_refl _) h0
  unfold mk
  split
  · exact pt_run_al h1 hc T.length (Nat.le_refl _)
  · exact h1
theorem od_agree {cls : Int32 → Int32} {T : List Int32} {C cl : Nat → Int32} (hC : At C T 0) (hcl : ∀ j, j < T.length → cl j = cls (C j)) : ∀ j, j < T.length → (od_sort T.length C cl).1 j = (od_sort T.length (fun i => T.getD i (-1)) (fun i => cls (T.getD i (-1)))).1 j ∧ (od_sort T.length C cl).2 j = cls ((od_sort T.length C cl).1 j) := by
  have g : ∀ j, j < T.length → C j = T.getD j (-1) := fun j hj => by have := At_get hC j hj; rwa [Nat.zero_add] at this
  intro j hj
  refine ⟨(od_sort_cg T.length T.length _ _ _ _ (Nat.le_refl _) g (fun j hj => by rw [hcl j hj, g j hj]) j hj).1, ?_⟩
  exact od_sort_cl T.length T.length C cl (Nat.le_refl _) hcl j hj
theorem f_odd {f : Nat} (hf : f < 4) : (nI f - nI f / 2 * 2 = 1) ↔ decide (f % 2 = 1) = true := by
  rw [odd_i (by omega), decide_eq_true_iff]
theorem s_X6_makeDraft {post : Int32 → Int32 → (Nat → Int32) → (Nat → Int32) → (Nat → Int32) → Prop} {n : Nat} {ch fi se th lo sl mf ml mv ex tx C0 cl0 ps0 : Nat → Int32} {m e t f : Nat} {sz : Int32} (hr : RowsB n ch fi se th lo) (hu : RowsU n fi se lo) (hok : hs_ok sl ch n) (ha : Acy n ch fi se th) (hm : m ≤ 60) (he : e ≤ 60) (hd : dis ex e) (ht : t ≤ 1000) (hx : ∀ j, j < t → ich (tx j)) (hf : f < 4)
    {T : List Int32} (hT : T = (tl tx 0 t).flatMap (tka ch fi se th lo n (decide (2 ≤ f)))) {M : (Nat → Int32) × Nat} (hM : M = mk (rg mf ml mv m) (cmg ch fi se lo n (rg mf ml mv m) ex e) T (decide (f % 2 = 1)))
    (h0 : 2000 < T.length → ∀ z C cl ps, post 0 z C cl ps) (h1 : T.length ≤ 2000 → ∀ C cl ps, (∀ j, j < M.2 → C j = M.1 j) → post 1 (nI M.2) C cl ps) :
    w_X6_makeDraft post (nI t) (nI m) mf ml mv (nI n) ch fi se th lo sl (nI e) ex sz C0 cl0 ps0 tx (nI f) := by
  have hTi : ∀ x ∈ T, ich x := by
    intro x hxT
    rw [hT] at hxT
    obtain ⟨c, hc1, hc2⟩ := List.mem_flatMap.mp hxT
    refine dc_all (Q := ich) (fun c p hp => prt_ich hr p hp) 362 c ?_ x hc2
    exact tl_al (Q := ich) (fun i _ hi => hx i (by omega)) c hc1
  have go : w_X6_makeDraft_26 post (nI m) mf ml mv (nI n) ch fi se th lo sl (nI e) ex sz C0 cl0 ps0 tx (nI f) (b1 (decide (2 ≤ f))) (nI t) := by
    refine s_X0_takeApart hr hok ha ht hT (fun hl C ps hC => n_1 ?_) (fun hl C ps => n_0 (h0 hl _ _ _ _))
    refine s_X0_readClasses hl hm (fun cl hcl => s_X0_putInOrder hl ?_)
    have hag := od_agree hC hcl
    have hoi : ∀ j, j < T.length → ich ((od_sort T.length C cl).1 j) := od_sort_al (Q := ich) T.length T.length C cl (Nat.le_refl _) (At_mem hC hTi)
    rw [f_odd hf]
    unfold mk at hM
    refine ⟨fun z => ?_, fun z => s_X0_putTogether hr hu hm he hd hl hoi (fun j hj => (hag j hj).2) (fun cl2 => ?_)⟩
    · rw [if_neg z] at hM
      have := h1 hl (od_sort T.length C cl).1 (od_sort T.length C cl).2 ps
      rw [hM] at this
      exact this (fun j hj => (hag j hj).1)
    · rw [if_pos z] at hM
      have cg := pt_run_cg (cls := rg mf ml mv m) (cmp := cmg ch fi se lo n (rg mf ml mv m) ex e) (fun j hj => (hag j hj).1) T.length (Nat.le_refl _)
      rw [← hM] at cg
      rw [cg.1]
      exact h1 hl _ _ _ (fun j hj => cg.2 j (by rw [cg.1]; exact hj))
  refine pk_lt f 2 (fun z => ?_) (fun z => ?_)
  · rw [decide_eq_false (by omega)] at go; exact go
  · rw [decide_eq_true (by omega)] at go; exact go
theorem s_X7_make {post : Int32 → Int32 → (Nat → Int32) → (Nat → Int32) → Prop} {n : Nat} {ch fi se th lo pt mf ml mv ex tx wk0 rk0 : Nat → Int32} {m e t f : Nat} (hr : RowsB n ch fi se th lo) (hu : RowsU n fi se lo) (hp : PtOk fi se th pt) (ha : Acy n ch fi se th) (hm : m ≤ 60) (he : e ≤ 60) (hc0 : ∀ c, 0 ≤ rg mf ml mv m c) (ht : t ≤ 1000) (hx : ∀ j, j < t → ich (tx j)) (hf : f < 4)
    {T : List Int32} (hT : T = (tl tx 0 t).flatMap (tka ch fi se th lo n (decide (2 ≤ f)))) {M : (Nat → Int32) × Nat} (hM : M = mk (rg mf ml mv m) (cmg ch fi se lo n (rg mf ml mv m) ex e) T (decide (f % 2 = 1)))
    (h0 : 2000 < T.length → ∀ z C cl, post 0 z C cl) (h1 : T.length ≤ 2000 → ∀ C cl, (∀ j, j < M.2 → C j = M.1 j) → post 1 (nI M.2) C cl) :
    w_X7_make post (nI m) (nI n) (nI e) (nI t) mf ml mv ch lo pt ex tx wk0 rk0 (nI f) := by
  have hTi : ∀ x ∈ T, ich x := by
    intro x hxT
    rw [hT] at hxT
    obtain ⟨c, hc1, hc2⟩ := List.mem_flatMap.mp hxT
    refine dc_all (Q := ich) (fun c p hp => prt_ich hr p hp) 362 c ?_ x hc2
    exact tl_al (Q := ich) (fun i _ hi => hx i (by omega)) c hc1
  have go : w_X7_make_11 post (nI m) (nI n) (nI e) (nI t) mf ml mv ch lo pt ex tx wk0 rk0 (nI f) (b1 (decide (2 ≤ f))) := by
    refine s_X7_takeAll hr hp ha ht hT (fun hl C hC => n_1 ?_) (fun hl z C => n_0 (h0 hl _ _ _))
    refine s_X7_order hl hm (fun cl hcl => ?_)
    have hag := od_agree hC hcl
    have hoi : ∀ j, j < T.length → ich ((od_sort T.length C cl).1 j) := od_sort_al (Q := ich) T.length T.length C cl (Nat.le_refl _) (At_mem hC hTi)
    rw [f_odd hf]
    unfold mk at hM
    refine ⟨fun z => ?_, fun z => s_X7_putTogether hr hu hp hm he hl hoi hc0 (fun wk hwk => ?_)⟩
    · rw [if_neg z] at hM
      have := h1 hl (od_sort T.length C cl).1 (od_sort T.length C cl).2
      rw [hM] at this
      exact this (fun j hj => (hag j hj).1)
    · rw [if_pos z] at hM
      have cg := pt_run_cg (cls := rg mf ml mv m) (cmp := cmg ch fi se lo n (rg mf ml mv m) ex e) (fun j hj => (hag j hj).1) T.length (Nat.le_refl _)
      rw [← hM] at cg
      rw [cg.1] at hwk ⊢
      exact h1 hl _ _ (fun j hj => (hwk j hj).trans (cg.2 j (by rw [cg.1]; exact hj)))
  refine pk_le f 1 (fun z => ?_) (fun z => ?_)
  · rw [decide_eq_false (by omega)] at go; exact go
  · rw [decide_eq_true (by omega)] at go; exact go
theorem fm_cases {x : Int32} : (x < 0 ∧ ¬ ∃ f, f < 4 ∧ x = nI f) ∨ (¬ x < 0 ∧ 3 < x ∧ ¬ ∃ f, f < 4 ∧ x = nI f) ∨ ∃ f, f < 4 ∧ x = nI f := by
  rcases pk_ix x (n := 4) (by decide) with h | h | h
  · refine Or.inl ⟨h, ?_⟩
    rintro ⟨f, hf, rfl⟩
    exact nI_pos (by omega) h
  · have h2 : ¬ x < 0 := fun z => absurd (Int32.lt_of_le_of_lt h z) (by decide)
    refine Or.inr (Or.inl ⟨h2, ?_, ?_⟩)
    · exact Int32.lt_of_lt_of_le (by decide) h
    · rintro ⟨f, hf, rfl⟩
      rw [nI_leI (by decide) (by omega)] at h
      omega
  · exact Or.inr (Or.inr h)
theorem fm_3 {f : Nat} (hf : f < 4) : ¬ nI f < 0 ∧ ¬ 3 < nI f := by
  refine ⟨nI_pos (by omega), ?_⟩
  rw [show (3 : Int32) = nI 3 from rfl, nI_ltI (by decide) (by omega)]
  omega
theorem s_X6_isForm {post : Int32 → Prop} {x : Int32} (h0 : (¬ ∃ f, f < 4 ∧ x = nI f) → post 0) (h1 : ∀ f, f < 4 → x = nI f → post 1) : w_X6_isForm post x := by
  rcases fm_cases (x := x) with ⟨a, b⟩ | ⟨a, b, c⟩ | ⟨f, a, b⟩
  · exact ⟨fun _ => h0 b, fun z => absurd a z⟩
  · exact ⟨fun z => absurd z a, fun _ => ⟨fun _ => h0 c, fun z => absurd b z⟩⟩
  · have := fm_3 a
    rw [← b] at this
    exact ⟨fun z => absurd z this.1, fun _ => ⟨fun z => absurd z this.2, fun _ => h1 f a b⟩⟩
/-- the text's form f, before it is made: what is taken apart, and what comes out -/
def fT (ch fi se th lo : Nat → Int32) (n : Nat) (tx : Nat → Int32) (t f : Nat) : List Int32 := (tl tx 0 t).flatMap (tka ch fi se th lo n (decide (2 ≤ f)))
def fM (ch fi se th lo : Nat → Int32) (n : Nat) (mf ml mv : Nat → Int32) (m : Nat) (ex : Nat → Int32) (e : Nat) (tx : Nat → Int32) (t f : Nat) : (Nat → Int32) × Nat := mk (rg mf ml mv m) (cmg ch fi se lo n (rg mf ml mv m) ex e) (fT ch fi se th lo n tx t f) (decide (f % 2 = 1))
theorem fM_ok {n : Nat} {ch fi se th lo mf ml mv ex tx : Nat → Int32} {m e t f : Nat} (hr : RowsB n ch fi se th lo) (hx : ∀ j, j < t → ich (tx j)) : ∀ j, j < (fM ch fi se th lo n mf ml mv m ex e tx t f).2 → ich ((fM ch fi se th lo n mf ml mv m ex e tx t f).1 j) := by
  refine mk_al (fun x hxT => ?_) (fun a b h => cmg_ich hr a b h)
  obtain ⟨c, hc1, hc2⟩ := List.mem_flatMap.mp hxT
  refine dc_all (Q := ich) (fun c p hp => prt_ich hr p hp) 362 c ?_ x hc2
  exact tl_al (Q := ich) (fun i _ hi => hx i (by omega)) c hc1
section
variable {n : Nat} {ch fi se th lo sl pt mf ml mv ex tx C0 cl0 ps0 fm wk0 rk0 : Nat → Int32} {m e t : Nat} {sz : Int32}
theorem s_X6_form {post pe : Int32 → Int32 → Int32 → Int32 → (Nat → Int32) → (Nat → Int32) → (Nat → Int32) → (Nat → Int32) → Prop} {x fl as : Int32} (hr : RowsB n ch fi se th lo) (hu : RowsU n fi se lo) (hok : hs_ok sl ch n) (ha : Acy n ch fi se th) (hm : m ≤ 60) (he : e ≤ 60) (hd : dis ex e) (ht : t ≤ 1000) (hx : ∀ j, j < t → ich (tx j))
    (h1 : (¬ ∃ f, f < 4 ∧ x = nI f) → ∀ z C cl ps, pe 1 fl as z C cl ps fm) (h2 : ∀ f, f < 4 → x = nI f → 2000 < (fT ch fi se th lo n tx t f).length → ∀ z C cl ps, pe 2 fl as z C cl ps fm)
    (h0 : ∀ f, f < 4 → x = nI f → (fT ch fi se th lo n tx t f).length ≤ 2000 → ∀ z C cl ps, post (nI (fM ch fi se th lo n mf ml mv m ex e tx t f).2) (nI (fM ch fi se th lo n mf ml mv m ex e tx t f).2) 1 z C cl ps (va_cpy (fM ch fi se th lo n mf ml mv m ex e tx t f).1 fm 0 0 (fM ch fi se th lo n mf ml mv m ex e tx t f).2)) :
    w_X6_form post pe (nI t) fl as (nI m) mf ml mv (nI n) ch fi se th lo sl (nI e) ex sz C0 cl0 ps0 tx fm x := by
  refine s_X6_isForm (fun z => n_0 (h1 z _ _ _ _)) (fun f hf hxf => n_1 ?_)
  rw [hxf]
  refine s_X6_makeDraft hr hu hok ha hm he hd ht hx hf (T := fT ch fi se th lo n tx t f) rfl (M := fM ch fi se th lo n mf ml mv m ex e tx t f) rfl (fun hl z C cl ps => n_0 (h2 f hf hxf hl _ _ _ _)) (fun hl C cl ps hC => n_1 ?_)
  have hle : (fM ch fi se th lo n mf ml mv m ex e tx t f).2 ≤ (fT ch fi se th lo n tx t f).length := mk_le
  have k0 : (0 : Int32).toNatClampNeg = 0 := by decide
  rw [nI_clamp (by omega : (fM ch fi se th lo n mf ml mv m ex e tx t f).2 < 2 ^ 31), k0, cp_cg hC]
  exact ⟨by decide, by decide, nI_pos (by omega), by omega, by omega, h0 f hf hxf hl _ _ _ _⟩
theorem s_X7_form_37 {post : Int32 → Int32 → Int32 → Int32 → Int32 → (Nat → Int32) → (Nat → Int32) → (Nat → Int32) → Prop} {sh wa : Int32} {wk rk : Nat → Int32} {k : Nat} (hk : k ≤ 2000) (h : post (nI k) 0 (nI k) (nI k) 1 wk rk (va_cpy wk fm 0 0 k)) : w_X7_form_37 post (nI k) sh wa wk rk fm 0 := by
  have lp : ∀ r i, i + r = k → w_X7_form_60 post 0 (nI k) (nI k) 1 wk rk (r + 1) (nI i) (va_cpy wk fm 0 0 i) := by
    intro r
    induction r with
    | zero =>
      intro i hi
      obtain rfl : i = k := by omega
      exact ⟨fun _ => h, fun z => absurd (Int32.le_refl _) z⟩
    | succ r ih =>
      intro i hi
      have ih2 := ih (i + 1) (by omega)
      unfold w_X7_form_60
      rw [nI_1, nI_clamp (by omega : i < 2 ^ 31), ← cp_s]
      exact pk_le k i (fun z => absurd z (by omega)) (fun _ => ⟨pk_in i 2010 (by omega), pk_in i 2000 (by omega), ih2⟩)
  refine s_ref0 (c_0 ⟨k + 1, ?_⟩)
  have := lp k 0 (by omega)
  rw [cp_0] at this
  exact this
theorem s_X7_form {post : Int32 → Int32 → Int32 → Int32 → Int32 → (Nat → Int32) → (Nat → Int32) → (Nat → Int32) → Prop} {x sh wa my : Int32} (hr : RowsB n ch fi se th lo) (hu : RowsU n fi se lo) (hp : PtOk fi se th pt) (ha : Acy n ch fi se th) (hm : m ≤ 60) (he : e ≤ 60) (hc0 : ∀ c, 0 ≤ rg mf ml mv m c) (ht : t ≤ 1000) (hx : ∀ j, j < t → ich (tx j))
    (h1 : (¬ ∃ f, f < 4 ∧ x = nI f) → ∀ z C cl, post 0 1 z sh wa C cl fm) (h2 : ∀ f, f < 4 → x = nI f → 2000 < (fT ch fi se th lo n tx t f).length → ∀ z C cl, post 0 2 z sh wa C cl fm)
    (h0 : ∀ f, f < 4 → x = nI f → (fT ch fi se th lo n tx t f).length ≤ 2000 → ∀ z C cl, post (nI (fM ch fi se th lo n mf ml mv m ex e tx t f).2) 0 z (nI (fM ch fi se th lo n mf ml mv m ex e tx t f).2) 1 C cl (va_cpy (fM ch fi se th lo n mf ml mv m ex e tx t f).1 fm 0 0 (fM ch fi se th lo n mf ml mv m ex e tx t f).2)) :
    w_X7_form post (nI m) (nI n) (nI e) (nI t) my sh wa mf ml mv ch lo pt ex tx wk0 rk0 fm x := by
  have no : (¬ ∃ f, f < 4 ∧ x = nI f) → w_X7_form_13 post (nI m) (nI n) (nI e) (nI t) my sh wa mf ml mv ch lo pt ex tx wk0 rk0 fm x := fun z => n_0 (s_ref1 (c_1 (h1 z _ _ _)))
  rcases fm_cases (x := x) with ⟨a, b⟩ | ⟨a, b, c⟩ | ⟨f, a, b⟩
  · exact ⟨fun _ => no b, fun z => absurd a z⟩
  · exact ⟨fun z => absurd z a, fun _ => ⟨fun _ => no c, fun z => absurd b z⟩⟩
  · have q := fm_3 a
    rw [← b] at q
    refine ⟨fun z => absurd z q.1, fun _ => ⟨fun z => absurd z q.2, fun _ => n_1 ?_⟩⟩
    rw [b]
    refine s_X7_make hr hu hp ha hm he hc0 ht hx a (T := fT ch fi se th lo n tx t f) rfl (M := fM ch fi se th lo n mf ml mv m ex e tx t f) rfl (fun hl z C cl => c_0 (s_ref2 (c_1 (h2 f a b hl _ _ _)))) (fun hl C cl hC => c_1 ?_)
    have hle : (fM ch fi se th lo n mf ml mv m ex e tx t f).2 ≤ (fT ch fi se th lo n tx t f).length := mk_le
    refine s_X7_form_37 (by omega) ?_
    rw [cp_cg hC]
    exact h0 f a b hl _ _ _
abbrev same (M : (Nat → Int32) × Nat) (tx : Nat → Int32) (t : Nat) : Prop := M.2 = t ∧ ∀ j, j < t → M.1 j = tx j
theorem s_X0_isSameAs {post : Int32 → Prop} {C : Nat → Int32} {M : (Nat → Int32) × Nat} (hk : M.2 ≤ 2000) (ht : t ≤ 1000) (hC : ∀ j, j < M.2 → C j = M.1 j) (h1 : same M tx t → post 1) (h0 : ¬ same M tx t → post 0) : w_X0_isSameAs post (nI M.2) C tx (nI t) := by
  refine pk_eq M.2 t (fun z => ?_) (fun z => h0 (fun q => z q.1))
  have lp : ∀ r i, i + r = t → (∀ j, j < i → M.1 j = tx j) → w_X0_isSameAs_12 post C tx (nI t) (r + 1) (nI i) := by
    intro r
    induction r with
    | zero =>
      intro i hi q
      obtain rfl : i = t := by omega
      exact ⟨fun _ => h1 ⟨z, q⟩, fun z => absurd (Int32.le_refl _) z⟩
    | succ r ih =>
      intro i hi q
      unfold w_X0_isSameAs_12
      rw [nI_1, nI_clamp (by omega : i < 2 ^ 31), hC i (by omega)]
      refine pk_le t i (fun z => absurd z (by omega)) (fun _ => ⟨pk_in i 2000 (by omega), pk_in i 1000 (by omega), fun y => ih (i + 1) (by omega) (fun j hj => ?_), fun y => h0 (fun w => y (w.2 i (by omega)))⟩)
      rcases Nat.lt_or_ge j i with hji | hji
      · exact q j hji
      · obtain rfl : j = i := by omega
        exact y
  exact ⟨t + 1, lp t 0 (by omega) (fun j hj => absurd hj (Nat.not_lt_zero j))⟩
theorem s_X7_isIn_37 {post : Int32 → Int32 → Int32 → (Nat → Int32) → (Nat → Int32) → Prop} {C rk : Nat → Int32} {M : (Nat → Int32) × Nat} (hk : M.2 ≤ 2000) (ht : t ≤ 1000) (hC : ∀ j, j < M.2 → C j = M.1 j) (h1 : same M tx t → post 1 0 (nI M.2) C rk) (h0 : ¬ same M tx t → post 0 0 (nI M.2) C rk) : w_X7_isIn_37 post (nI t) (nI M.2) tx C rk 0 := by
  have n1 : nb (1 : Int32) := nb_b1 true
  have n0 : nb (0 : Int32) := nb_b1 false
  refine s_ref0 (c_0 ⟨fun z => ⟨1, ?_⟩, fun z => ?_⟩)
  · have hz : ¬ same M tx t := fun q => z (by rw [q.1])
    exact ⟨fun _ => ⟨n0, h0 hz⟩, fun _ => c_0 ⟨n0, h0 hz⟩⟩
  · have z := nI_inj (by omega) (by omega) z
    have no : ¬ same M tx t → ∀ i, w_X7_isIn_65 post 0 (nI t) (nI M.2) tx C rk 1 0 i := fun hz i => ⟨fun _ => ⟨n0, h0 hz⟩, fun _ => c_0 ⟨n0, h0 hz⟩⟩
    have lp : ∀ r i, i + r = t → (∀ j, j < i → M.1 j = tx j) → ∃ N, w_X7_isIn_65 post 0 (nI t) (nI M.2) tx C rk N 1 (nI i) := by
      intro r
      induction r with
      | zero =>
        intro i hi q
        obtain rfl : i = t := by omega
        exact ⟨1, fun _ => ⟨n1, h1 ⟨z, q⟩⟩, fun z => absurd (Int32.le_refl _) z⟩
      | succ r ih =>
        intro i hi q
        by_cases y : M.1 i = tx i
        · obtain ⟨N, hN⟩ := ih (i + 1) (by omega) (fun j hj => by
            rcases Nat.lt_or_ge j i with hji | hji
            · exact q j hji
            · obtain rfl : j = i := by omega
              exact y)
          refine ⟨N + 1, ?_⟩
          unfold w_X7_isIn_65
          rw [nI_1, nI_clamp (by omega : i < 2 ^ 31), hC i (by omega)]
          exact pk_le t i (fun z => absurd z (by omega)) (fun _ => c_1 ⟨pk_in i 2010 (by omega), pk_in i 1000 (by omega), fun w => absurd y w, fun _ => hN⟩)
        · refine ⟨2, ?_⟩
          unfold w_X7_isIn_65
          rw [nI_1, nI_clamp (by omega : i < 2 ^ 31), hC i (by omega)]
          exact pk_le t i (fun z => absurd z (by omega)) (fun _ => c_1 ⟨pk_in i 2010 (by omega), pk_in i 1000 (by omega), fun _ => no (fun w => y (w.2 i (by omega))) _, fun w => absurd w y⟩)
    exact lp t 0 (by omega) (fun j hj => absurd hj (Nat.not_lt_zero j))
theorem s_X6_isIn {post pe : Int32 → Int32 → (Nat → Int32) → (Nat → Int32) → (Nat → Int32) → Prop} {x : Int32} (hr : RowsB n ch fi se th lo) (hu : RowsU n fi se lo) (hok : hs_ok sl ch n) (ha : Acy n ch fi se th) (hm : m ≤ 60) (he : e ≤ 60) (hd : dis ex e) (ht : t ≤ 1000) (hx : ∀ j, j < t → ich (tx j))
    (h1 : (¬ ∃ f, f < 4 ∧ x = nI f) → ∀ z C cl ps, pe 1 z C cl ps) (h2 : ∀ f, f < 4 → x = nI f → 2000 < (fT ch fi se th lo n tx t f).length → ∀ z C cl ps, pe 2 z C cl ps)
    (h0 : ∀ f, f < 4 → x = nI f → (fT ch fi se th lo n tx t f).length ≤ 2000 → ∀ z C cl ps, (same (fM ch fi se th lo n mf ml mv m ex e tx t f) tx t → post 1 z C cl ps) ∧ (¬ same (fM ch fi se th lo n mf ml mv m ex e tx t f) tx t → post 0 z C cl ps)) :
    w_X6_isIn post pe (nI t) (nI m) mf ml mv (nI n) ch fi se th lo sl (nI e) ex sz C0 cl0 ps0 tx x := by
  refine s_X6_isForm (fun z => n_0 (h1 z _ _ _ _)) (fun f hf hxf => n_1 ?_)
  rw [hxf]
  refine s_X6_makeDraft hr hu hok ha hm he hd ht hx hf (T := fT ch fi se th lo n tx t f) rfl (M := fM ch fi se th lo n mf ml mv m ex e tx t f) rfl (fun hl z C cl ps => n_0 (h2 f hf hxf hl _ _ _ _)) (fun hl C cl ps hC => n_1 ?_)
  have hle : (fM ch fi se th lo n mf ml mv m ex e tx t f).2 ≤ (fT ch fi se th lo n tx t f).length := mk_le
  have hh := h0 f hf hxf hl (nI (fM ch fi se th lo n mf ml mv m ex e tx t f).2) C cl ps
  exact s_X0_isSameAs (by omega) ht hC (fun z => ⟨nb_b1 true, hh.1 z⟩) (fun z => ⟨nb_b1 false, hh.2 z⟩)
theorem s_X7_isIn {post : Int32 → Int32 → Int32 → (Nat → Int32) → (Nat → Int32) → Prop} {x my : Int32} (hr : RowsB n ch fi se th lo) (hu : RowsU n fi se lo) (hp : PtOk fi se th pt) (ha : Acy n ch fi se th) (hm : m ≤ 60) (he : e ≤ 60) (hc0 : ∀ c, 0 ≤ rg mf ml mv m c) (ht : t ≤ 1000) (hx : ∀ j, j < t → ich (tx j))
    (h1 : (¬ ∃ f, f < 4 ∧ x = nI f) → ∀ z C cl, post 0 1 z C cl) (h2 : ∀ f, f < 4 → x = nI f → 2000 < (fT ch fi se th lo n tx t f).length → ∀ z C cl, post 0 2 z C cl)
    (h0 : ∀ f, f < 4 → x = nI f → (fT ch fi se th lo n tx t f).length ≤ 2000 → ∀ z C cl, (same (fM ch fi se th lo n mf ml mv m ex e tx t f) tx t → post 1 0 z C cl) ∧ (¬ same (fM ch fi se th lo n mf ml mv m ex e tx t f) tx t → post 0 0 z C cl)) :
    w_X7_isIn post (nI m) (nI n) (nI e) (nI t) my mf ml mv ch lo pt ex tx wk0 rk0 x := by
  have no : (¬ ∃ f, f < 4 ∧ x = nI f) → w_X7_isIn_13 post (nI m) (nI n) (nI e) (nI t) my mf ml mv ch lo pt ex tx wk0 rk0 x := fun z => n_0 (s_ref1 (c_1 (h1 z _ _ _)))
  rcases fm_cases (x := x) with ⟨a, b⟩ | ⟨a, b, c⟩ | ⟨f, a, b⟩
  · exact ⟨fun _ => no b, fun z => absurd a z⟩
  · exact ⟨fun z => absurd z a, fun _ => ⟨fun _ => no c, fun z => absurd b z⟩⟩
  · have q := fm_3 a
    rw [← b] at q
    refine ⟨fun z => absurd z q.1, fun _ => ⟨fun z => absurd z q.2, fun _ => n_1 ?_⟩⟩
    rw [b]
    refine s_X7_make hr hu hp ha hm he hc0 ht hx a (T := fT ch fi se th lo n tx t f) rfl (M := fM ch fi se th lo n mf ml mv m ex e tx t f) rfl (fun hl z C cl => c_0 (s_ref2 (c_1 (h2 f a b hl _ _ _)))) (fun hl C cl hC => c_1 ?_)
    have hle : (fM ch fi se th lo n mf ml mv m ex e tx t f).2 ≤ (fT ch fi se th lo n tx t f).length := mk_le
    have hh := h0 f a b hl (nI (fM ch fi se th lo n mf ml mv m ex e tx t f).2) C cl
    exact s_X7_isIn_37 (by omega) ht hC hh.1 hh.2
end
/-- at: what stands at a place of the form -/
theorem s_X6_at {post : Int32 → Prop} {fm : Nat → Int32} {k : Nat} {x : Int32} (hk : k ≤ 2000) (h1 : (¬ ∃ i, i < k ∧ x = nI i) → post (-1)) (h0 : ∀ i, i < k → x = nI i → post (fm i)) : w_X6_at post (nI k) fm x := by
  rcases pk_ix x (n := k) (by omega) with h | h | ⟨i, hi, rfl⟩
  · refine ⟨fun _ => h1 ?_, fun z => absurd h z⟩
    rintro ⟨i, hi, rfl⟩
    exact nI_pos (by omega) h
  · have h2 : ¬ x < 0 := fun z => absurd (Int32.lt_of_le_of_lt h z) (nI_pos (by omega))
    refine ⟨fun z => absurd z h2, fun _ => ⟨fun z => absurd z (Int32.not_lt.mpr h), fun _ => h1 ?_⟩⟩
    rintro ⟨i, hi, rfl⟩
    rw [nI_leI (by omega) (by omega)] at h
    omega
  · unfold w_X6_at
    rw [nI_clamp (by omega : i < 2 ^ 31)]
    exact ⟨fun z => absurd z (nI_pos (by omega)), fun _ => pk_lt i k (fun _ => ⟨pk_in i 2000 (by omega), h0 i hi rfl⟩) (fun z => absurd z (by omega))⟩
theorem s_X7_at {post : Int32 → Int32 → Prop} {fm : Nat → Int32} {k : Nat} {x : Int32} (hk : k ≤ 2000) (h1 : (¬ ∃ i, i < k ∧ x = nI i) → post (-1) 0) (h0 : ∀ i, i < k → x = nI i → post (fm i) 0) : w_X7_at post (nI k) fm x := s_X6_at (post := fun r => post r 0) hk h1 h0
