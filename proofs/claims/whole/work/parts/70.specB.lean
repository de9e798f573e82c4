/-! Taking apart: class and reference. -/
def At (C : Nat → Int32) : List Int32 → Nat → Prop
  | [], _ => True
  | x :: l, o => C o = x ∧ At C l (o + 1)
theorem At_app {C : Nat → Int32} : ∀ {a b : List Int32} {o : Nat}, At C (a ++ b) o ↔ At C a o ∧ At C b (o + a.length)
  | [], b, o => ⟨fun h => ⟨trivial, h⟩, fun h => h.2⟩
  | x :: a, b, o => by
    show (C o = x ∧ At C (a ++ b) (o + 1)) ↔ (C o = x ∧ At C a (o + 1)) ∧ At C b (o + (a.length + 1))
    rw [At_app (a := a), show o + (a.length + 1) = o + 1 + a.length by omega, and_assoc]
theorem At_cg {C C' : Nat → Int32} : ∀ {l : List Int32} {o o' : Nat}, (∀ i, i < l.length → C' (o' + i) = C (o + i)) → At C l o → At C' l o'
  | [], _, _, _, _ => trivial
  | x :: l, o, o', h, h2 => by
    refine ⟨(h 0 (by simp)).trans h2.1, At_cg (fun i hi => ?_) h2.2⟩
    have := h (i + 1) (by simp; omega)
    rw [show o' + (i + 1) = o' + 1 + i by omega, show o + (i + 1) = o + 1 + i by omega] at this
    exact this
theorem At_of {C : Nat → Int32} : ∀ {l : List Int32} {o : Nat}, (∀ i, i < l.length → C (o + i) = l.getD i (-1)) → At C l o
  | [], _, _ => trivial
  | x :: l, o, h => by
    refine ⟨by have := h 0 (by simp); simpa using this, At_of (fun i hi => ?_)⟩
    have := h (i + 1) (by simp; omega)
    rw [show o + (i + 1) = o + 1 + i by omega] at this
    simpa using this
theorem At_get {C : Nat → Int32} : ∀ {l : List Int32} {o : Nat}, At C l o → ∀ i, i < l.length → C (o + i) = l.getD i (-1)
  | [], _, _, i, hi => absurd hi (Nat.not_lt_zero i)
  | x :: l, o, h, 0, _ => by simpa using h.1
  | x :: l, o, h, i + 1, hi => by
    have := At_get h.2 i (by simp at hi; omega)
    rw [show o + (i + 1) = o + 1 + i by omega]
    simpa using this
theorem At_mem {C : Nat → Int32} {Q : Int32 → Prop} {l : List Int32} (h : At C l 0) (hq : ∀ x ∈ l, Q x) : ∀ i, i < l.length → Q (C i) := by
  intro i hi
  have := At_get h i hi
  rw [Nat.zero_add] at this
  rw [this, List.getD_eq_getElem?_getD, List.getElem?_eq_getElem hi, Option.getD_some]
  exact hq _ (List.getElem_mem hi)
def tl (f : Nat → Int32) : Nat → Nat → List Int32
  | _, 0 => []
  | o, n + 1 => f o :: tl f (o + 1) n
theorem tl_at {f : Nat → Int32} : ∀ {n o : Nat}, At f (tl f o n) o
  | 0, _ => trivial
  | n + 1, o => ⟨rfl, tl_at (n := n)⟩
theorem tl_len {f : Nat → Int32} : ∀ {n o : Nat}, (tl f o n).length = n
  | 0, _ => rfl
  | n + 1, o => by rw [tl, List.length_cons, tl_len]
theorem tl_al {f : Nat → Int32} {Q : Int32 → Prop} : ∀ {n o : Nat}, (∀ i, o ≤ i → i < o + n → Q (f i)) → ∀ x ∈ tl f o n, Q x
  | 0, _, _, x, hx => nomatch hx
  | n + 1, o, h, x, hx => by
    rcases List.mem_cons.mp hx with rfl | hx
    · exact h o (Nat.le_refl o) (by omega)
    · exact tl_al (fun i h1 h2 => h i (by omega) (by omega)) x hx
theorem prt_len {ch fi se th lo : Nat → Int32} {n : Nat} {all : Bool} {c : Int32} : (prt ch fi se th lo n all c).length ≤ 3 := by
  unfold prt
  split
  · simp
  · split
    · simp
    · split
      · rw [pl_len]; split; omega; split <;> omega
      · simp
theorem s_X0_takeApart {post : Int32 → Int32 → (Nat → Int32) → (Nat → Int32) → Prop} {n : Nat} {ch fi se th lo sl tx C0 ps0 : Nat → Int32} {t : Nat} {vs : Int32} {all : Bool} (hr : RowsB n ch fi se th lo) (hok : hs_ok sl ch n) (ha : Acy n ch fi se th) (ht : t ≤ 1000) {T : List Int32} (hT : T = (tl tx 0 t).flatMap (tka ch fi se th lo n all))
    (h1 : T.length ≤ 2000 → ∀ C ps, At C T 0 → post 1 (nI T.length) C ps) (h0 : 2000 < T.length → ∀ C ps, post 0 vs C ps) : w_X0_takeApart post vs C0 ps0 tx ch fi se th lo sl (nI t) (b1 all) := by
  have hT1 := tka_eq hr ha (all := all)
  obtain ⟨l, hl1, hl2, hl3⟩ := ha
  have hrk : ∀ c p, p ∈ prt ch fi se th lo n all c → rk ch n l p < rk ch n l c := fun c p hp => rk_part hr hl1 hl3 hp
  have hD : ∀ c, rk ch n l c ≤ 362 := fun c => rk_le hl2 hr.1 c
  have main : ∀ (r s : Nat) (Dn Pn : List Int32) (C ps : Nat → Int32), dc_pot (rk ch n l) 362 (Dn.length + Pn.length) Pn < r → s + dc_pot (rk ch n l) 362 (Dn.length + Pn.length) Pn ≤ 1000000 → Dn.length + Pn.length ≤ 2000 → T = Dn ++ Pn.flatMap (tka ch fi se th lo n all) → At C Dn 0 → At C Pn (2000 - Pn.length) →
      w_X0_takeApart_25 post (fun x5 x6 C ps => w_X0_takeApart_126 post C ps x5 x6) vs ch fi se th lo sl (b1 all) r (nI Dn.length) (nI (2000 - Pn.length)) (nI s) C ps := by
    intro r
    induction r with
    | zero => intro s Dn Pn C ps h; exact absurd h (Nat.not_lt_zero _)
    | succ r ih =>
      intro s Dn Pn C ps hr1 hs hd hTe hC1 hC2
      cases Pn with
      | nil =>
        have e : T = Dn := by rw [hTe]; simp
        have hd : Dn.length ≤ 2000 := by simpa using hd
        have ex : w_X0_takeApart_126 post C ps (nI Dn.length) (nI (2000 - ([] : List Int32).length)) := by
          refine ⟨fun z => absurd rfl z, fun _ => ?_⟩
          rw [← e]
          exact h1 (by rw [e]; exact hd) C ps (by rw [e]; exact hC1)
        refine ⟨fun _ => ex, fun _ => ⟨fun _ => ex, fun z => absurd ?_ z⟩⟩
        exact Int32.le_refl _
      | cons c L =>
        have hd : Dn.length + (L.length + 1) ≤ 2000 := by simpa using hd
        obtain ⟨q, hq⟩ : ∃ q, q = 2000 - (L.length + 1) := ⟨_, rfl⟩
        rw [List.length_cons, ← hq] at hC2
        have hcq : C q = c := hC2.1
        have hp1 : 1 ≤ dc_pot (rk ch n l) 362 (Dn.length + (c :: L).length) (c :: L) := by
          have := dc_done (rk := rk ch n l) (D := 362) (c := c) (l := L) (t := Dn.length + (c :: L).length)
          omega
        rw [List.length_cons, ← hq]
        unfold w_X0_takeApart_25
        rw [nI_clamp (by omega : q < 2 ^ 31), hcq]
        refine pk_le 1000000 s (fun z => absurd z (by omega)) (fun _ => pk_le 2000 q (fun z => absurd z (by omega)) (fun _ => ⟨pk_in q 2000 (by omega), s_X4_read hr hok (fun ps2 hps => ?_)⟩))
        have h3 := prt_len (ch := ch) (fi := fi) (se := se) (th := th) (lo := lo) (n := n) (all := all) (c := c)
        have hTc := hT1 c
        cases hP : prt ch fi se th lo n all c with
        | nil =>
          rw [if_pos hP] at hTc
          refine n_0 ⟨pk_in Dn.length 2000 (by omega), ?_⟩
          rw [nI_1, nI_1, nI_1, nI_clamp (by omega : Dn.length < 2 ^ 31)]
          have hpot := dc_done (rk := rk ch n l) (D := 362) (c := c) (l := L) (t := Dn.length + (L.length + 1))
          rw [List.length_cons] at hr1 hs
          have e1 : (Dn ++ [c]).length = Dn.length + 1 := by simp
          have e2 : Dn.length + 1 + L.length = Dn.length + (L.length + 1) := by omega
          have := ih (s + 1) (Dn ++ [c]) L (upd C Dn.length c) ps2 (by rw [e1, e2]; omega) (by rw [e1, e2]; omega) (by rw [e1]; omega) (by rw [hTe, List.flatMap_cons, hTc, List.append_assoc]) ?_ ?_
          · rw [e1, show 2000 - L.length = q + 1 by omega] at this
            exact this
          · refine At_app.mpr ⟨At_cg (fun i hi => ?_) hC1, ?_, trivial⟩
            · rw [pt_upd, if_neg (by omega)]
            · rw [pt_upd, if_pos (by omega)]
          · rw [show 2000 - L.length = q + 1 by omega]
            refine At_cg (fun i hi => ?_) hC2.2
            rw [pt_upd, if_neg (by omega)]
        | cons p0 P0 =>
          have hne : prt ch fi se th lo n all c ≠ [] := by rw [hP]; simp
          rw [if_neg hne] at hTc
          rw [← hP]
          obtain ⟨P, hPe⟩ : ∃ P, P = prt ch fi se th lo n all c := ⟨_, rfl⟩
          rw [← hPe] at hps h3 hTc hP ⊢
          have hp3 : 1 ≤ P.length := by rw [hP]; simp
          rw [nI_1]
          refine ⟨fun _ => ?_, fun z => absurd z (nI_ne0 (by omega) (by omega))⟩
          rcases Nat.lt_or_ge (q + 1) P.length with hlt | hge
          · have hneg := pk_sneg (a := q + 1) (b := P.length) (by omega) hlt
            have hbad : 2000 < T.length := by
              rw [hTe, List.flatMap_cons, List.length_append, List.length_append, hTc]
              have := dc_len (prt := prt ch fi se th lo n all) (k := 362) P
              have := dc_len (prt := prt ch fi se th lo n all) (k := 362) L
              show 2000 < Dn.length + ((P.flatMap (dc_n (prt ch fi se th lo n all) 362)).length + (L.flatMap (dc_n (prt ch fi se th lo n all) 362)).length)
              omega
            refine ⟨fun z => absurd (Int32.lt_of_le_of_lt z hneg) (nI_pos (by omega)), fun _ => h0 hbad C ps2⟩
          · rw [pk_sub hge]
            refine pk_le Dn.length (q + 1 - P.length) (fun z => ?_) (fun z => h0 ?_ C ps2)
            · rw [nI_clamp (by omega : q + 1 - P.length < 2 ^ 31), nI_clamp (by omega : P.length < 2 ^ 31), show (0 : Int32).toNatClampNeg = 0 by decide, nI_1]
              refine ⟨by decide, nI_pos (by omega), nI_pos (by omega), by omega, by omega, ?_⟩
              have hpot := dc_step (prt := prt ch fi se th lo n all) hrk hD (c := c) (l := L) (t := Dn.length + (L.length + 1)) (by rw [← hPe]; rw [hP]; simp) (by rw [← hPe]; omega) (by omega)
              rw [List.length_cons] at hr1 hs
              rw [← hPe] at hpot
              have e1 : (P ++ L).length = P.length + L.length := List.length_append
              have e2 : Dn.length + (P.length + L.length) = Dn.length + (L.length + 1) + P.length - 1 := by omega
              have e3 : 2000 - (P.length + L.length) = q + 1 - P.length := by omega
              have := ih (s + 1) Dn (P ++ L) (va_cpy ps2 C 0 (q + 1 - P.length) P.length) ps2 (by rw [e1, e2]; omega) (by rw [e1, e2]; omega) (by rw [e1]; omega) (by rw [hTe, List.flatMap_cons, hTc, List.flatMap_append]) ?_ ?_
              · rw [e1, e3] at this
                exact this
              · refine At_cg (fun i hi => ?_) hC1
                exact pk_cpy_out (Or.inl (by omega))
              · rw [e1, e3]
                refine At_app.mpr ⟨At_of (fun i hi => ?_), At_cg (fun i hi => ?_) hC2.2⟩
                · rw [pk_cpy_in (by omega) (by omega), ← hps i hi]
                  congr 1
                  omega
                · rw [pk_cpy_out (Or.inr (by omega))]
                  congr 1
                  omega
            · rw [hTe, List.flatMap_cons, List.length_append, List.length_append, hTc]
              have := dc_len (prt := prt ch fi se th lo n all) (k := 362) P
              have := dc_len (prt := prt ch fi se th lo n all) (k := 362) L
              show 2000 < Dn.length + ((P.flatMap (dc_n (prt ch fi se th lo n all) 362)).length + (L.flatMap (dc_n (prt ch fi se th lo n all) 362)).length)
              omega
  have e0 : (2000 : Int32) - nI t = nI (2000 - t) := by rw [show (2000 : Int32) = nI 2000 from rfl, pk_sub (by omega)]
  have hp0 := dc_pot0 (rk := rk ch n l) (D := 362) hD (tl tx 0 t) (by rw [tl_len]; omega)
  rw [tl_len] at hp0
  unfold w_X0_takeApart
  rw [e0, nI_clamp (by omega : 2000 - t < 2 ^ 31), nI_clamp (by omega : t < 2 ^ 31), show (0 : Int32).toNatClampNeg = 0 by decide]
  refine ⟨by decide, nI_pos (by omega), nI_pos (by omega), by omega, by omega, dc_pot (rk ch n l) 362 t (tl tx 0 t) + 1, ?_⟩
  have := main (dc_pot (rk ch n l) 362 t (tl tx 0 t) + 1) 0 [] (tl tx 0 t) (va_cpy tx C0 0 (2000 - t) t) ps0 (by rw [tl_len, List.length_nil, Nat.zero_add]; omega) (by rw [tl_len, List.length_nil, Nat.zero_add, Nat.zero_add]; omega) (by rw [tl_len, List.length_nil]; omega) hT trivial (by
    rw [tl_len]
    refine At_cg (fun i hi => ?_) tl_at
    rw [tl_len] at hi
    rw [pk_cpy_in (by omega) (by omega)]
    congr 1
    omega)
  rw [tl_len] at this
  exact this
theorem s_X7_takeApart {post : Int32 → Int32 → (Nat → Int32) → Prop} {n : Nat} {ch fi se th lo pt wk : Nat → Int32} {a m : Nat} {all : Bool} (hr : RowsB n ch fi se th lo) (hp : PtOk fi se th pt) {P : List Int32} (hP : P = prt ch fi se th lo n all (wk a)) (ham : a < m) (hm : m ≤ 2000)
    (h0 : P = [] → post 0 (nI m) wk) (h1 : ¬ P = [] → ∀ w : Nat → Int32, (∀ j, j < a → w j = wk j) → (∀ j, j < P.length → w (a + j) = P.getD j (-1)) → (∀ j, a < j → j < m → w (j + P.length - 1) = wk j) → post 1 (nI (m + P.length - 1)) w) : w_X7_takeApart post (nI n) (nI m) ch lo pt wk (nI a) (b1 all) := by
  have h3 : P.length ≤ 3 := by rw [hP]; exact prt_len
  have hin : ∀ k, k < P.length → ¬ P.getD k (-1) < 0 := by
    intro k hk
    rw [List.getD_eq_getElem?_getD, List.getElem?_eq_getElem hk, Option.getD_some]
    exact ich_pos (prt_ich hr (all := all) (c := wk a) _ (by rw [← hP]; exact List.getElem_mem hk))
  have hout : P.getD P.length (-1) < 0 := by
    rw [List.getD_eq_getElem?_getD, List.getElem?_eq_none (Nat.le_refl _), Option.getD_none]
    decide
  unfold w_X7_takeApart
  rw [nI_clamp (by omega : a < 2 ^ 31)]
  refine ⟨pk_in a 2010 (by omega), ?_⟩
  have cnt : ∀ (C : Int32 → Prop), C (nI P.length) → ∃ k, w_X7_takeApart_10 post C (nI n) ch lo pt (b1 all) (wk a) k 0 := by
    intro C hC
    have lp : ∀ r k, k + r = P.length → w_X7_takeApart_10 post C (nI n) ch lo pt (b1 all) (wk a) (r + 1) (nI k) := by
      intro r
      induction r with
      | zero =>
        intro k hk
        obtain rfl : k = P.length := by omega
        refine s_X7_partOf hr hp (by omega) ?_
        rw [← hP]
        exact ⟨fun _ => hC, fun z => absurd hout z⟩
      | succ r ih =>
        intro k hk
        refine s_X7_partOf hr hp (by omega) ?_
        rw [← hP]
        refine ⟨fun z => absurd z (hin k (by omega)), fun _ => ?_⟩
        rw [nI_1]
        exact ih (k + 1) (by omega)
    exact ⟨_, lp P.length 0 (by omega)⟩
  refine cnt _ ?_
  by_cases he : P = []
  · rw [he]
    exact n_0 (h0 he)
  · have hp1 : 1 ≤ P.length := by
      cases P with
      | nil => exact absurd rfl he
      | cons x l => simp
    refine ⟨fun _ => ?_, fun z => absurd z (nI_ne0 (by omega) (by omega))⟩
    obtain ⟨d, hd⟩ : ∃ d, m = a + 1 + d := ⟨m - (a + 1), by omega⟩
    have sh : ∀ (C : (Nat → Int32) → Prop), (∀ w : Nat → Int32, (∀ j, j ≤ a → w j = wk j) → (∀ j, a < j → j < m → w (j + P.length - 1) = wk j) → C w) → ∀ e (w : Nat → Int32), e ≤ d → (∀ j, j ≤ a + e → w j = wk j) → (∀ j, a + e < j → j < m → w (j + P.length - 1) = wk j) → w_X7_takeApart_42 post C (nI a) (nI P.length) (e + 1) (nI (a + e)) w := by
      intro C hC e
      induction e with
      | zero =>
        intro w he hw1 hw2
        exact ⟨fun _ => hC w (fun j hj => hw1 j (by omega)) (fun j h1 h2 => hw2 j (by omega) h2), fun z => absurd (Int32.le_refl _) z⟩
      | succ e ih =>
        intro w he hw1 hw2
        unfold w_X7_takeApart_42
        have e1 : nI (a + (e + 1)) + nI P.length - 1 = nI (a + (e + 1) + P.length - 1) := by
          rw [nI_add, show (1 : Int32) = nI 1 from rfl, pk_sub (by omega)]
        have e2 : nI (a + (e + 1)) + -1 = nI (a + e) := by rw [show a + (e + 1) = a + e + 1 by omega, pk_m1]
        rw [e1, e2, nI_clamp (by omega : a + (e + 1) + P.length - 1 < 2 ^ 31), nI_clamp (by omega : a + (e + 1) < 2 ^ 31)]
        refine pk_le (a + (e + 1)) a (fun z => absurd z (by omega)) (fun _ => ⟨pk_in (a + (e + 1)) 2010 (by omega), pk_in (a + (e + 1) + P.length - 1) 2010 (by omega), ih _ (by omega) (fun j hj => ?_) (fun j hj1 hj2 => ?_)⟩)
        · rw [pt_upd, if_neg (by omega)]
          exact hw1 j (by omega)
        · rw [pt_upd]
          split
          · rename_i hj
            obtain rfl : j = a + (e + 1) := by omega
            exact hw1 _ (by omega)
          · exact hw2 j (by omega) hj2
    refine ⟨d + 1, ?_⟩
    have e0 : nI m - 1 = nI (a + d) := by rw [show (1 : Int32) = nI 1 from rfl, pk_sub (by omega), show m - 1 = a + d by omega]
    rw [e0]
    refine sh _ (fun w hw1 hw2 => ?_) d wk (by omega) (fun _ _ => rfl) (fun j h1 h2 => absurd h1 (by omega))
    have wr : ∀ r k (w : Nat → Int32), k + r = P.length → (∀ j, j < a → w j = wk j) → (∀ j, j < k → w (a + j) = P.getD j (-1)) → (∀ j, a < j → j < m → w (j + P.length - 1) = wk j) → w_X7_takeApart_76 post (fun w => post 1 (nI m + nI P.length - 1) w) (nI n) ch lo pt (nI a) (b1 all) (wk a) (nI P.length) (r + 1) (nI k) w := by
      intro r
      induction r with
      | zero =>
        intro k w hk q1 q2 q3
        obtain rfl : k = P.length := by omega
        refine ⟨fun _ => ?_, fun z => absurd (Int32.le_refl _) z⟩
        show post 1 (nI m + nI P.length - 1) w
        rw [nI_add, show nI (m + P.length) - 1 = nI (m + P.length - 1) by rw [show (1 : Int32) = nI 1 from rfl, pk_sub (by omega)]]
        exact h1 he w q1 q2 q3
      | succ r ih =>
        intro k w hk q1 q2 q3
        unfold w_X7_takeApart_76
        refine pk_le P.length k (fun z => absurd z (by omega)) (fun _ => s_X7_partOf hr hp (by omega) ?_)
        rw [nI_add, nI_1, nI_clamp (by omega : a + k < 2 ^ 31), ← hP]
        refine ⟨pk_in (a + k) 2010 (by omega), ih (k + 1) _ (by omega) (fun j hj => ?_) (fun j hj => ?_) (fun j hj1 hj2 => ?_)⟩
        · rw [pt_upd, if_neg (by omega)]; exact q1 j hj
        · rw [pt_upd]
          split
          · rename_i hjk
            obtain rfl : j = k := by omega
            rfl
          · exact q2 j (by omega)
        · rw [pt_upd, if_neg (by omega)]; exact q3 j hj1 hj2
    exact ⟨P.length + 1, wr P.length 0 w (by omega) (fun j hj => hw1 j (by omega)) (fun j hj => absurd hj (Nat.not_lt_zero j)) hw2⟩
theorem s_X7_takeAll {post : Int32 → Int32 → (Nat → Int32) → Prop} {n : Nat} {ch fi se th lo pt tx wk0 : Nat → Int32} {t : Nat} {all : Bool} (hr : RowsB n ch fi se th lo) (hp : PtOk fi se th pt) (ha : Acy n ch fi se th) (ht : t ≤ 1000) {T : List Int32} (hT : T = (tl tx 0 t).flatMap (tka ch fi se th lo n all))
    (h1 : T.length ≤ 2000 → ∀ wk, At wk T 0 → post 1 (nI T.length) wk) (h0 : 2000 < T.length → ∀ m wk, post 0 m wk) : w_X7_takeAll post (nI n) (nI t) ch lo pt tx wk0 (b1 all) := by
  have hT1 := tka_eq hr ha (all := all)
  obtain ⟨l, hl1, hl2, hl3⟩ := ha
  have hrk : ∀ c p, p ∈ prt ch fi se th lo n all c → rk ch n l p < rk ch n l c := fun c p hp => rk_part hr hl1 hl3 hp
  have hD : ∀ c, rk ch n l c ≤ 362 := fun c => rk_le hl2 hr.1 c
  have main : ∀ (r : Nat) (Dn Pn : List Int32) (wk : Nat → Int32), dc_pot (rk ch n l) 362 (Dn.length + Pn.length) Pn < r → Dn.length + Pn.length ≤ 2000 → T = Dn ++ Pn.flatMap (tka ch fi se th lo n all) → At wk (Dn ++ Pn) 0 →
      w_X7_takeAll_38 post (nI n) ch lo pt (b1 all) r (nI Dn.length) (nI (Dn.length + Pn.length)) wk := by
    intro r
    induction r with
    | zero => intro Dn Pn wk h; exact absurd h (Nat.not_lt_zero _)
    | succ r ih =>
      intro Dn Pn wk hr1 hd hTe hC
      cases Pn with
      | nil =>
        have e : T = Dn := by rw [hTe]; simp
        refine ⟨fun _ => ?_, fun z => absurd (Int32.le_refl _) z⟩
        rw [List.append_nil] at hC
        rw [List.length_nil, Nat.add_zero] at hd ⊢
        have := h1 (by rw [e]; exact hd) wk (by rw [e]; exact hC)
        rwa [e] at this
      | cons c L =>
        have hC' := At_app.mp hC
        have hcq : wk Dn.length = c := by have := hC'.2.1; rwa [Nat.zero_add] at this
        have hL := hC'.2.2
        rw [List.length_cons] at hd hr1 ⊢
        unfold w_X7_takeAll_38
        refine pk_le (Dn.length + (L.length + 1)) Dn.length (fun z => absurd z (by omega)) (fun _ => ?_)
        have hTc := hT1 c
        refine s_X7_takeApart hr hp (P := prt ch fi se th lo n all c) (by rw [hcq]) (by omega) (by omega) (fun hP => ?_) (fun hP w q1 q2 q3 => ?_)
        · rw [if_pos hP] at hTc
          refine pk_le (Dn.length + (L.length + 1)) 2000 (fun _ => c_0 ?_) (fun z => absurd z (by omega))
          have hpot := dc_done (rk := rk ch n l) (D := 362) (c := c) (l := L) (t := Dn.length + (L.length + 1))
          have e1 : (Dn ++ [c]).length = Dn.length + 1 := by simp
          have e2 : Dn.length + 1 + L.length = Dn.length + (L.length + 1) := by omega
          have := ih (Dn ++ [c]) L wk (by rw [e1, e2]; omega) (by rw [e1]; omega) (by rw [hTe, List.flatMap_cons, hTc, List.append_assoc]) (by rw [List.append_assoc]; exact hC)
          rw [e1, e2] at this
          rw [nI_1]
          exact this
        · rw [if_neg hP] at hTc
          have h3 := prt_len (ch := ch) (fi := fi) (se := se) (th := th) (lo := lo) (n := n) (all := all) (c := c)
          have hpot := fun z => dc_step (prt := prt ch fi se th lo n all) hrk hD (c := c) (l := L) (t := Dn.length + (L.length + 1)) hP z (by omega)
          obtain ⟨P, hPe⟩ : ∃ P, P = prt ch fi se th lo n all c := ⟨_, rfl⟩
          rw [← hPe] at q2 q3 hTc hP h3 hpot ⊢
          have hp1 : 1 ≤ P.length := by
            cases P with
            | nil => exact absurd rfl hP
            | cons x l => simp
          refine pk_le (Dn.length + (L.length + 1) + P.length - 1) 2000 (fun z => c_1 ?_) (fun z => h0 ?_ _ _)
          · have e1 : (P ++ L).length = P.length + L.length := List.length_append
            have e2 : Dn.length + (P.length + L.length) = Dn.length + (L.length + 1) + P.length - 1 := by omega
            have hpot := hpot z
            have := ih Dn (P ++ L) w (by rw [e1, e2]; omega) (by rw [e1]; omega) (by rw [hTe, List.flatMap_cons, hTc, List.flatMap_append]) ?_
            · rw [e1, e2] at this
              exact this
            · refine At_app.mpr ⟨At_cg (fun i hi => ?_) hC'.1, At_app.mpr ⟨At_of (fun i hi => ?_), At_cg (fun i hi => ?_) hL⟩⟩
              · rw [Nat.zero_add]; exact q1 i hi
              · rw [Nat.zero_add]; exact q2 i hi
              · have := q3 (0 + Dn.length + 1 + i) (by omega) (by omega)
                rw [← this]
                congr 1
                omega
          · rw [hTe, List.flatMap_cons, List.length_append, List.length_append, hTc]
            have := dc_len (prt := prt ch fi se th lo n all) (k := 362) P
            have := dc_len (prt := prt ch fi se th lo n all) (k := 362) L
            show 2000 < Dn.length + ((P.flatMap (dc_n (prt ch fi se th lo n all) 362)).length + (L.flatMap (dc_n (prt ch fi se th lo n all) 362)).length)
            omega
  have cp : ∀ (C : (Nat → Int32) → Prop), (∀ w, At w (tl tx 0 t) 0 → C w) → ∀ r k (w : Nat → Int32), k + r = t → (∀ j, j < k → w j = tx j) → w_X7_takeAll_10 post C (nI t) tx (r + 1) (nI k) w := by
    intro C hC r
    induction r with
    | zero =>
      intro k w hk hw
      obtain rfl : k = t := by omega
      refine ⟨fun _ => hC w (At_cg (fun i hi => ?_) tl_at), fun z => absurd (Int32.le_refl _) z⟩
      rw [tl_len] at hi
      rw [Nat.zero_add]
      exact hw i hi
    | succ r ih =>
      intro k w hk hw
      unfold w_X7_takeAll_10
      rw [nI_1, nI_clamp (by omega : k < 2 ^ 31)]
      refine pk_le t k (fun z => absurd z (by omega)) (fun _ => ⟨pk_in k 1000 (by omega), pk_in k 2010 (by omega), ih (k + 1) _ (by omega) (fun j hj => ?_)⟩)
      rw [pt_upd]
      split
      · rename_i h; rw [h]
      · exact hw j (by omega)
  refine ⟨t + 1, cp _ (fun w hw => ?_) t 0 wk0 (by omega) (fun j hj => absurd hj (Nat.not_lt_zero j))⟩
  have := main _ [] (tl tx 0 t) w (Nat.lt_succ_self _) (by rw [tl_len, List.length_nil]; omega) hT hw
  rw [tl_len, List.length_nil, Nat.zero_add] at this
  exact ⟨_, this⟩
