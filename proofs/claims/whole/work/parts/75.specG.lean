/-! Whether a row would give its own character: the reference. -/
def sz1 (c : Int32) : Nat := if sy c then (if sy_t c = 0 then 2 else 3) else 1
def sz2 (c : Int32) : Nat := if sy c then (if sy_t c = 0 then 3 else 5) else 1
def sm (f : Int32 → Nat) : List Int32 → Nat
  | [] => 0
  | c :: l => f c + sm f l
theorem sm_app {f : Int32 → Nat} : ∀ {a b : List Int32}, sm f (a ++ b) = sm f a + sm f b
  | [], b => by rw [List.nil_append, sm, Nat.zero_add]
  | x :: a, b => by rw [List.cons_append, sm, sm, sm_app (a := a)]; omega
theorem sm_le {f : Int32 → Nat} {k : Nat} (h : ∀ c, f c ≤ k) : ∀ (l : List Int32), sm f l ≤ k * l.length
  | [] => Nat.zero_le _
  | x :: l => by
    have h1 := h x
    have h2 := sm_le h l
    rw [sm, List.length_cons, Nat.mul_succ]
    omega
theorem sm_ge {f : Int32 → Nat} (h : ∀ c, 1 ≤ f c) : ∀ (l : List Int32), l.length ≤ sm f l
  | [] => Nat.zero_le _
  | x :: l => by
    have h1 := h x
    have h2 := sm_ge h l
    rw [sm, List.length_cons]
    omega
theorem sz1_le (c : Int32) : sz1 c ≤ 3 := by unfold sz1; split; split <;> omega; omega
theorem sz2_le (c : Int32) : sz2 c ≤ 5 := by unfold sz2; split; split <;> omega; omega
theorem sz1_ge (c : Int32) : 1 ≤ sz1 c := by unfold sz1; split; split <;> omega; omega
theorem sz_sy {c : Int32} (h : sy c) : sz1 (sy_a c) + sz1 (sy_b c) ≤ sz1 c ∧ sz2 (sy_a c) + sz2 (sy_b c) < sz2 c := by
  obtain ⟨h1, h2, n1, n2, n3⟩ := sy_parts h
  by_cases hz : sy_t c = 0
  · obtain ⟨ea, eb, -⟩ := h1 hz
    rw [ea, eb]
    simp only [sz1, sz2, if_pos h, if_pos hz, if_neg n1, if_neg n2]
    omega
  · obtain ⟨sa, ta, eb, -⟩ := h2 hz
    rw [eb]
    simp only [sz1, sz2, if_pos h, if_neg hz, if_pos sa, if_pos ta, if_neg n3]
    omega
theorem ato_sy {c : Int32} (h : sy c) (x : Int32) : x ∈ ato c ↔ x ∈ ato (sy_a c) ∨ x ∈ ato (sy_b c) := by
  obtain ⟨h1, h2, n1, n2, n3⟩ := sy_parts h
  by_cases hz : sy_t c = 0
  · obtain ⟨ea, eb, e⟩ := h1 hz
    rw [ea, eb, e, ato_n n1, ato_n n2]
    simp
  · obtain ⟨sa, ta, eb, e, ea⟩ := h2 hz
    rw [e, ea, eb, ato_n n3]
    simp [or_assoc]
theorem sn_cases {α : Type} : ∀ (l : List α), l = [] ∨ ∃ L b, l = L ++ [b]
  | [] => Or.inl rfl
  | x :: l => by
    rcases sn_cases l with rfl | ⟨L, b, rfl⟩
    · exact Or.inr ⟨[], x, rfl⟩
    · exact Or.inr ⟨x :: L, b, rfl⟩
theorem hs_z_same {sl : Nat → Int32} {s : Nat} {v : Int32} (h0 : ¬ sl s = 0) (hv : ¬ v = 0) : ∀ m, hs_z (upd sl s v) m = hs_z sl m
  | 0 => rfl
  | m + 1 => by
    unfold hs_z
    rw [hs_z_same h0 hv m, pt_upd]
    by_cases e : m = s
    · rw [if_pos e, if_neg hv, e, if_neg h0]
    · rw [if_neg e]
/-- still to be looked at, or done -/
def Pd (n : Nat) (ch : Nat → Int32) (w : Int32) (St : List Int32) (met : Nat → Int32) (is : Bool) (x : Int32) : Prop := (∃ q ∈ St, x ∈ ato q) ∨ ((x = w → is = true) ∧ ∀ j, j < n → ch j = x → ¬ met j = 0)
theorem Pd_mono {n : Nat} {ch : Nat → Int32} {w c : Int32} {Bs St' : List Int32} {met met' : Nat → Int32} {is is' : Bool} {x : Int32} (hc : ∀ y ∈ ato c, Pd n ch w St' met' is' y) (hB : ∀ q ∈ Bs, q ∈ St') (hi : is = true → is' = true) (hm : ∀ j, j < n → ¬ met j = 0 → ¬ met' j = 0) (h : Pd n ch w (Bs ++ [c]) met is x) : Pd n ch w St' met' is' x := by
  rcases h with ⟨q, hq, hx⟩ | ⟨h1, h2⟩
  · rcases List.mem_append.mp hq with hq | hq
    · exact Or.inl ⟨q, hB q hq, hx⟩
    · rw [List.mem_singleton] at hq
      exact hc x (hq ▸ hx)
  · exact Or.inr ⟨fun e => hi (h1 e), fun j hj e => hm j hj (h2 j hj e)⟩
theorem s_X7_gives_130 {post : Int32 → Int32 → (Nat → Int32) → (Nat → Int32) → Prop} {n : Nat} {ch fi se th lo pt : Nat → Int32} (hr : RowsB n ch fi se th lo) (hp : PtOk fi se th pt) {c : Int32} {P : List Int32} (hP : P = prt ch fi se th lo n true c) (C : Int32 → (Nat → Int32) → Prop) {Bs : List Int32} (hb : Bs.length + P.length ≤ 1000)
    (h : ∀ w, At w (Bs ++ P) 0 → C (nI (Bs ++ P).length) w) {wts : Nat → Int32} (hat : At wts Bs 0) : ∃ k, w_X7_gives_130 post C (nI n) ch lo pt c 1 k 0 (nI Bs.length) wts := by
  have h3 : P.length ≤ 3 := by rw [hP]; exact prt_len
  have lp : ∀ r k (w : Nat → Int32), k + r = 3 → At w (Bs ++ P.take k) 0 → w_X7_gives_130 post C (nI n) ch lo pt c 1 (r + 1) (nI k) (nI (Bs ++ P.take k).length) w := by
    intro r
    induction r with
    | zero =>
      intro k w hk hw
      obtain rfl : k = 3 := by omega
      rw [List.take_of_length_le h3] at hw ⊢
      exact ⟨fun _ => h w hw, fun z => absurd (Int32.le_refl _) z⟩
    | succ r ih =>
      intro k w hk hw
      unfold w_X7_gives_130
      refine pk_le 3 k (fun z => absurd z (by omega)) (fun _ => c_1 (s_X7_partOf (all := true) hr hp (by omega) ?_))
      rw [← hP, nI_1]
      rcases Nat.lt_or_ge k P.length with hkl | hkl
      · have hg : P.getD k (-1) = P[k] := by rw [List.getD_eq_getElem?_getD, List.getElem?_eq_getElem hkl, Option.getD_some]
        have hic : ich P[k] := prt_ich hr (all := true) (c := c) _ (by rw [← hP]; exact List.getElem_mem hkl)
        have ht : P.take (k + 1) = P.take k ++ [P[k]] := by rw [List.take_add_one, List.getElem?_eq_getElem hkl]; rfl
        have hl : (Bs ++ P.take k).length = Bs.length + k := by rw [List.length_append, List.length_take, Nat.min_eq_left (by omega)]
        have hl2 : (Bs ++ P.take (k + 1)).length = Bs.length + k + 1 := by rw [List.length_append, List.length_take, Nat.min_eq_left (by omega)]; omega
        rw [hg, hl]
        refine ⟨fun z => absurd z (ich_pos hic), fun _ => ⟨pk_in (Bs.length + k) 1000 (by omega), ?_⟩⟩
        rw [nI_1, nI_clamp (by omega : Bs.length + k < 2 ^ 31)]
        have := ih (k + 1) (upd w (Bs.length + k) P[k]) (by omega) (by
          rw [ht, ← List.append_assoc]
          refine At_app.mpr ⟨At_cg (fun i hi => ?_) hw, ?_, trivial⟩
          · rw [hl] at hi
            rw [pt_upd, if_neg (by omega)]
          · rw [hl, Nat.zero_add, pk_us])
        rw [hl2] at this
        exact this
      · have hg : P.getD k (-1) = -1 := by rw [List.getD_eq_getElem?_getD, List.getElem?_eq_none hkl, Option.getD_none]
        rw [hg]
        refine ⟨fun _ => ?_, fun z => absurd (by decide) z⟩
        have e : P.take (k + 1) = P.take k := by rw [List.take_of_length_le hkl, List.take_of_length_le (by omega)]
        have := ih (k + 1) w (by omega) (by rw [e]; exact hw)
        rw [e] at this
        exact this
  have := lp 3 0 wts (by omega) (by rw [List.take_zero, List.append_nil]; exact hat)
  rw [List.take_zero, List.append_nil] at this
  exact ⟨4, this⟩
theorem s_X7_gives_130z {post : Int32 → Int32 → (Nat → Int32) → (Nat → Int32) → Prop} {n : Nat} {ch lo pt : Nat → Int32} {c : Int32} (C : Int32 → (Nat → Int32) → Prop) {k : Int32} {wts : Nat → Int32} (h : C k wts) : ∃ N, w_X7_gives_130 post C (nI n) ch lo pt c 0 N 0 k wts :=
  ⟨1, fun z => absurd z (by decide), fun _ => c_0 h⟩
theorem s_X7_gives_25 {post : Int32 → Int32 → (Nat → Int32) → (Nat → Int32) → Prop} {n : Nat} {ch fi se th lo pt : Nat → Int32} {w : Int32} {S : List Int32} (hr : RowsB n ch fi se th lo) (hp : PtOk fi se th pt) (hw : ¬ sy w)
    (h1 : rc ato n ch (pls fi se th) S w → ∀ k wt sn, post 1 k wt sn) (h0 : ¬ rc ato n ch (pls fi se th) S w → ∀ k wt sn, post 0 k wt sn) :
    ∀ (f : Nat) (St : List Int32) (wts met : Nat → Int32) (is : Bool), sm sz2 St + 16 * hs_z met n < f → sm sz1 St + 8 * hs_z met n ≤ 9 + 8 * n → (∀ c ∈ St, ∀ a ∈ ato c, rc ato n ch (pls fi se th) S a) → At wts St 0 → (is = true → rc ato n ch (pls fi se th) S w) →
      (∀ p ∈ S, ∀ x ∈ ato p, Pd n ch w St met is x) → (∀ j, j < n → ¬ met j = 0 → ∀ p ∈ pls fi se th j, ∀ x ∈ ato p, Pd n ch w St met is x) → w_X7_gives_25 post (nI n) ch lo pt w f (b1 is) (nI St.length) wts met := by
  obtain ⟨R, hR⟩ : ∃ R : Int32 → Prop, R = rc ato n ch (pls fi se th) S := ⟨_, rfl⟩
  have hrow0 : ∀ j, j < n → R (ch j) → ∀ p ∈ pls fi se th j, ∀ x ∈ ato p, R x := by
    intro j hj h p hp x hx
    rw [hR] at h ⊢
    exact rc_row hj h (rc_self hp hx)
  have hn := hr.1
  intro f
  induction f with
  | zero => intro St wts met is h; exact absurd h (Nat.not_lt_zero _)
  | succ f ih =>
    intro St wts met is hf hs hsnd hat his hc1 hc2
    rw [← hR] at hsnd his h1 h0
    rcases sn_cases St with rfl | ⟨Bs, c, rfl⟩
    · refine ⟨fun _ => ⟨nb_b1 is, ?_⟩, fun z => absurd (by decide) z⟩
      cases is with
      | true => exact h1 (his rfl) _ _ _
      | false =>
        refine h0 (fun hRw => ?_) _ _ _
        have hnp : ∀ x, Pd n ch w [] met false x → (x = w → false = true) ∧ ∀ j, j < n → ch j = x → ¬ met j = 0 := by
          rintro x (⟨q, hq, -⟩ | h)
          · exact nomatch hq
          · exact h
        rw [hR] at hRw
        have := hRw (fun x => (x = w → false = true) ∧ ∀ j, j < n → ch j = x → ¬ met j = 0) (fun p hp x hx => hnp x (hc1 p hp x hx)) (fun j hj hT p hp x hx => hnp x (hc2 j hj (hT.2 j hj rfl) p hp x hx))
        exact absurd (this.1 rfl) (by decide)
    · have hl : (Bs ++ [c]).length = Bs.length + 1 := by simp
      have hlen := sm_ge (f := sz1) sz1_ge (Bs ++ [c])
      have hz := hs_z_le (sl := met) n
      obtain ⟨hatB, hatc⟩ := At_app.mp hat
      have hcq : wts Bs.length = c := by have := hatc.1; rwa [Nat.zero_add] at this
      have e1 : sm sz1 (Bs ++ [c]) = sm sz1 Bs + sz1 c := by rw [sm_app]; simp [sm]
      have e2 : sm sz2 (Bs ++ [c]) = sm sz2 Bs + sz2 c := by rw [sm_app]; simp [sm]
      rw [e1] at hs hlen
      rw [e2] at hf
      rw [hl] at hlen ⊢
      have hsc : ∀ a ∈ ato c, R a := hsnd c (by simp)
      have hsB : ∀ q ∈ Bs, ∀ a ∈ ato q, R a := fun q hq => hsnd q (List.mem_append_left _ hq)
      obtain ⟨is', hise⟩ : ∃ is', is' = (is || decide (c = w)) := ⟨_, rfl⟩
      have him : is = true → is' = true := fun z => by rw [hise, z]; rfl
      have hicw : c = w → is' = true := fun z => by rw [hise, decide_eq_true z, Bool.or_true]
      have his' : is' = true → R w := by
        intro z
        rw [hise, Bool.or_eq_true, decide_eq_true_iff] at z
        rcases z with z | z
        · exact his z
        · have hn1 : ¬ sy c := by rw [z]; exact hw
          rw [ato_n hn1] at hsc
          rw [← z]
          exact hsc c (by simp)
      -- going on
      have go : ∀ (St' : List Int32) (wts' met' : Nat → Int32), sm sz2 St' + 16 * hs_z met' n < sm sz2 Bs + sz2 c + 16 * hs_z met n → sm sz1 St' + 8 * hs_z met' n ≤ 9 + 8 * n → (∀ q ∈ St', ∀ a ∈ ato q, R a) → At wts' St' 0 → (∀ y ∈ ato c, Pd n ch w St' met' is' y) → (∀ q ∈ Bs, q ∈ St') → (∀ j, j < n → ¬ met j = 0 → ¬ met' j = 0) → (∀ j, j < n → ¬ met' j = 0 → ¬ met j = 0 ∨ ∀ p ∈ pls fi se th j, p ∈ St') → w_X7_gives_25 post (nI n) ch lo pt w f (b1 is') (nI St'.length) wts' met' := by
        intro St' wts' met' g1 g2 g3 g4 g5 g6 g7 g8
        refine ih St' wts' met' is' (by omega) g2 (by rw [← hR]; exact g3) g4 (by rw [← hR]; exact his') (fun p hp x hx => Pd_mono g5 g6 him g7 (hc1 p hp x hx)) (fun j hj hm p hp x hx => ?_)
        rcases g8 j hj hm with h | h
        · exact Pd_mono g5 g6 him g7 (hc2 j hj h p hp x hx)
        · exact Or.inl ⟨p, h p hp, hx⟩
      have main : w_X7_gives_66 post (fun e0 e1 e2 e3 => w_X7_gives_25 post (nI n) ch lo pt w f e0 e1 e2 e3) (nI n) (nI Bs.length) ch lo pt wts met c (b1 is') := by
        refine s_X7_isSyllable ?_
        by_cases hsy : sy c
        · rw [if_pos hsy]
          refine c_1 (s_X7_isSyllable ?_)
          rw [if_pos hsy]
          have hP : [sy_a c, sy_b c] = prt ch fi se th lo n true c := (if_pos hsy).symm
          obtain ⟨w1, w2⟩ := sz_sy hsy
          have hB := sm_ge (f := sz1) sz1_ge Bs
          have s1e : sm sz1 (Bs ++ [sy_a c, sy_b c]) = sm sz1 Bs + (sz1 (sy_a c) + sz1 (sy_b c)) := by rw [sm_app]; simp [sm]
          have s2e : sm sz2 (Bs ++ [sy_a c, sy_b c]) = sm sz2 Bs + (sz2 (sy_a c) + sz2 (sy_b c)) := by rw [sm_app]; simp [sm]
          refine n_1 ⟨fun _ => s_X7_gives_130 hr hp hP _ (by simp; omega) (fun wts' hat' => ?_) hatB, fun z => absurd (by decide) z⟩
          refine go _ wts' met (by rw [s2e]; omega) (by rw [s1e]; omega) (fun q hq a ha => ?_) hat' (fun y hy => ?_) (fun q hq => List.mem_append_left _ hq) (fun _ _ h => h) (fun _ _ h => Or.inl h)
          · rcases List.mem_append.mp hq with hq | hq
            · exact hsB q hq a ha
            · simp only [List.mem_cons, List.not_mem_nil, or_false] at hq
              refine hsc a ((ato_sy hsy a).mpr ?_)
              rcases hq with e | e
              · exact Or.inl (e ▸ ha)
              · exact Or.inr (e ▸ ha)
          · rcases (ato_sy hsy y).mp hy with h | h
            · exact Or.inl ⟨sy_a c, by simp, h⟩
            · exact Or.inl ⟨sy_b c, by simp, h⟩
        · rw [if_neg hsy]
          rw [ato_n hsy] at hsc go
          have hRc : R c := hsc c (by simp)
          have sc1 : sz1 c = 1 := if_neg hsy
          have sc2 : sz2 c = 1 := if_neg hsy
          refine c_0 (s_X7_rowOf hn (s_X7_isSyllable ?_))
          rw [if_neg hsy]
          cases hri : ri ch n c with
          | none =>
            refine n_0 ⟨fun _ => ⟨fun _ => s_X7_gives_130z _ ?_, fun z => absurd (by decide) z⟩, fun z => absurd (by decide) z⟩
            refine go Bs wts met (by omega) (by omega) hsB hatB (fun y hy => ?_) (fun q hq => hq) (fun _ _ h => h) (fun _ _ h => Or.inl h)
            rw [List.mem_singleton] at hy
            rw [hy]
            exact Or.inr ⟨hicw, fun j hj e => absurd e (ri_none hri j hj)⟩
          | some j =>
            obtain ⟨hj, hcj⟩ := ri_some hri
            have ko : (o1 (some j)).toNatClampNeg = j := nI_clamp (by omega)
            have pos : ¬ o1 (some j) < 0 := nI_pos (by omega)
            have vj : vp_in (o1 (some j)) 120 := pk_in j 120 (by omega)
            have uq : ∀ i, i < n → ch i = c → i = j := fun i hi hci => hr.2.1 i j hi hj (hci.trans hcj.symm)
            have mo : ∀ i, i < n → ¬ met i = 0 → ¬ upd met j 1 i = 0 := by
              intro i hi h
              rw [pt_upd]
              split
              · decide
              · exact h
            have dn : ∀ (St' : List Int32), ∀ y ∈ [c], Pd n ch w St' (upd met j 1) is' y := by
              intro St' y hy
              rw [List.mem_singleton] at hy
              rw [hy]
              refine Or.inr ⟨hicw, fun i hi e => ?_⟩
              rw [uq i hi e, pk_us]
              decide
            refine n_0 ⟨fun z => absurd z pos, fun _ => ⟨vj, fun hm => ⟨fun z => absurd z pos, fun _ => ⟨vj, ?_⟩⟩, fun hm => ⟨fun z => absurd z pos, fun _ => ⟨vj, ?_⟩⟩⟩⟩
            · rw [ko] at hm
              rw [ko, nar_1]
              refine s_X7_gives_130z _ ?_
              have hz2 := hs_z_same (sl := met) (s := j) (v := 1) hm (by decide) n
              refine go Bs wts (upd met j 1) (by omega) (by omega) hsB hatB (dn Bs) (fun q hq => hq) mo (fun i hi h => ?_)
              rw [pt_upd] at h
              split at h
              · rename_i e; rw [e]; exact Or.inl hm
              · exact Or.inl h
            · rw [ko] at hm
              rw [ko, nar_1]
              have hP : pls fi se th j = prt ch fi se th lo n true c := by unfold prt; rw [if_neg hsy, hri]; simp
              have hz2 := hs_z_dec (sl := met) (s := j) (v := 1) hm (by decide) n
              rw [if_pos hj] at hz2
              have hPl : (pls fi se th j).length ≤ 3 := by rw [hP]; exact prt_len
              have q1 := sm_le (f := sz1) sz1_le (pls fi se th j)
              have q2 := sm_le (f := sz2) sz2_le (pls fi se th j)
              have hB := sm_ge (f := sz1) sz1_ge Bs
              refine s_X7_gives_130 hr hp hP _ (by omega) (fun wts' hat' => ?_) hatB
              refine go _ wts' (upd met j 1) (by rw [sm_app]; omega) (by rw [sm_app]; omega) (fun q hq a ha => ?_) hat' (dn _) (fun q hq => List.mem_append_left _ hq) mo (fun i hi h => ?_)
              · rcases List.mem_append.mp hq with hq | hq
                · exact hsB q hq a ha
                · exact hrow0 j hj (by rw [hcj]; exact hRc) q hq a ha
              · rw [pt_upd] at h
                split at h
                · rename_i e; rw [e]; exact Or.inr (fun p hp => List.mem_append_right _ hp)
                · exact Or.inl h
      unfold w_X7_gives_25
      rw [nI_pred, nI_clamp (by omega : Bs.length < 2 ^ 31), hcq]
      refine ⟨fun z => absurd z (nI_nle (by omega) (by omega)), fun _ => ⟨pk_in Bs.length 1000 (by omega), ?_⟩⟩
      cases his2 : is with
      | true =>
        rw [him his2] at main
        exact n_1 main
      | false =>
        refine n_0 ⟨fun z => ?_, fun z => ?_⟩
        · rw [hise, his2, decide_eq_false z] at main
          exact main
        · rw [hicw z] at main
          exact main
theorem s_X7_await {post : Int32 → (Nat → Int32) → Prop} {Bs : List Int32} {wts : Nat → Int32} {a : Int32} (hb : Bs.length < 1000) (hat : At wts Bs 0) (hn : a = -1 → post (nI Bs.length) wts) (hi : iop a) (hs : ¬ a = -1 → ∀ w, At w (Bs ++ [a]) 0 → post (nI (Bs ++ [a]).length) w) : w_X7_await post (nI Bs.length) wts a := by
  refine ⟨fun z => hn ((iop_neg hi).mp z), fun z => ⟨pk_in Bs.length 1000 hb, ?_⟩⟩
  have := hs (fun e => z ((iop_neg hi).mpr e)) (upd wts Bs.length a) (At_app.mpr ⟨At_cg (fun i hi => by rw [pt_upd, if_neg (by omega)]) hat, by rw [Nat.zero_add, pk_us], trivial⟩)
  rw [show (Bs ++ [a]).length = Bs.length + 1 by simp] at this
  rw [nI_1, nI_clamp (by omega : Bs.length < 2 ^ 31)]
  exact this
theorem s_X7_givesOne {post : Int32 → Int32 → (Nat → Int32) → (Nat → Int32) → Prop} {n : Nat} {ch fi se th lo pt wts0 met0 : Nat → Int32} {w a b c : Int32} (hr : RowsB n ch fi se th lo) (hp : PtOk fi se th pt) (hw : ¬ sy w) (ha : ich a) (hb : iop b) (hc : iop c) (hbc : b = -1 → c = -1)
    (h1 : rc ato n ch (pls fi se th) (pl a b c) w → ∀ k wt sn, post 1 k wt sn) (h0 : ¬ rc ato n ch (pls fi se th) (pl a b c) w → ∀ k wt sn, post 0 k wt sn) : w_X7_givesOne post (nI n) ch lo pt wts0 met0 w a b c := by
  have hn := hr.1
  have gv : ∀ (wts : Nat → Int32), At wts (pl a b c) 0 → w_X7_gives (fun r k wt sn => nb r ∧ post r k wt sn) (nI n) (nI (pl a b c).length) ch lo pt wts met0 w := by
    intro wts hat
    have rst : ∀ (C : (Nat → Int32) → Prop), (∀ met : Nat → Int32, (∀ j, j < n → met j = 0) → C met) → ∀ r i (met : Nat → Int32), i + r = n → (∀ j, j < i → met j = 0) → w_X7_gives_2 (fun r k wt sn => nb r ∧ post r k wt sn) C (nI n) (r + 1) (nI i) met := by
      intro C hC r
      induction r with
      | zero =>
        intro i met hi q
        obtain rfl : i = n := by omega
        exact ⟨fun _ => hC met q, fun z => absurd (Int32.le_refl _) z⟩
      | succ r ih =>
        intro i met hi q
        unfold w_X7_gives_2
        rw [nI_1, nI_clamp (by omega : i < 2 ^ 31), nar_0]
        refine pk_le n i (fun z => absurd z (by omega)) (fun _ => ⟨pk_in i 120 (by omega), ih (i + 1) _ (by omega) (fun j hj => ?_)⟩)
        rw [pt_upd]
        split
        · rfl
        · exact q j (by omega)
    refine ⟨n + 1, rst _ (fun met hm => ⟨_, s_X7_gives_25 (S := pl a b c) hr hp hw (fun z k wt sn => ⟨nb_b1 true, h1 z k wt sn⟩) (fun z k wt sn => ⟨nb_b1 false, h0 z k wt sn⟩) _ (pl a b c) wts met false (Nat.lt_succ_self _) ?_ (fun q hq x hx => rc_self hq hx) hat (fun z => nomatch z) (fun p hp x hx => Or.inl ⟨p, hp, hx⟩) (fun j hj hz => absurd (hm j hj) hz)⟩) n 0 met0 (by omega) (fun j hj => absurd hj (Nat.not_lt_zero j))⟩
    rw [hs_z_0 n hm]
    have q := sm_le (f := sz1) sz1_le (pl a b c)
    have : (pl a b c).length ≤ 3 := by rw [pl_len]; split; omega; split <;> omega
    omega
  refine s_X7_await (Bs := []) (by simp) trivial (fun z => absurd (z ▸ ha) m1_ich) (Or.inr ha) (fun _ w1 hat1 => ?_)
  refine s_X7_await (by simp) hat1 (fun z => ?_) hb (fun z w2 hat2 => ?_)
  · have hz := hbc z
    refine s_X7_await (by simp) hat1 (fun _ => ?_) hc (fun y => absurd hz y)
    have e : pl a b c = [a] := by unfold pl; rw [if_pos z]
    rw [e] at gv
    exact gv w1 hat1
  · refine s_X7_await (by simp) hat2 (fun y => ?_) hc (fun y w3 hat3 => ?_)
    · have e : pl a b c = [a, b] := by unfold pl; rw [if_neg z, if_pos y]
      rw [e] at gv
      exact gv w2 hat2
    · have e : pl a b c = [a, b, c] := by unfold pl; rw [if_neg z, if_neg y]
      rw [e] at gv
      exact gv w3 hat3
