/-! part and loose: class and reference. -/
theorem s_X6_mayHaveRow {post : Int32 → Prop} {n : Nat} {ch sl : Nat → Int32} {w : Int32} (hok : hs_ok sl ch n) (hn : n ≤ 120) (hd : dis ch n) (h1 : ich w → ¬ sy w → ri ch n w = none → post 1) (h0 : ¬ (ich w ∧ ¬ sy w ∧ ri ch n w = none) → post 0) : w_X6_mayHaveRow post ch sl w := by
  refine s_X6_isCharacter ?_
  by_cases a : ich w
  · rw [if_pos a]
    refine c_1 (s_X5_has ?_)
    by_cases b : sy w
    · rw [if_pos b]; exact n_1 (h0 (fun z => z.2.1 b))
    · rw [if_neg b]
      refine n_0 (s_X4_has hok hn hd ?_)
      cases c : ri ch n w with
      | none => exact n_0 (h1 a b c)
      | some j => exact n_1 (h0 (fun z => by rw [z.2.2] at c; exact nomatch c))
  · rw [if_neg a]; exact c_0 (h0 (fun z => a z.1))
theorem s_X7_canHaveRow {post : Int32 → Prop} {n : Nat} {ch : Nat → Int32} {w : Int32} (hn : n ≤ 120) (h1 : ich w → ¬ sy w → ri ch n w = none → post 1) (h0 : ¬ (ich w ∧ ¬ sy w ∧ ri ch n w = none) → post 0) : w_X7_canHaveRow post (nI n) ch w := by
  refine s_X7_isCharacter ?_
  by_cases a : ich w
  · rw [if_pos a]
    refine c_1 (s_X7_isSyllable ?_)
    by_cases b : sy w
    · rw [if_pos b]; exact n_1 (h0 (fun z => z.2.1 b))
    · rw [if_neg b]
      refine n_0 (s_X7_rowOf hn ?_)
      cases c : ri ch n w with
      | none => exact ⟨fun z => absurd z (by decide), fun _ => h1 a b c⟩
      | some j =>
        have := (ri_some c).1
        exact ⟨fun _ => h0 (fun z => by rw [z.2.2] at c; exact nomatch c), fun z => absurd (nI_pos' (by omega)) z⟩
  · rw [if_neg a]; exact c_0 (h0 (fun z => a z.1))
theorem s_X4_isFull {post : Int32 → Prop} {n : Nat} (hn : n ≤ 120) (h0 : n < 120 → post 0) (h1 : n = 120 → post 1) : w_X4_isFull post (nI n) := pk_lt n 120 h0 (fun z => h1 (by omega))
theorem hs_ok_cg {sl own own' : Nat → Int32} {n : Nat} (h : ∀ j, j < n → own' j = own j) (hok : hs_ok sl own n) : hs_ok sl own' n := by
  refine ⟨hok.1, hok.2.1, fun j hj => ?_⟩
  rw [h j hj]
  exact hok.2.2 j hj
theorem upd_uu {f : Nat → Int32} {k : Nat} {x y : Int32} : upd (upd f k x) k y = upd f k y := by
  funext j
  rw [pt_upd, pt_upd, pt_upd]
  split <;> rfl
theorem s_X4_tell {post : Int32 → (Nat → Int32) → (Nat → Int32) → (Nat → Int32) → (Nat → Int32) → (Nat → Int32) → (Nat → Int32) → Prop} {n : Nat} {ch fi se th lo sl : Nat → Int32} {w a b c : Int32} {l : Bool} (hok : hs_ok sl ch n) (hn : n < 120) (hno : ri ch n w = none)
    (h : ∀ sl', hs_ok sl' (upd ch n w) (n + 1) → post (nI (n + 1)) (upd ch n w) (upd fi n a) (upd se n b) (upd th n c) (upd lo n (b1 l)) sl') : w_X4_tell post (nI n) ch fi se th lo sl w a b c (b1 l) := by
  have v : vp_in (nI n) 120 := pk_in n 120 hn
  have hok2 : hs_ok sl (upd ch n w) n := hs_ok_cg (fun j hj => pk_un (by omega)) hok
  have hno2 : ∀ j, j < n → ¬ upd ch n w j = w := fun j hj => by rw [pk_un (by omega)]; exact ri_none hno j hj
  refine s_X4_isFull (by omega) (fun _ => c_0 ⟨v, v, v, v, v, ?_⟩) (fun z => absurd z (by omega))
  have nl : vp_nar .boolean (b1 l) = b1 l := by cases l <;> rfl
  rw [nI_clamp (by omega : n < 2 ^ 31), nl, nI_1]
  refine s_X4_slotFor hok2 (by omega) (fun d hd hs hf => ?_)
  have hx : (hs_h w + d) % 256 < 256 := Nat.mod_lt _ (by decide)
  refine ⟨vp_in_nI hx (by decide), ?_⟩
  rw [nI_clamp (by omega)]
  have := hs_add hok2 hn hd hno2 hs hf
  rw [upd_uu] at this
  exact h _ this
def rwO (n : Nat) (ch fi se th : Nat → Int32) (w a b c : Int32) : Prop := ich w ∧ ¬ sy w ∧ ri ch n w = none ∧ ich a ∧ iop b ∧ iop c ∧ (b = -1 → c = -1) ∧ ¬ rc ato n ch (pls fi se th) (pl a b c) w
def paO (n : Nat) (ch fi se th lo : Nat → Int32) (w a b : Int32) : Prop := rwO n ch fi se th w a b (-1) ∧ (b = -1 ∨ wh ch fi se lo n a b = -1)
theorem rc_dec {ato : Int32 → List Int32} {n : Nat} {own : Nat → Int32} {ps : Nat → List Int32} {S : List Int32} {c : Int32} {P : Prop} (h1 : rc ato n own ps S c → P) (h0 : ¬ rc ato n own ps S c → P) : P := Classical.byCases h1 h0
/-- the rows grow -/
theorem rows_add {n : Nat} {ch fi se th lo : Nat → Int32} {w a b c : Int32} {l : Bool} (hr : RowsB n ch fi se th lo) (hu : RowsU n fi se lo) (ha : Acy n ch fi se th) (hn : n < 120) (ho : rwO n ch fi se th w a b c) (hl : l = false → c = -1 ∧ (b = -1 ∨ wh ch fi se lo n a b = -1)) :
    RowsB (n + 1) (upd ch n w) (upd fi n a) (upd se n b) (upd th n c) (upd lo n (b1 l)) ∧ RowsU (n + 1) (upd fi n a) (upd se n b) (upd lo n (b1 l)) ∧ Acy (n + 1) (upd ch n w) (upd fi n a) (upd se n b) (upd th n c) := by
  obtain ⟨o1, o2, o3, o4, o5, o6, o7, o8⟩ := ho
  have un : ∀ (f : Nat → Int32) (x : Int32) (j : Nat), j < n → upd f n x j = f j := fun f x j hj => pk_un (by omega)
  have b0 : b1 l = 0 ↔ l = false := by cases l <;> decide
  refine ⟨⟨by omega, fun i j hi hj e => ?_, fun j hj => ?_⟩, ⟨fun i j hi hj li lj si fe see => ?_, fun j hj lj sj => ?_⟩, ?_⟩
  · rcases Nat.lt_or_ge i n with hin | hin
    · rcases Nat.lt_or_ge j n with hjn | hjn
      · rw [un ch w i hin, un ch w j hjn] at e
        exact hr.2.1 i j hin hjn e
      · obtain rfl : j = n := by omega
        rw [un ch w i hin, pk_us] at e
        exact absurd e (ri_none o3 i hin)
    · obtain rfl : i = n := by omega
      rcases Nat.lt_or_ge j i with hjn | hjn
      · rw [un ch w j hjn, pk_us] at e
        exact absurd e.symm (ri_none o3 j hjn)
      · omega
  · rcases Nat.lt_or_ge j n with hjn | hjn
    · simp only [un _ _ j hjn]
      exact hr.2.2 j hjn
    · obtain rfl : j = n := by omega
      simp only [pk_us]
      refine ⟨o1, o2, o4, o5, o6, o7, ?_, fun z => (hl (b0.mp z)).1⟩
      cases l
      · exact Or.inl rfl
      · exact Or.inr rfl
  · have new : ∀ i, i < n → lo i = 0 → upd lo n (b1 l) n = 0 → fi i = upd fi n a n → se i = upd se n b n → ¬ se i = -1 → False := by
      intro i hi li ln f1 s1 sn
      rw [pk_us] at ln f1 s1
      rcases (hl (b0.mp ln)).2 with z | z
      · exact sn (s1.trans z)
      · unfold wh at z
        cases hp : pm fi se lo a b n with
        | none => exact pm_none hp i hi ⟨s1, f1, li⟩
        | some k =>
          rw [hp] at z
          exact m1_ich (z ▸ (hr.2.2 k (pm_some hp).1).1)
    rcases Nat.lt_or_ge i n with hin | hin
    · rcases Nat.lt_or_ge j n with hjn | hjn
      · rw [un _ _ i hin] at li si
        rw [un _ _ j hjn] at lj
        rw [un _ _ i hin, un _ _ j hjn] at fe see
        exact hu.1 i j hin hjn li lj si fe see
      · obtain rfl : j = n := by omega
        rw [un _ _ i hin] at li si
        rw [un _ _ i hin] at fe see
        exact (new i hin li lj fe see si).elim
    · obtain rfl : i = n := by omega
      rcases Nat.lt_or_ge j i with hjn | hjn
      · rw [un _ _ j hjn] at lj
        rw [see] at si
        rw [un _ _ j hjn] at fe see si
        exact (new j hjn lj li fe.symm see.symm si).elim
      · omega
  · rcases Nat.lt_or_ge j n with hjn | hjn
    · rw [un _ _ j hjn] at lj sj
      rw [un _ _ j hjn, un _ _ j hjn]
      exact hu.2 j hjn lj sj
    · obtain rfl : j = n := by omega
      rw [pk_us] at lj sj
      rw [pk_us, pk_us]
      rcases (hl (b0.mp lj)).2 with z | z
      · exact absurd z sj
      · unfold wh at z
        cases hp : pm fi se lo a b j with
        | none => rw [hp] at z; exact z
        | some k =>
          rw [hp] at z
          exact absurd (z ▸ (hr.2.2 k (pm_some hp).1).1) m1_ich
  · obtain ⟨l0, q1, q2, q3⟩ := ha
    obtain ⟨l', p1, p2, p3⟩ := rc_ins (ato := ato) (n := n) (own := ch) (ps := pls fi se th) (c := w) (q := pl a b c) (l := l0) (fun j hj => ato_n (hr.2.2 j hj).2.1) (ato_n o2) (ri_none o3) q1 q3 o8 (own' := upd ch n w) (ps' := pls (upd fi n a) (upd se n b) (upd th n c)) (fun j hj => un ch w j hj) (fun j hj => by simp only [pls, un _ _ j hj]) pk_us (by simp only [pls, pk_us])
    exact ⟨l', p1, by rw [p2, q2], p3⟩
theorem pt_add {fi se th pt : Nat → Int32} {n : Nat} {a b c : Int32} (hp : PtOk fi se th pt) : PtOk (upd fi n a) (upd se n b) (upd th n c) (upd (upd (upd pt (3 * n) a) (3 * n + 1) b) (3 * n + 2) c) := by
  intro j hj
  obtain ⟨h1, h2, h3⟩ := hp j hj
  simp only [pt_upd]
  by_cases e : j = n
  · subst e
    refine ⟨?_, ?_, ?_⟩
    · rw [if_neg (by omega), if_neg (by omega), if_pos rfl, if_pos rfl]
    · rw [if_neg (by omega), if_pos rfl, if_pos rfl]
    · rw [if_pos rfl, if_pos rfl]
  · refine ⟨?_, ?_, ?_⟩
    · rw [if_neg (by omega), if_neg (by omega), if_neg (by omega), if_neg e]; exact h1
    · rw [if_neg (by omega), if_neg (by omega), if_neg (by omega), if_neg e]; exact h2
    · rw [if_neg (by omega), if_neg (by omega), if_neg (by omega), if_neg e]; exact h3
section
variable {n : Nat} {ch fi se th lo sl pt wt0 sn0 : Nat → Int32} {w a b c k0 : Int32}
theorem s_X6_part {post : Int32 → Int32 → (Nat → Int32) → (Nat → Int32) → (Nat → Int32) → (Nat → Int32) → (Nat → Int32) → (Nat → Int32) → (Nat → Int32) → (Nat → Int32) → Prop} {pe : Int32 → Int32 → Int32 → (Nat → Int32) → (Nat → Int32) → (Nat → Int32) → (Nat → Int32) → (Nat → Int32) → (Nat → Int32) → (Nat → Int32) → (Nat → Int32) → Prop}
    (hr : RowsB n ch fi se th lo) (hu : RowsU n fi se lo) (hok : hs_ok sl ch n) (h1 : ¬ paO n ch fi se th lo w a b → ∀ k wt sn, pe 1 (nI n) k ch fi se th lo sl wt sn) (h2 : paO n ch fi se th lo w a b → n = 120 → ∀ k wt sn, pe 2 (nI n) k ch fi se th lo sl wt sn)
    (h0 : paO n ch fi se th lo w a b → n < 120 → ∀ k wt sn sl', hs_ok sl' (upd ch n w) (n + 1) → post (nI (n + 1)) k (upd ch n w) (upd fi n a) (upd se n b) (upd th n (-1)) (upd lo n 0) sl' wt sn) : w_X6_part post pe (nI n) k0 ch fi se th lo sl wt0 sn0 w a b := by
  have hn := hr.1
  have hd := hr.2.1
  refine s_X6_mayHaveRow hok hn hd (fun a1 a2 a3 => c_1 (s_X6_isCharacter ?_)) (fun z => c_0 (h1 (fun q => z ⟨q.1.1, q.1.2.1, q.1.2.2.1⟩) _ _ _))
  by_cases a4 : ich a
  · rw [if_pos a4]
    refine c_1 (s_X6_isCharacterOrNone ?_)
    by_cases a5 : iop b
    · rw [if_pos a5]
      have go : (b = -1 ∨ wh ch fi se lo n a b = -1) → w_X6_part_60 post pe (nI n) ch fi se th lo sl wt0 sn0 w a b := by
        intro a6
        refine s_X4_wouldGive hr hok a1 (fun _ => rfl) (fun z k wt sn => c_1 (h1 (fun q => q.1.2.2.2.2.2.2.2 z) _ _ _)) (fun z k wt sn => c_0 ?_)
        have ok : paO n ch fi se th lo w a b := ⟨⟨a1, a2, a3, a4, a5, Or.inl rfl, fun _ => rfl, z⟩, a6⟩
        exact s_X4_isFull hn (fun q => c_0 (s_X4_tell (l := false) hok q a3 (fun sl' hsl => h0 ok q _ _ _ sl' hsl))) (fun q => c_1 (h2 ok q _ _ _))
      refine n_1 ⟨fun z => go (Or.inl z), fun z => s_X4_whole hn hu z ⟨fun y => go (Or.inr y), fun y => h1 (fun q => q.2.elim z y) _ _ _⟩⟩
    · rw [if_neg a5]; exact n_0 (h1 (fun q => a5 q.1.2.2.2.2.1) _ _ _)
  · rw [if_neg a4]; exact c_0 (h1 (fun q => a4 q.1.2.2.2.1) _ _ _)
theorem s_X6_loose {post : Int32 → Int32 → (Nat → Int32) → (Nat → Int32) → (Nat → Int32) → (Nat → Int32) → (Nat → Int32) → (Nat → Int32) → (Nat → Int32) → (Nat → Int32) → Prop} {pe : Int32 → Int32 → Int32 → (Nat → Int32) → (Nat → Int32) → (Nat → Int32) → (Nat → Int32) → (Nat → Int32) → (Nat → Int32) → (Nat → Int32) → (Nat → Int32) → Prop}
    (hr : RowsB n ch fi se th lo) (hok : hs_ok sl ch n) (h1 : ¬ rwO n ch fi se th w a b c → ∀ k wt sn, pe 1 (nI n) k ch fi se th lo sl wt sn) (h2 : rwO n ch fi se th w a b c → n = 120 → ∀ k wt sn, pe 2 (nI n) k ch fi se th lo sl wt sn)
    (h0 : rwO n ch fi se th w a b c → n < 120 → ∀ k wt sn sl', hs_ok sl' (upd ch n w) (n + 1) → post (nI (n + 1)) k (upd ch n w) (upd fi n a) (upd se n b) (upd th n c) (upd lo n 1) sl' wt sn) : w_X6_loose post pe (nI n) k0 ch fi se th lo sl wt0 sn0 w a b c := by
  have hn := hr.1
  have hd := hr.2.1
  refine s_X6_mayHaveRow hok hn hd (fun a1 a2 a3 => c_1 (s_X6_isCharacter ?_)) (fun z => c_0 (h1 (fun q => z ⟨q.1, q.2.1, q.2.2.1⟩) _ _ _))
  by_cases a4 : ich a
  · rw [if_pos a4]
    refine c_1 (s_X6_isCharacterOrNone ?_)
    by_cases a5 : iop b
    · rw [if_pos a5]
      refine c_1 (s_X6_isCharacterOrNone ?_)
      by_cases a6 : iop c
      · rw [if_pos a6]
        have go : (b = -1 → c = -1) → w_X6_loose_61 post pe (nI n) ch fi se th lo sl wt0 sn0 w a b c := by
          intro a7
          refine s_X4_wouldGive hr hok a1 a7 (fun z k wt sn => c_1 (h1 (fun q => q.2.2.2.2.2.2.2 z) _ _ _)) (fun z k wt sn => c_0 ?_)
          have ok : rwO n ch fi se th w a b c := ⟨a1, a2, a3, a4, a5, a6, a7, z⟩
          exact s_X4_isFull hn (fun q => c_0 (s_X4_tell (l := true) hok q a3 (fun sl' hsl => h0 ok q _ _ _ sl' hsl))) (fun q => c_1 (h2 ok q _ _ _))
        exact n_1 ⟨fun z => go (fun y => absurd y z), fun z => ⟨fun y => go (fun _ => y), fun y => h1 (fun q => y (q.2.2.2.2.2.2.1 z)) _ _ _⟩⟩
      · rw [if_neg a6]; exact n_0 (h1 (fun q => a6 q.2.2.2.2.2.1) _ _ _)
    · rw [if_neg a5]; exact c_0 (h1 (fun q => a5 q.2.2.2.2.1) _ _ _)
  · rw [if_neg a4]; exact c_0 (h1 (fun q => a4 q.2.2.2.1) _ _ _)
theorem s_X7_addRow {post : Int32 → (Nat → Int32) → (Nat → Int32) → (Nat → Int32) → Prop} {l : Bool} (hn : n < 120) (h : post (nI (n + 1)) (upd ch n w) (upd lo n (b1 l)) (upd (upd (upd pt (3 * n) a) (3 * n + 1) b) (3 * n + 2) c)) : w_X7_addRow post (nI n) ch lo pt w (b1 l) a b c := by
  have e0 : (3 : Int32) * nI n = nI (3 * n) := by rw [show (3 : Int32) = nI 3 from rfl, pk_mul]
  have e2 : nI (3 * n) + 2 = nI (3 * n + 2) := by rw [show (2 : Int32) = nI 2 from rfl, nI_add]
  have nl : vp_nar .boolean (b1 l) = b1 l := by cases l <;> rfl
  unfold w_X7_addRow
  rw [e0, nI_1, e2, nI_1, nI_clamp (by omega : n < 2 ^ 31), nI_clamp (by omega : 3 * n < 2 ^ 31), nI_clamp (by omega : 3 * n + 1 < 2 ^ 31), nI_clamp (by omega : 3 * n + 2 < 2 ^ 31), nl]
  exact ⟨pk_in n 120 hn, pk_in n 120 hn, pk_in (3 * n) 360 (by omega), pk_in (3 * n + 1) 360 (by omega), pk_in (3 * n + 2) 360 (by omega), h⟩
theorem s_X7_part {post : Int32 → Int32 → Int32 → (Nat → Int32) → (Nat → Int32) → (Nat → Int32) → (Nat → Int32) → (Nat → Int32) → Prop}
    (hr : RowsB n ch fi se th lo) (hu : RowsU n fi se lo) (hp : PtOk fi se th pt) (h1 : ¬ paO n ch fi se th lo w a b → ∀ k wt sn, post 1 (nI n) k ch lo pt wt sn) (h2 : paO n ch fi se th lo w a b → n = 120 → ∀ k wt sn, post 2 (nI n) k ch lo pt wt sn)
    (h0 : paO n ch fi se th lo w a b → n < 120 → ∀ k wt sn, post 0 (nI (n + 1)) k (upd ch n w) (upd lo n 0) (upd (upd (upd pt (3 * n) a) (3 * n + 1) b) (3 * n + 2) (-1)) wt sn) : w_X7_part post (nI n) k0 ch lo pt wt0 sn0 w a b := by
  have hn := hr.1
  have hd := hr.2.1
  have no74 : ¬ paO n ch fi se th lo w a b → ∀ k wt sn, w_X7_part_74 post (nI n) k ch lo pt wt sn w a b := fun z k wt sn => n_0 (s_ref1 (n_1 (h1 z _ _ _)))
  have no51 : ¬ paO n ch fi se th lo w a b → w_X7_part_51 post (nI n) k0 ch lo pt wt0 sn0 w a b := fun z => c_0 (no74 z _ _ _)
  have no26 : ¬ paO n ch fi se th lo w a b → w_X7_part_26 post (nI n) k0 ch lo pt wt0 sn0 w a b := fun z => c_0 (no51 z)
  refine s_X7_canHaveRow hn (fun a1 a2 a3 => c_1 (s_X7_isCharacter ?_)) (fun z => c_0 (no26 (fun q => z ⟨q.1.1, q.1.2.1, q.1.2.2.1⟩)))
  by_cases a4 : ich a
  · rw [if_pos a4]
    refine c_1 (s_X7_isOptional ?_)
    by_cases a5 : iop b
    · rw [if_pos a5]
      have go : (b = -1 ∨ wh ch fi se lo n a b = -1) → w_X7_part_47 post (nI n) k0 ch lo pt wt0 sn0 w a b := by
        intro a6
        refine c_1 (s_X7_givesOne hr hp a2 a4 a5 (Or.inl rfl) (fun _ => rfl) (fun z k wt sn => n_1 (no74 (fun q => q.1.2.2.2.2.2.2.2 z) _ _ _)) (fun z k wt sn => n_0 ?_))
        have ok : paO n ch fi se th lo w a b := ⟨⟨a1, a2, a3, a4, a5, Or.inl rfl, fun _ => rfl, z⟩, a6⟩
        refine n_1 ⟨fun y => ?_, fun y => ?_⟩
        · have y : n < 120 := by
            rw [show (120 : Int32) = nI 120 from rfl, nI_eq (by omega) (by decide)] at y
            omega
          exact s_ref0 (n_0 (s_X7_addRow (l := false) y (h0 ok y _ _ _)))
        · have y : n = 120 := nI_inj (by omega) (by decide) y
          exact s_ref2 (n_1 (h2 ok y _ _ _))
      refine c_1 (c_1 ⟨fun z => go (Or.inl ((iop_neg a5).mp z)), fun z => ?_⟩)
      have hb : ¬ b = -1 := fun q => z ((iop_neg a5).mpr q)
      have hbi : ich b := a5.resolve_left hb
      refine s_X7_wholeOf hn hu hp a4 hbi ⟨fun y => no51 (fun q => q.2.elim hb (fun e => ?_)), fun y => go (Or.inr ?_)⟩
      · rw [e] at y; exact absurd y (by decide)
      · rcases wh_iop (se := se) hr a4 hbi with e | e
        · exact e
        · exact absurd e.1 y
    · rw [if_neg a5]; exact c_0 (no26 (fun q => a5 q.1.2.2.2.2.1))
  · rw [if_neg a4]; exact c_0 (no26 (fun q => a4 q.1.2.2.2.1))
theorem s_X7_loose {post : Int32 → Int32 → Int32 → (Nat → Int32) → (Nat → Int32) → (Nat → Int32) → (Nat → Int32) → (Nat → Int32) → Prop}
    (hr : RowsB n ch fi se th lo) (hp : PtOk fi se th pt) (h1 : ¬ rwO n ch fi se th w a b c → ∀ k wt sn, post 1 (nI n) k ch lo pt wt sn) (h2 : rwO n ch fi se th w a b c → n = 120 → ∀ k wt sn, post 2 (nI n) k ch lo pt wt sn)
    (h0 : rwO n ch fi se th w a b c → n < 120 → ∀ k wt sn, post 0 (nI (n + 1)) k (upd ch n w) (upd lo n 1) (upd (upd (upd pt (3 * n) a) (3 * n + 1) b) (3 * n + 2) c) wt sn) : w_X7_loose post (nI n) k0 ch lo pt wt0 sn0 w a b c := by
  have hn := hr.1
  have hd := hr.2.1
  have no67 : ¬ rwO n ch fi se th w a b c → ∀ k wt sn, w_X7_loose_67 post (nI n) k ch lo pt wt sn w a b c := fun z k wt sn => n_0 (s_ref1 (n_1 (h1 z _ _ _)))
  have no43 : ¬ rwO n ch fi se th w a b c → w_X7_loose_43 post (nI n) k0 ch lo pt wt0 sn0 w a b c := fun z => c_0 (no67 z _ _ _)
  refine s_X7_canHaveRow hn (fun a1 a2 a3 => c_1 (s_X7_isCharacter ?_)) (fun z => c_0 (no43 (fun q => z ⟨q.1, q.2.1, q.2.2.1⟩)))
  by_cases a4 : ich a
  · rw [if_pos a4]
    refine c_1 (s_X7_isOptional ?_)
    by_cases a5 : iop b
    · rw [if_pos a5]
      refine c_1 (s_X7_isOptional ?_)
      by_cases a6 : iop c
      · rw [if_pos a6]
        have go : (b = -1 → c = -1) → w_X7_loose_39 post (nI n) k0 ch lo pt wt0 sn0 w a b c := by
          intro a7
          refine c_1 (s_X7_givesOne hr hp a2 a4 a5 a6 a7 (fun z k wt sn => n_1 (no67 (fun q => q.2.2.2.2.2.2.2 z) _ _ _)) (fun z k wt sn => n_0 ?_))
          have ok : rwO n ch fi se th w a b c := ⟨a1, a2, a3, a4, a5, a6, a7, z⟩
          refine n_1 ⟨fun y => ?_, fun y => ?_⟩
          · have y : n < 120 := by
              rw [show (120 : Int32) = nI 120 from rfl, nI_eq (by omega) (by decide)] at y
              omega
            exact s_ref0 (n_0 (s_X7_addRow (l := true) y (h0 ok y _ _ _)))
          · have y : n = 120 := nI_inj (by omega) (by decide) y
            exact s_ref2 (n_1 (h2 ok y _ _ _))
        have bn := iop_neg a5
        have cn := iop_neg a6
        refine c_1 ⟨fun z => go (fun e => ?_), fun z => ⟨fun y => no43 (fun q => ?_), fun y => go (fun _ => ?_)⟩⟩
        · rw [e] at z; exact absurd z (by decide)
        · have e1 := bn.mp (Int32.not_le.mp z)
          have e2 := q.2.2.2.2.2.2.1 e1
          rw [e2] at y; exact absurd y (by decide)
        · exact cn.mp (Int32.not_le.mp y)
      · rw [if_neg a6]; exact c_0 (no43 (fun q => a6 q.2.2.2.2.2.1))
    · rw [if_neg a5]; exact c_0 (no43 (fun q => a5 q.2.2.2.2.1))
  · rw [if_neg a4]; exact c_0 (no43 (fun q => a4 q.2.2.2.1))
end
