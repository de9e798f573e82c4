/-! Rows: read and partOf, whole and wholeOf. -/
theorem ich_pos {c : Int32} (h : ich c) : ¬ c < 0 := Int32.not_lt.mpr h.1
theorem iop_neg {c : Int32} (h : iop c) : c < 0 ↔ c = -1 := by
  rcases h with h | h
  · subst h; exact ⟨fun _ => rfl, fun _ => by decide⟩
  · exact ⟨fun z => absurd z (ich_pos h), fun z => by rw [z] at h; exact absurd h (by decide)⟩
theorem m1_ich : ¬ ich (-1) := by decide
def RowsB (n : Nat) (ch fi se th lo : Nat → Int32) : Prop :=
  n ≤ 120 ∧ dis ch n ∧ ∀ j, j < n → ich (ch j) ∧ ¬ sy (ch j) ∧ ich (fi j) ∧ iop (se j) ∧ iop (th j) ∧ (se j = -1 → th j = -1) ∧ (lo j = 0 ∨ lo j = 1) ∧ (lo j = 0 → th j = -1)
theorem pl_get {a b d : Int32} (h : b = -1 → d = -1) (i : Nat) : (pl a b d).getD i (-1) = if i = 0 then a else if i = 1 then b else if i = 2 then d else -1 := by
  unfold pl
  by_cases hb : b = -1
  · rw [if_pos hb]
    have hd := h hb
    subst hb hd
    match i with
    | 0 => rfl
    | 1 => rfl
    | 2 => rfl
    | i + 3 => simp
  · rw [if_neg hb]
    by_cases hd : d = -1
    · rw [if_pos hd]
      subst hd
      match i with
      | 0 => rfl
      | 1 => rfl
      | 2 => rfl
      | i + 3 => simp
    · rw [if_neg hd]
      match i with
      | 0 => rfl
      | 1 => rfl
      | 2 => rfl
      | i + 3 => simp
theorem pl_len {a b d : Int32} : (pl a b d).length = if b = -1 then 1 else if d = -1 then 2 else 3 := by
  unfold pl
  split
  · rfl
  · split <;> rfl
theorem pl_ich {a b d : Int32} (ha : ich a) (hb : iop b) (hd : iop d) : ∀ p ∈ pl a b d, ich p := by
  intro p hp
  unfold pl at hp
  split at hp
  · rw [List.mem_singleton] at hp; rw [hp]; exact ha
  · rename_i h1
    split at hp
    · simp only [List.mem_cons, List.not_mem_nil, or_false] at hp
      rcases hp with hp | hp <;> rw [hp]
      · exact ha
      · exact hb.resolve_left h1
    · rename_i h2
      simp only [List.mem_cons, List.not_mem_nil, or_false] at hp
      rcases hp with hp | hp | hp <;> rw [hp]
      · exact ha
      · exact hb.resolve_left h1
      · exact hd.resolve_left h2
theorem sy_ich {c : Int32} (h : sy c) : ich (sy_a c) ∧ ich (sy_b c) := by
  obtain ⟨s, hs, rfl, et, el, ev, ea, eb⟩ := sy_nat h
  have q : ∀ k : Nat, k ≤ 1114111 → ich (nI k) := fun k hk => ⟨nI_pos' (by omega), by rw [show (1114111 : Int32) = nI 1114111 from rfl, nI_leI (by omega) (by decide)]; exact hk⟩
  unfold sy_a sy_b
  rw [el, ev, ea, eb]
  constructor
  · split
    · exact q _ (by omega)
    · exact q _ (by omega)
  · split
    · exact q _ (by omega)
    · exact q _ (by omega)
theorem prt_ich {n : Nat} {ch fi se th lo : Nat → Int32} (hr : RowsB n ch fi se th lo) {all : Bool} {c : Int32} : ∀ p ∈ prt ch fi se th lo n all c, ich p := by
  intro p hp
  unfold prt at hp
  by_cases hs : sy c
  · rw [if_pos hs] at hp
    simp only [List.mem_cons, List.not_mem_nil, or_false] at hp
    rcases hp with hp | hp <;> rw [hp]
    · exact (sy_ich hs).1
    · exact (sy_ich hs).2
  · rw [if_neg hs] at hp
    cases hq : ri ch n c with
    | none => rw [hq] at hp; simp at hp
    | some j =>
      rw [hq] at hp
      have hj := hr.2.2 j (ri_some hq).1
      dsimp only at hp
      split at hp
      · exact pl_ich hj.2.2.1 hj.2.2.2.1 hj.2.2.2.2.1 p hp
      · simp at hp
theorem s_X4_read {post : Int32 → (Nat → Int32) → Prop} {n : Nat} {ch fi se th lo sl ps : Nat → Int32} {c : Int32} {all : Bool} (hr : RowsB n ch fi se th lo) (hok : hs_ok sl ch n)
    (h : ∀ ps' : Nat → Int32, (∀ i, i < (prt ch fi se th lo n all c).length → ps' i = (prt ch fi se th lo n all c).getD i (-1)) → post (nI (prt ch fi se th lo n all c).length) ps') : w_X4_read post ch fi se th lo sl ps c (b1 all) := by
  have v0 : vp_in (0 : Int32) 3 := vp_in_nI (n := 0) (by decide) (by decide)
  have v1 : vp_in (1 : Int32) 3 := vp_in_nI (n := 1) (by decide) (by decide)
  have v2 : vp_in (2 : Int32) 3 := vp_in_nI (n := 2) (by decide) (by decide)
  have k0 : (0 : Int32).toNatClampNeg = 0 := by decide
  have k1 : (1 : Int32).toNatClampNeg = 1 := by decide
  have k2 : (2 : Int32).toNatClampNeg = 2 := by decide
  refine s_X5_has ?_
  by_cases hs : sy c
  · rw [if_pos hs]
    have e : prt ch fi se th lo n all c = [sy_a c, sy_b c] := if_pos hs
    rw [e] at h
    refine c_1 (s_X5_hasTail ?_)
    rw [k0, k1]
    by_cases ht : sy_t c = 0
    · rw [if_pos ht]
      refine c_0 ⟨v0, v1, h _ (fun i hi => ?_)⟩
      have hi : i < 2 := hi
      rw [pt_upd, pt_upd]
      unfold sy_a sy_b
      rw [if_pos ht, if_pos ht]
      rcases (show i = 0 ∨ i = 1 by omega) with rfl | rfl <;> rfl
    · rw [if_neg ht]
      refine c_1 ⟨v0, v1, h _ (fun i hi => ?_)⟩
      have hi : i < 2 := hi
      rw [pt_upd, pt_upd]
      unfold sy_a sy_b
      rw [if_neg ht, if_neg ht]
      rcases (show i = 0 ∨ i = 1 by omega) with rfl | rfl <;> rfl
  · rw [if_neg hs]
    refine c_0 (s_X4_find hok hr.1 hr.2.1 ?_)
    have e : prt ch fi se th lo n all c = match ri ch n c with | none => [] | some j => if lo j = 0 ∨ all = true then pl (fi j) (se j) (th j) else [] := if_neg hs
    cases hq : ri ch n c with
    | none =>
      rw [hq] at e
      rw [e] at h
      exact ⟨fun _ => h ps (fun i hi => absurd hi (Nat.not_lt_zero i)), fun z => absurd (by decide) z⟩
    | some j =>
      rw [hq] at e
      have hj := (ri_some hq).1
      have hn := hr.1
      obtain ⟨-, -, -, h4, h5, h6, -, -⟩ := hr.2.2 j hj
      refine ⟨fun z => absurd z (nI_pos (by omega)), fun _ => ⟨vp_in_nI (by omega) (by decide), ?_⟩⟩
      have k : (nI j).toNatClampNeg = j := nI_clamp (by omega)
      have yes : lo j = 0 ∨ all = true → w_X4_read_41 post fi se th ps (o1 (some j)) := by
        intro hy
        rw [show o1 (some j) = nI j from rfl]
        dsimp only at e
        rw [if_pos hy] at e
        have vj : vp_in (nI j) 120 := vp_in_nI (by omega) (by decide)
        unfold w_X4_read_41
        rw [k, k0, k1, k2]
        have out : ∀ i, i < (pl (fi j) (se j) (th j)).length → upd (upd (upd ps 0 (fi j)) 1 (se j)) 2 (th j) i = (pl (fi j) (se j) (th j)).getD i (-1) := by
          intro i hi
          rw [pl_get h6, pt_upd, pt_upd, pt_upd]
          rw [pl_len] at hi
          have : i < 3 := by split at hi; omega; split at hi <;> omega
          rcases (show i = 0 ∨ i = 1 ∨ i = 2 by omega) with rfl | rfl | rfl <;> rfl
        rw [e] at h
        have hh := h _ out
        rw [pl_len] at hh
        refine ⟨vj, v0, vj, v1, vj, v2, vj, fun z => ⟨vj, fun y => ?_, fun y => ?_⟩, fun z => ?_⟩
        · rwa [if_neg z, if_neg y] at hh
        · rwa [if_neg z, if_pos y] at hh
        · rwa [if_pos z] at hh
      have ko : (o1 (some j)).toNatClampNeg = j := k
      rw [ko]
      refine ⟨fun z => yes (Or.inl z), fun z => ⟨fun y => yes (Or.inr ?_), fun y => ?_⟩⟩
      · cases all
        · exact absurd rfl y
        · rfl
      · dsimp only at e
        rw [if_neg (fun q => by rcases q with q | q; exact z q; rw [q] at y; exact absurd y (by decide))] at e
        rw [e] at h
        exact h ps (fun i hi => absurd hi (Nat.not_lt_zero i))
/-- the reference's rows lie in one array -/
def PtOk (fi se th pt : Nat → Int32) : Prop := ∀ j, j < 120 → pt (3 * j) = fi j ∧ pt (3 * j + 1) = se j ∧ pt (3 * j + 2) = th j
theorem s_X7_partOf {post : Int32 → Prop} {n : Nat} {ch fi se th lo pt : Nat → Int32} {c : Int32} {all : Bool} {i : Nat} (hr : RowsB n ch fi se th lo) (hp : PtOk fi se th pt) (hi : i < 2 ^ 31) (h : post ((prt ch fi se th lo n all c).getD i (-1))) : w_X7_partOf post (nI n) ch lo pt c (nI i) (b1 all) := by
  have q : ∀ k : Nat, k < 4 → (nI i = nI k ↔ i = k) := fun k hk => nI_eq hi (by omega)
  refine s_X7_isSyllable ?_
  by_cases hs : sy c
  · rw [if_pos hs]
    have e : prt ch fi se th lo n all c = [sy_a c, sy_b c] := if_pos hs
    rw [e] at h
    refine c_1 ⟨fun z => ?_, fun z => ?_⟩
    · rw [show (1 : Int32) = nI 1 from rfl, nI_leI hi (by decide)] at z
      have ht : sy_t c ≤ 0 ↔ sy_t c = 0 := by
        obtain ⟨s, hs, rfl, et, -⟩ := sy_nat hs
        rw [et, show (0 : Int32) = nI 0 from rfl, nI_leI (by omega) (by decide), nI_eq (by omega) (by decide)]
        omega
      unfold sy_a sy_b at h
      refine ⟨fun y => ⟨fun x => ?_, fun x => ?_⟩, fun y => ⟨fun x => ?_, fun x => ?_⟩⟩
      · have x : ¬ i = 0 := fun w => x ((q 0 (by decide)).mpr w)
        rw [if_pos (ht.mp y), if_pos (ht.mp y), show i = 1 by omega] at h
        exact h
      · have x := (q 0 (by decide)).mp x
        rw [if_pos (ht.mp y), if_pos (ht.mp y), x] at h
        exact h
      · have x : ¬ i = 0 := fun w => x ((q 0 (by decide)).mpr w)
        rw [if_neg (fun w => y (ht.mpr w)), if_neg (fun w => y (ht.mpr w)), show i = 1 by omega] at h
        exact h
      · have x := (q 0 (by decide)).mp x
        rw [if_neg (fun w => y (ht.mpr w)), if_neg (fun w => y (ht.mpr w)), x] at h
        exact h
    · rw [show (1 : Int32) = nI 1 from rfl, nI_leI hi (by decide)] at z
      obtain ⟨k, rfl⟩ : ∃ k, i = k + 2 := ⟨i - 2, by omega⟩
      simpa using h
  · rw [if_neg hs]
    have e : prt ch fi se th lo n all c = match ri ch n c with | none => [] | some j => if lo j = 0 ∨ all = true then pl (fi j) (se j) (th j) else [] := if_neg hs
    refine c_0 (s_X7_rowOf hr.1 ?_)
    cases hq : ri ch n c with
    | none =>
      rw [hq] at e
      rw [e] at h
      exact ⟨fun _ => h, fun z => absurd (by decide) z⟩
    | some j =>
      rw [hq] at e
      have hj := (ri_some hq).1
      have hn := hr.1
      obtain ⟨-, -, -, h4, h5, h6, -, -⟩ := hr.2.2 j hj
      have ko : (o1 (some j)).toNatClampNeg = j := nI_clamp (by omega)
      refine ⟨fun z => absurd z (nI_pos (by omega)), fun _ => ⟨fun z => ?_, fun z => ⟨vp_in_nI (by omega) (by decide), ?_⟩⟩⟩
      · rw [show (2 : Int32) = nI 2 from rfl, nI_ltI (by decide) hi] at z
        dsimp only at e
        rw [e] at h
        split at h
        · rwa [pl_get h6, if_neg (by omega), if_neg (by omega), if_neg (by omega)] at h
        · exact h
      · rw [show (2 : Int32) = nI 2 from rfl, nI_ltI (by decide) hi] at z
        rw [ko]
        have yes : lo j = 0 ∨ all = true → w_X7_partOf_117 post pt (nI i) (o1 (some j)) := by
          intro hy
          dsimp only at e
          rw [if_pos hy] at e
          rw [e, pl_get h6] at h
          unfold w_X7_partOf_117
          rw [show o1 (some j) = nI j from rfl, show (3 : Int32) = nI 3 from rfl, pk_mul, nI_add, nI_clamp (by omega)]
          refine ⟨vp_in_nI (by omega) (by decide), ?_⟩
          obtain ⟨p0, p1, p2⟩ := hp j (by omega)
          rcases (show i = 0 ∨ i = 1 ∨ i = 2 by omega) with rfl | rfl | rfl
          · rw [Nat.add_zero, p0]; exact h
          · rw [p1]; exact h
          · rw [p2]; exact h
        refine ⟨fun w => yes (Or.inl w), fun w => ⟨fun y => yes (Or.inr ?_), fun y => ?_⟩⟩
        · cases all
          · exact absurd rfl y
          · rfl
        · dsimp only at e
          rw [if_neg (fun q => by rcases q with q | q; exact w q; rw [q] at y; exact absurd y (by decide))] at e
          rw [e] at h
          exact h
