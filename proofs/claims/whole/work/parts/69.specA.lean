/-! Composites; a rank for the parts. -/
theorem sy_is {c : Int32} (h : sy c) : ich c := by
  obtain ⟨s, hs, rfl, -⟩ := sy_nat h
  exact ⟨nI_pos' (by omega), by rw [show (1114111 : Int32) = nI 1114111 from rfl, nI_leI (by omega) (by decide)]; omega⟩
theorem wh_iop {n : Nat} {ch fi se th lo : Nat → Int32} {a b : Int32} (hr : RowsB n ch fi se th lo) (ha : ich a) (hb : ich b) : iop (wh ch fi se lo n a b) := by
  unfold wh
  cases hp : pm fi se lo a b n with
  | none =>
    rcases swh_ich ha hb with h | h
    · exact Or.inl h
    · exact Or.inr (sy_is h)
  | some j => exact Or.inr (hr.2.2 j (pm_some hp).1).1
def cmp (ch fi se lo : Nat → Int32) (n : Nat) (cls : Int32 → Int32) (ex : Nat → Int32) (e : Nat) (a b : Int32) : Int32 :=
  if wh ch fi se lo n a b = -1 then -1 else if ¬ cls (wh ch fi se lo n a b) = 0 then -1 else if ri ex e (wh ch fi se lo n a b) = none then wh ch fi se lo n a b else -1
theorem cmp_iop {n : Nat} {ch fi se th lo : Nat → Int32} {cls : Int32 → Int32} {ex : Nat → Int32} {e : Nat} {a b : Int32} (hr : RowsB n ch fi se th lo) (ha : ich a) (hb : ich b) : iop (cmp ch fi se lo n cls ex e a b) := by
  unfold cmp
  split
  · exact Or.inl rfl
  · split
    · exact Or.inl rfl
    · split
      · exact wh_iop hr ha hb
      · exact Or.inl rfl
theorem s_X0_compositeOf {post : Int32 → Prop} {n : Nat} {ch fi se th lo mf ml mv ex : Nat → Int32} {m e : Nat} {a b : Int32} (hr : RowsB n ch fi se th lo) (hu : RowsU n fi se lo) (hm : m ≤ 60) (he : e ≤ 60) (hd : dis ex e) (hb : ich b)
    (h : post (cmp ch fi se lo n (rg mf ml mv m) ex e a b)) : w_X0_compositeOf post (nI n) ch fi se lo (nI m) mf ml mv (nI e) ex a b := by
  refine s_X4_whole hr.1 hu (fun z => m1_ich (z ▸ hb)) ?_
  unfold cmp at h
  refine ⟨fun z => ?_, fun z => s_X2_valueOf hm ⟨fun y => ?_, fun y => s_X1_has he hd (fun x => c_0 ?_) (fun i x => c_1 ?_)⟩⟩
  · rwa [if_pos z] at h
  · rwa [if_neg z, if_pos y] at h
  · rwa [if_neg z, if_neg (not_not_intro y), if_pos x] at h
  · rwa [if_neg z, if_neg (not_not_intro y), if_neg (by rw [x]; simp)] at h
theorem s_X7_compositeOf {post : Int32 → Prop} {n : Nat} {ch fi se th lo pt mf ml mv ex : Nat → Int32} {m e : Nat} {a b : Int32} (hr : RowsB n ch fi se th lo) (hu : RowsU n fi se lo) (hp : PtOk fi se th pt) (hm : m ≤ 60) (he : e ≤ 60) (ha : ich a) (hb : ich b)
    (h : post (cmp ch fi se lo n (rg mf ml mv m) ex e a b)) : w_X7_compositeOf post (nI m) (nI n) (nI e) mf ml mv ch lo pt ex a b := by
  refine s_X7_wholeOf hr.1 hu hp ha hb ?_
  have hw := iop_neg (wh_iop (se := se) hr ha hb)
  unfold cmp at h
  refine ⟨fun z => ?_, fun z => s_X7_classOf hm ⟨fun y => ?_, fun y => s_X7_outAt he ⟨fun x => ?_, fun x => ?_⟩⟩⟩
  · rwa [if_pos (hw.mp z)] at h
  · rwa [if_neg (fun q => z (hw.mpr q)), if_pos y] at h
  · obtain ⟨i, hi⟩ := (o1_lt (by omega)).2.mp x
    rwa [if_neg (fun q => z (hw.mpr q)), if_neg (not_not_intro y), if_neg (by rw [hi]; simp)] at h
  · have hi : ri ex e (wh ch fi se lo n a b) = none := by
      cases hq : ri ex e (wh ch fi se lo n a b) with
      | none => rfl
      | some i => exact absurd ((o1_lt (by omega)).2.mpr ⟨i, hq⟩) x
    rwa [if_neg (fun q => z (hw.mpr q)), if_neg (not_not_intro y), if_pos hi] at h
/-- no circles among the rows -/
abbrev rch (n : Nat) (ch fi se th : Nat → Int32) (j k : Nat) : Prop := k < n ∧ ∃ p ∈ pl (fi j) (se j) (th j), ch k ∈ ato p
def Acy (n : Nat) (ch fi se th : Nat → Int32) : Prop := ∃ l : List Nat, (∀ j, j ∈ l ↔ j < n) ∧ l.length = n ∧ tp_ok (rch n ch fi se th) l
/-- the rank of a character that isn't a syllable -/
def rk0 (ch : Nat → Int32) (n : Nat) (l : List Nat) (c : Int32) : Nat := match ri ch n c with | none => 0 | some j => 3 * tp_rk l j
def rkm (ch : Nat → Int32) (n : Nat) (l : List Nat) : List Int32 → Nat
  | [] => 0
  | c :: t => max (rk0 ch n l c) (rkm ch n l t)
def rk (ch : Nat → Int32) (n : Nat) (l : List Nat) (c : Int32) : Nat := if sy c then rkm ch n l (ato c) + (if sy_t c = 0 then 1 else 2) else rk0 ch n l c
theorem rkm_mem {ch : Nat → Int32} {n : Nat} {l : List Nat} : ∀ {t : List Int32} {c : Int32}, c ∈ t → rk0 ch n l c ≤ rkm ch n l t
  | [], _, h => nomatch h
  | x :: t, c, h => by
    unfold rkm
    rcases List.mem_cons.mp h with rfl | h
    · omega
    · have := rkm_mem (ch := ch) (n := n) (l := l) h
      omega
theorem rkm_le {ch : Nat → Int32} {n : Nat} {l : List Nat} {B : Nat} : ∀ {t : List Int32}, (∀ c ∈ t, rk0 ch n l c ≤ B) → rkm ch n l t ≤ B
  | [], _ => Nat.zero_le _
  | x :: t, h => by
    unfold rkm
    have h1 := h x List.mem_cons_self
    have h2 := rkm_le (fun c hc => h c (List.mem_cons_of_mem _ hc))
    omega
theorem rk0_le {ch : Nat → Int32} {n : Nat} {l : List Nat} (hl : l.length = n) (hn : n ≤ 120) (c : Int32) : rk0 ch n l c ≤ 360 := by
  unfold rk0
  split
  · omega
  · rename_i j _
    have := tp_rk_le l j
    omega
theorem rk_le {ch : Nat → Int32} {n : Nat} {l : List Nat} (hl : l.length = n) (hn : n ≤ 120) (c : Int32) : rk ch n l c ≤ 362 := by
  unfold rk
  split
  · have := rkm_le (ch := ch) (n := n) (l := l) (t := ato c) (fun x _ => rk0_le hl hn x)
    split <;> omega
  · have := rk0_le (ch := ch) hl hn c
    omega
/-- the parts of a syllable, and what they are made of -/
theorem sy_parts {c : Int32} (h : sy c) : (sy_t c = 0 → sy_a c = sy_l c ∧ sy_b c = sy_v c ∧ ato c = [sy_l c, sy_v c]) ∧ (¬ sy_t c = 0 → sy (sy_a c) ∧ sy_t (sy_a c) = 0 ∧ sy_b c = 4519 + sy_t c ∧ ato c = [sy_l c, sy_v c, 4519 + sy_t c] ∧ ato (sy_a c) = [sy_l c, sy_v c]) ∧ ¬ sy (sy_l c) ∧ ¬ sy (sy_v c) ∧ ¬ sy (4519 + sy_t c) := by
  obtain ⟨s, hs, rfl, et, el, ev, ea, eb⟩ := sy_nat h
  have nsy : ∀ k : Nat, k < 44032 → ¬ sy (nI k) := by
    intro k hk z
    have := z.1
    rw [show (44032 : Int32) = nI 44032 from rfl, nI_leI (by decide) (by omega)] at this
    omega
  refine ⟨fun z => ?_, fun z => ?_, ?_, ?_, ?_⟩
  · unfold sy_a sy_b ato
    rw [if_pos z, if_pos z, if_pos h, if_pos z]
    exact ⟨rfl, rfl, rfl⟩
  · have hz : ¬ s % 28 = 0 := fun q => z (by rw [et, q]; rfl)
    have ha : sy_a (nI (44032 + s)) = nI (44032 + s - s % 28) := by unfold sy_a; rw [if_neg z, ea]
    have hb : sy_b (nI (44032 + s)) = 4519 + sy_t (nI (44032 + s)) := by unfold sy_b; rw [if_neg z]
    have hsy : sy (nI (44032 + s - s % 28)) := by
      constructor
      · rw [show (44032 : Int32) = nI 44032 from rfl, nI_leI (by decide) (by omega)]; omega
      · rw [show (55203 : Int32) = nI 55203 from rfl, nI_leI (by omega) (by decide)]; omega
    obtain ⟨s2, hs2, e2, et2, el2, ev2, -, -⟩ := sy_nat hsy
    have e2 := nI_inj (by omega) (by omega) e2
    have q1 : s2 % 28 = 0 := by omega
    have q2 : s2 / 588 = s / 588 := by omega
    have q3 : s2 / 28 = s / 28 := by omega
    have et2 : sy_t (nI (44032 + s - s % 28)) = 0 := by rw [et2, q1]; rfl
    rw [ha]
    refine ⟨hsy, et2, hb, ?_, ?_⟩
    · unfold ato; rw [if_pos h, if_neg z]
    · unfold ato; rw [if_pos hsy, if_pos et2, el2, ev2, el, ev, q2, q3]
  · rw [el]; exact nsy _ (by omega)
  · rw [ev]; exact nsy _ (by omega)
  · rw [eb]; exact nsy _ (by omega)
theorem rk_ato {ch : Nat → Int32} {n : Nat} {l : List Nat} {c : Int32} {B : Nat} (h : ∀ a ∈ ato c, rk0 ch n l a ≤ B) : rk ch n l c ≤ B + 2 := by
  unfold rk
  split
  · have := rkm_le h
    split <;> omega
  · rename_i hs
    rw [ato_n hs] at h
    have := h c List.mem_cons_self
    omega
theorem rk_part {n : Nat} {ch fi se th lo : Nat → Int32} (hr : RowsB n ch fi se th lo) {l : List Nat} (hl : ∀ j, j ∈ l ↔ j < n) (ht : tp_ok (rch n ch fi se th) l) {all : Bool} {c p : Int32} (hp : p ∈ prt ch fi se th lo n all c) : rk ch n l p < rk ch n l c := by
  unfold prt at hp
  by_cases hs : sy c
  · rw [if_pos hs] at hp
    obtain ⟨h1, h2, n1, n2, n3⟩ := sy_parts hs
    simp only [List.mem_cons, List.not_mem_nil, or_false] at hp
    by_cases hz : sy_t c = 0
    · obtain ⟨ea, eb, e⟩ := h1 hz
      rw [ea, eb] at hp
      have hc : rk ch n l c = rkm ch n l [sy_l c, sy_v c] + 1 := by unfold rk; rw [if_pos hs, if_pos hz, e]
      rw [hc]
      rcases hp with rfl | rfl
      · have : rk ch n l (sy_l c) = rk0 ch n l (sy_l c) := by unfold rk; rw [if_neg n1]
        have := rkm_mem (ch := ch) (n := n) (l := l) (t := [sy_l c, sy_v c]) (c := sy_l c) (by simp)
        omega
      · have : rk ch n l (sy_v c) = rk0 ch n l (sy_v c) := by unfold rk; rw [if_neg n2]
        have := rkm_mem (ch := ch) (n := n) (l := l) (t := [sy_l c, sy_v c]) (c := sy_v c) (by simp)
        omega
    · obtain ⟨sa, ta, eb, e, ea⟩ := h2 hz
      have hc : rk ch n l c = rkm ch n l [sy_l c, sy_v c, 4519 + sy_t c] + 2 := by unfold rk; rw [if_pos hs, if_neg hz, e]
      rw [hc]
      rcases hp with hp | hp
      · have h5 : rk ch n l p = rkm ch n l [sy_l c, sy_v c] + 1 := by rw [hp]; unfold rk; rw [if_pos sa, if_pos ta, ea]
        have h6 : rkm ch n l [sy_l c, sy_v c] ≤ rkm ch n l [sy_l c, sy_v c, 4519 + sy_t c] := rkm_le (fun x hx => rkm_mem (by simp at hx ⊢; rcases hx with h | h <;> simp [h]))
        omega
      · rw [eb] at hp
        have h5 : rk ch n l p = rk0 ch n l (4519 + sy_t c) := by rw [hp]; unfold rk; rw [if_neg n3]
        have := rkm_mem (ch := ch) (n := n) (l := l) (t := [sy_l c, sy_v c, 4519 + sy_t c]) (c := 4519 + sy_t c) (by simp)
        omega
  · rw [if_neg hs] at hp
    cases hq : ri ch n c with
    | none => rw [hq] at hp; simp at hp
    | some j =>
      rw [hq] at hp
      obtain ⟨hj, hc⟩ := ri_some hq
      have hp2 : p ∈ pl (fi j) (se j) (th j) := by
        dsimp only at hp
        split at hp
        · exact hp
        · simp at hp
      have e : rk ch n l c = 3 * tp_rk l j := by unfold rk rk0; rw [if_neg hs, hq]
      have hjl := (hl j).mpr hj
      have h1 := tp_rk_pos l j hjl
      have h2 : rk ch n l p ≤ 3 * (tp_rk l j - 1) + 2 := by
        refine rk_ato (fun a ha => ?_)
        unfold rk0
        cases hk : ri ch n a with
        | none => exact Nat.zero_le _
        | some k =>
          obtain ⟨hk1, hk2⟩ := ri_some hk
          have := tp_rk_lt ht j hjl k ⟨hk1, p, hp2, by rw [hk2]; exact ha⟩
          show 3 * tp_rk l k ≤ _
          omega
      omega
/-- the text taken apart -/
def tka (ch fi se th lo : Nat → Int32) (n : Nat) (all : Bool) : Int32 → List Int32 := dc_n (prt ch fi se th lo n all) 362
theorem tka_eq {n : Nat} {ch fi se th lo : Nat → Int32} (hr : RowsB n ch fi se th lo) (ha : Acy n ch fi se th) {all : Bool} (c : Int32) : tka ch fi se th lo n all c = if prt ch fi se th lo n all c = [] then [c] else (prt ch fi se th lo n all c).flatMap (tka ch fi se th lo n all) := by
  obtain ⟨l, h1, h2, h3⟩ := ha
  exact dc_eq (rk := rk ch n l) (fun c p hp => rk_part hr h1 h3 hp) (fun c => rk_le h2 hr.1 c) c
