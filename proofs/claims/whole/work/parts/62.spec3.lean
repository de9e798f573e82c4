/-! mark, property: class and reference. -/
theorem s_ref0 {post : Int32 → Int32 → Prop} (h : post 0 0) : w_X7_refused post 0 := ⟨fun _ => h, fun z => absurd (by decide) z⟩
theorem s_ref1 {post : Int32 → Int32 → Prop} (h : post 1 1) : w_X7_refused post 1 := ⟨fun z => absurd z (by decide), fun _ => h⟩
theorem s_ref2 {post : Int32 → Int32 → Prop} (h : post 1 2) : w_X7_refused post 2 := ⟨fun z => absurd z (by decide), fun _ => h⟩
theorem s_X2_isFull {post : Int32 → Prop} {k : Nat} (hk : k ≤ 60) (h1 : k < 60 → post 0) (h2 : k = 60 → post 1) : w_X2_isFull post (nI k) := by
  refine ⟨fun h => h1 ?_, fun h => h2 ?_⟩
  · rw [show (60 : Int32) = nI 60 from rfl, nI_ltI (by omega) (by decide)] at h; exact h
  · rw [show (60 : Int32) = nI 60 from rfl, nI_ltI (by omega) (by decide)] at h; omega
theorem s_X2_tell {post : Int32 → (Nat → Int32) → (Nat → Int32) → (Nat → Int32) → Prop} {k : Nat} {f l v : Nat → Int32} {a b c : Int32} (hk : k < 60) (h : post (nI (k + 1)) (upd f k a) (upd l k b) (upd v k c)) : w_X2_tell post (nI k) f l v a b c := by
  have hv : vp_in (nI k) 60 := vp_in_nI hk (by decide)
  refine s_X2_isFull (by omega) (fun _ => c_0 ?_) (fun z => absurd z (by omega))
  rw [nI_clamp (by omega), nI_1]
  exact ⟨hv, hv, hv, h⟩
abbrev mk_ok (a b c : Int32) : Prop := irg a b ∧ 0 ≤ c ∧ c ≤ 254
theorem s_X6_mark {post : Int32 → (Nat → Int32) → (Nat → Int32) → (Nat → Int32) → Prop} {pe : Int32 → Int32 → (Nat → Int32) → (Nat → Int32) → (Nat → Int32) → Prop} {k : Nat} {f l v : Nat → Int32} {a b c : Int32} (hk : k ≤ 60)
    (h1 : ¬ mk_ok a b c → pe 1 (nI k) f l v) (h2 : mk_ok a b c → k = 60 → pe 2 (nI k) f l v) (h0 : mk_ok a b c → k < 60 → post (nI (k + 1)) (upd f k a) (upd l k b) (upd v k c)) : w_X6_mark post pe (nI k) f l v a b c := by
  refine s_X6_isRange ?_
  by_cases hr : irg a b
  · rw [if_pos hr]
    refine c_1 ⟨fun z => h1 (fun q => absurd z (Int32.not_lt.mpr q.2.1)), fun z => ⟨fun y => ?_, fun y => h1 (fun q => y q.2.2)⟩⟩
    have ok : mk_ok a b c := ⟨hr, Int32.not_lt.mp z, y⟩
    exact s_X2_isFull hk (fun q => c_0 (s_X2_tell q (h0 ok q))) (fun q => c_1 (h2 ok q))
  · rw [if_neg hr]
    exact c_0 (h1 (fun q => hr q.1))
theorem s_X7_mark {post : Int32 → Int32 → (Nat → Int32) → (Nat → Int32) → (Nat → Int32) → Prop} {k : Nat} {f l v : Nat → Int32} {a b c : Int32} (hk : k ≤ 60)
    (h1 : ¬ mk_ok a b c → post 1 (nI k) f l v) (h2 : mk_ok a b c → k = 60 → post 2 (nI k) f l v) (h0 : mk_ok a b c → k < 60 → post 0 (nI (k + 1)) (upd f k a) (upd l k b) (upd v k c)) : w_X7_mark post (nI k) f l v a b c := by
  have no : ¬ mk_ok a b c → w_X7_mark_23 post (nI k) f l v a b c := fun z => n_0 (s_ref1 (n_1 (h1 z)))
  refine s_X7_isRange ?_
  by_cases hr : irg a b
  · rw [if_pos hr]
    refine c_1 ⟨fun z => no (fun q => absurd z (Int32.not_lt.mpr q.2.1)), fun z => ⟨fun y => no (fun q => absurd y (Int32.not_lt.mpr q.2.2)), fun y => n_1 ?_⟩⟩
    have ok : mk_ok a b c := ⟨hr, Int32.not_lt.mp z, Int32.not_lt.mp y⟩
    have hv : k < 60 → vp_in (nI k) 60 := fun q => vp_in_nI q (by decide)
    refine ⟨fun q => ?_, fun q => ?_⟩
    · rw [show (60 : Int32) = nI 60 from rfl, nI_eq (by omega) (by decide)] at q
      have q : k < 60 := by omega
      refine s_ref0 (n_0 ⟨hv q, hv q, hv q, ?_⟩)
      rw [nI_clamp (by omega), nI_1]
      exact h0 ok q
    · rw [show (60 : Int32) = nI 60 from rfl, nI_eq (by omega) (by decide)] at q
      exact s_ref2 (n_1 (h2 ok q))
  · rw [if_neg hr]
    exact c_0 (no (fun q => hr q.1))
abbrev pr_ok (a b c : Int32) : Prop := irg a b ∧ 0 ≤ c ∧ c ≤ 14
theorem s_X6_property {post : Int32 → (Nat → Int32) → (Nat → Int32) → (Nat → Int32) → Prop} {pe : Int32 → Int32 → (Nat → Int32) → (Nat → Int32) → (Nat → Int32) → Prop} {k : Nat} {f l v : Nat → Int32} {a b c : Int32} (hk : k ≤ 60)
    (h1 : ¬ pr_ok a b c → pe 1 (nI k) f l v) (h2 : pr_ok a b c → k = 60 → pe 2 (nI k) f l v) (h0 : pr_ok a b c → k < 60 → post (nI (k + 1)) (upd f k a) (upd l k b) (upd v k c)) : w_X6_property post pe (nI k) f l v a b c := by
  refine s_X6_isRange ?_
  by_cases hr : irg a b
  · rw [if_pos hr]
    refine c_1 ⟨fun z => h1 (fun q => absurd z (Int32.not_lt.mpr q.2.1)), fun z => ⟨fun y => ?_, fun y => h1 (fun q => y q.2.2)⟩⟩
    have ok : pr_ok a b c := ⟨hr, Int32.not_lt.mp z, y⟩
    exact s_X2_isFull hk (fun q => c_0 (s_X2_tell q (h0 ok q))) (fun q => c_1 (h2 ok q))
  · rw [if_neg hr]
    exact c_0 (h1 (fun q => hr q.1))
theorem s_X7_property {post : Int32 → Int32 → (Nat → Int32) → (Nat → Int32) → (Nat → Int32) → Prop} {k : Nat} {f l v : Nat → Int32} {a b c : Int32} (hk : k ≤ 60)
    (h1 : ¬ pr_ok a b c → post 1 (nI k) f l v) (h2 : pr_ok a b c → k = 60 → post 2 (nI k) f l v) (h0 : pr_ok a b c → k < 60 → post 0 (nI (k + 1)) (upd f k a) (upd l k b) (upd v k c)) : w_X7_property post (nI k) f l v a b c := by
  have no : ¬ pr_ok a b c → w_X7_property_22 post (nI k) f l v a b c := fun z => n_0 (s_ref1 (n_1 (h1 z)))
  refine s_X7_isRange ?_
  by_cases hr : irg a b
  · rw [if_pos hr]
    refine c_1 ⟨fun z => no (fun q => absurd z (Int32.not_lt.mpr q.2.1)), fun z => ⟨fun y => no (fun q => absurd y (Int32.not_lt.mpr q.2.2)), fun y => n_1 ?_⟩⟩
    have ok : pr_ok a b c := ⟨hr, Int32.not_lt.mp z, Int32.not_lt.mp y⟩
    have hv : k < 60 → vp_in (nI k) 60 := fun q => vp_in_nI q (by decide)
    refine ⟨fun q => ?_, fun q => ?_⟩
    · rw [show (60 : Int32) = nI 60 from rfl, nI_eq (by omega) (by decide)] at q
      have q : k < 60 := by omega
      refine s_ref0 (n_0 ⟨hv q, hv q, hv q, ?_⟩)
      rw [nI_clamp (by omega), nI_1]
      exact h0 ok q
    · rw [show (60 : Int32) = nI 60 from rfl, nI_eq (by omega) (by decide)] at q
      exact s_ref2 (n_1 (h2 ok q))
  · rw [if_neg hr]
    exact c_0 (no (fun q => hr q.1))
