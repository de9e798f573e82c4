/-! exclude, add, clear, at, keep: class and reference. -/
abbrev dis (f : Nat → Int32) (n : Nat) : Prop := ∀ i j, i < n → j < n → f i = f j → i = j
theorem ri_no {own : Nat → Int32} {c : Int32} : ∀ {n : Nat}, (∀ j, j < n → ¬ own j = c) → ri own n c = none
  | 0, _ => rfl
  | n + 1, h => by
    unfold ri
    rw [if_neg (h n (Nat.lt_succ_self n)), ri_no (fun j hj => h j (Nat.lt_succ_of_lt hj))]
theorem s_X1_find {post : Int32 → Prop} {ex : Nat → Int32} {e : Nat} {c : Int32} (he : e ≤ 60) (hd : dis ex e) (h : post (o1 (ri ex e c))) : w_X1_find post (nI e) ex c := by
  have main : ∀ r k, k + r = e → (∀ j, j < k → ¬ ex j = c) → w_X1_find_2 post (nI e) ex c (r + 1) (nI k) := by
    intro r
    induction r with
    | zero =>
      intro k hk hn
      obtain rfl : k = e := by omega
      rw [ri_no hn] at h
      exact ⟨fun _ => h, fun z => absurd (Int32.le_refl _) z⟩
    | succ r ih =>
      intro k hk hn
      unfold w_X1_find_2
      rw [nI_clamp (by omega : k < 2 ^ 31), nI_1]
      refine ⟨fun z => ?_, fun _ => ⟨vp_in_nI (by omega) (by decide), fun z => ?_, fun z => ?_⟩⟩
      · rw [nI_leI (by omega) (by omega)] at z; omega
      · refine ih (k + 1) (by omega) (fun j hj => ?_)
        rcases Nat.lt_or_ge j k with h1 | h1
        · exact hn j h1
        · obtain rfl : j = k := by omega
          exact z
      · rw [ri_of hd (by omega) z] at h
        exact h
  exact ⟨e + 1, main e 0 (by omega) (fun j hj => absurd hj (Nat.not_lt_zero j))⟩
theorem s_X7_outAt {post : Int32 → Prop} {ex : Nat → Int32} {e : Nat} {c : Int32} (he : e ≤ 60) (h : post (o1 (ri ex e c))) : w_X7_outAt post (nI e) ex c := by
  have main : ∀ r k, k + r = e → w_X7_outAt_4 post (nI e) ex c (r + 1) (o1 (ri ex k c)) (nI k) := by
    intro r
    induction r with
    | zero =>
      intro k hk
      obtain rfl : k = e := by omega
      exact ⟨fun _ => h, fun z => absurd (Int32.le_refl _) z⟩
    | succ r ih =>
      intro k hk
      have ih2 := ih (k + 1) (by omega)
      unfold ri at ih2
      unfold w_X7_outAt_4
      rw [nI_clamp (by omega : k < 2 ^ 31), nI_1]
      refine ⟨fun z => ?_, fun _ => ⟨vp_in_nI (by omega) (by decide), fun z => ?_, fun z => ?_⟩⟩
      · rw [nI_leI (by omega) (by omega)] at z; omega
      · rwa [if_neg z] at ih2
      · rwa [if_pos z] at ih2
  exact ⟨e + 1, main e 0 (by omega)⟩
theorem s_X7_rowOf {post : Int32 → Prop} {ex : Nat → Int32} {e : Nat} {c : Int32} (he : e ≤ 120) (h : post (o1 (ri ex e c))) : w_X7_rowOf post (nI e) ex c := by
  have main : ∀ r k, k + r = e → w_X7_rowOf_4 post (nI e) ex c (r + 1) (o1 (ri ex k c)) (nI k) := by
    intro r
    induction r with
    | zero =>
      intro k hk
      obtain rfl : k = e := by omega
      exact ⟨fun _ => h, fun z => absurd (Int32.le_refl _) z⟩
    | succ r ih =>
      intro k hk
      have ih2 := ih (k + 1) (by omega)
      unfold ri at ih2
      unfold w_X7_rowOf_4
      rw [nI_clamp (by omega : k < 2 ^ 31), nI_1]
      refine ⟨fun z => ?_, fun _ => ⟨vp_in_nI (by omega) (by decide), fun z => ?_, fun z => ?_⟩⟩
      · rw [nI_leI (by omega) (by omega)] at z; omega
      · rwa [if_neg z] at ih2
      · rwa [if_pos z] at ih2
  exact ⟨e + 1, main e 0 (by omega)⟩
theorem nI_nm1 {j : Nat} (h : j < 2 ^ 31) : ¬ nI j = -1 := by
  intro e
  have h1 := nI_toInt h
  rw [e] at h1
  have h2 : ((-1 : Int32)).toInt = -1 := by decide
  omega
theorem s_X1_has {post : Int32 → Prop} {ex : Nat → Int32} {e : Nat} {c : Int32} (he : e ≤ 60) (hd : dis ex e) (h1 : ri ex e c = none → post 0) (h2 : ∀ i, ri ex e c = some i → post 1) : w_X1_has post (nI e) ex c := by
  refine s_X1_find he hd ?_
  cases hr : ri ex e c with
  | none => exact ⟨fun _ => h1 hr, fun z => absurd rfl z⟩
  | some i =>
    have := (ri_some hr).1
    exact ⟨fun z => absurd z (nI_nm1 (by omega)), fun _ => h2 i hr⟩
theorem s_X1_isFull {post : Int32 → Prop} {k : Nat} (hk : k ≤ 60) (h1 : k < 60 → post 0) (h2 : k = 60 → post 1) : w_X1_isFull post (nI k) := s_X2_isFull (post := post) hk h1 h2
/-- the characters that are excluded, afterwards -/
def ex_new (e : Nat) (ex : Nat → Int32) (c is : Int32) : Nat × (Nat → Int32) :=
  match ri ex e c with
  | some i => if is = 0 then (e - 1, upd ex i (ex (e - 1))) else (e, ex)
  | none => if is = 0 then (e, ex) else (e + 1, upd ex e c)
theorem s_X6_exclude {post : Int32 → (Nat → Int32) → Prop} {pe : Int32 → Int32 → (Nat → Int32) → Prop} {ex : Nat → Int32} {e : Nat} {c is : Int32} (he : e ≤ 60) (hd : dis ex e)
    (h1 : ¬ ich c → pe 1 (nI e) ex) (h2 : ich c → ¬ is = 0 → ri ex e c = none → e = 60 → pe 2 (nI e) ex)
    (h0 : ich c → (¬ is = 0 → ri ex e c = none → e < 60) → post (nI (ex_new e ex c is).1) (ex_new e ex c is).2) : w_X6_exclude post pe (nI e) ex c is := by
  refine s_X6_isCharacter ?_
  by_cases hc : ich c
  · rw [if_pos hc]
    refine n_1 ⟨fun his => s_X1_has he hd (fun hr => c_0 (s_X1_isFull he (fun q => c_0 ?_) (fun q => c_1 (h2 hc his hr q)))) (fun i hr => c_1 ?_), fun his => s_X1_find he hd ?_⟩
    · refine s_X1_isFull he (fun _ => c_0 ⟨vp_in_nI q (by decide), ?_⟩) (fun z => absurd z (by omega))
      have := h0 hc (fun _ _ => q)
      unfold ex_new at this
      rw [hr] at this
      simp only [if_neg his] at this
      rw [nI_clamp (by omega), nI_1]
      exact this
    · have := h0 hc (fun _ z => by rw [hr] at z; cases z)
      unfold ex_new at this
      rw [hr] at this
      simp only [if_neg his] at this
      exact this
    · cases hr : ri ex e c with
      | none =>
        have := h0 hc (fun z _ => absurd his z)
        unfold ex_new at this
        rw [hr] at this
        simp only [if_pos his] at this
        exact ⟨fun z => absurd rfl z, fun _ => this⟩
      | some i =>
        have hi := (ri_some hr).1
        have := h0 hc (fun z _ => absurd his z)
        unfold ex_new at this
        rw [hr] at this
        simp only [if_pos his] at this
        refine ⟨fun _ => ?_, fun z => absurd z (nI_nm1 (by omega))⟩
        show vp_in (nI e - 1) 60 ∧ vp_in (nI i) 60 ∧ post (nI e - 1) (upd ex (nI i).toNatClampNeg (ex (nI e - 1).toNatClampNeg))
        obtain ⟨z, rfl⟩ : ∃ z, e = z + 1 := ⟨e - 1, by omega⟩
        rw [nI_pred, nI_clamp (by omega), nI_clamp (by omega)]
        exact ⟨vp_in_nI (by omega) (by decide), vp_in_nI (by omega) (by decide), this⟩
  · rw [if_neg hc]
    exact n_0 (h1 hc)
theorem o1_lt {ex : Nat → Int32} {e : Nat} {c : Int32} (he : e ≤ 120) : (o1 (ri ex e c) < 0 ↔ ri ex e c = none) ∧ (0 ≤ o1 (ri ex e c) ↔ ∃ i, ri ex e c = some i) := by
  cases hr : ri ex e c with
  | none => exact ⟨⟨fun _ => rfl, fun _ => by decide⟩, ⟨fun z => absurd z (by decide), fun ⟨i, z⟩ => nomatch z⟩⟩
  | some i =>
    have := (ri_some hr).1
    exact ⟨⟨fun z => absurd z (nI_pos (by omega)), fun z => nomatch z⟩, ⟨fun _ => ⟨i, rfl⟩, fun _ => nI_pos' (by omega)⟩⟩
theorem s_X7_exclude {post : Int32 → Int32 → (Nat → Int32) → Prop} {ex : Nat → Int32} {e : Nat} {c is : Int32} (he : e ≤ 60)
    (h1 : ¬ ich c → post 1 (nI e) ex) (h2 : ich c → ¬ is = 0 → ri ex e c = none → e = 60 → post 2 (nI e) ex)
    (h0 : ich c → (¬ is = 0 → ri ex e c = none → e < 60) → post 0 (nI (ex_new e ex c is).1) (ex_new e ex c is).2) : w_X7_exclude post (nI e) ex c is := by
  refine s_X7_outAt he (s_X7_isCharacter ?_)
  obtain ⟨ho1, ho2⟩ := o1_lt (ex := ex) (e := e) (c := c) (by omega)
  by_cases hc : ich c
  · rw [if_pos hc]
    have go : (¬ is = 0 → ri ex e c = none → e < 60) → w_X7_exclude_39 post (nI e) ex c is (o1 (ri ex e c)) := by
      intro hq
      have := h0 hc hq
      unfold ex_new at this
      unfold w_X7_exclude_39 w_X7_exclude_40
      refine s_ref0 ?_
      refine c_0 ?_
      refine ⟨fun his => ⟨fun z => absurd his z, fun _ => ⟨fun z => ?_, fun z => ?_⟩⟩, fun his => ⟨fun z => ⟨fun _ => ?_, fun y => absurd y his⟩, fun z => ⟨vp_in_nI (hq his ?_) (by decide), ⟨fun _ => ?_, fun y => absurd y his⟩⟩⟩⟩
      · rw [ho1.mp z] at this
        simp only [if_pos his] at this
        exact this
      · obtain ⟨i, hi⟩ := ho2.mp (Int32.not_lt.mp z)
        have hi2 := (ri_some hi).1
        rw [hi] at this ⊢
        simp only [if_pos his] at this
        show vp_in (nI e - 1) 60 ∧ vp_in (nI i) 60 ∧ post 0 (nI e - 1) (upd ex (nI i).toNatClampNeg (ex (nI e - 1).toNatClampNeg))
        obtain ⟨z, rfl⟩ : ∃ z, e = z + 1 := ⟨e - 1, by omega⟩
        rw [nI_pred, nI_clamp (by omega), nI_clamp (by omega)]
        exact ⟨vp_in_nI (by omega) (by decide), vp_in_nI (by omega) (by decide), this⟩
      · obtain ⟨i, hi⟩ := ho2.mp z
        rw [hi] at this
        simp only [if_neg his] at this
        exact this
      · exact ho1.mp (Int32.not_le.mp z)
      · rw [ho1.mp (Int32.not_le.mp z)] at this
        simp only [if_neg his] at this
        rw [nI_clamp (by omega), nI_1]
        exact this
    refine n_1 ⟨fun his => go (fun z => absurd his z), fun his => ⟨fun z => go (fun _ y => ?_), fun z => ⟨fun y => go (fun _ _ => ?_), fun y => s_ref2 (c_1 (h2 hc his (ho1.mp (Int32.not_le.mp z)) ?_))⟩⟩⟩
    · obtain ⟨i, hi⟩ := ho2.mp z
      rw [hi] at y; cases y
    · rw [show (60 : Int32) = nI 60 from rfl, nI_eq (by omega) (by decide)] at y
      omega
    · rw [show (60 : Int32) = nI 60 from rfl, nI_eq (by omega) (by decide)] at y
      exact y
  · rw [if_neg hc]
    exact n_0 (s_ref1 (c_1 (h1 hc)))
/-- they stay apart, and characters -/
theorem ex_keep {ex : Nat → Int32} {e : Nat} {c is : Int32} (he : e ≤ 60) (hd : dis ex e) (hc : ich c) (hf : ¬ is = 0 → ri ex e c = none → e < 60) : (ex_new e ex c is).1 ≤ 60 ∧ dis (ex_new e ex c is).2 (ex_new e ex c is).1 := by
  unfold ex_new
  cases hr : ri ex e c with
  | none =>
    by_cases his : is = 0
    · simp only [if_pos his]; exact ⟨he, hd⟩
    · simp only [if_neg his]
      refine ⟨hf his hr, fun i j hi hj hij => ?_⟩
      have hn := ri_none hr
      rcases Nat.lt_or_ge i e with h1 | h1 <;> rcases Nat.lt_or_ge j e with h2 | h2
      · rw [pk_un (by omega), pk_un (by omega)] at hij; exact hd i j h1 h2 hij
      · obtain rfl : j = e := by omega
        rw [pk_un (by omega), pk_us] at hij; exact absurd hij (hn i h1)
      · obtain rfl : i = e := by omega
        rw [pk_us, pk_un (by omega)] at hij; exact absurd hij.symm (hn j h2)
      · omega
  | some k =>
    have hk := (ri_some hr).1
    by_cases his : is = 0
    · simp only [if_pos his]
      refine ⟨by omega, fun i j hi hj hij => ?_⟩
      rw [pt_upd, pt_upd] at hij
      split at hij <;> split at hij
      · omega
      · have := hd _ _ (by omega) (by omega) hij; omega
      · have := hd _ _ (by omega) (by omega) hij; omega
      · exact hd _ _ (by omega) (by omega) hij
    · simp only [if_neg his]; exact ⟨he, hd⟩
/-- the five numbers of an add -/
def fv (a b c d e : Int32) (i : Nat) : Int32 := if i = 0 then a else if i = 1 then b else if i = 2 then c else if i = 3 then d else e
theorem s_X6_pick {post : Int32 → Prop} {a b c d e : Int32} {i : Nat} (hi : i < 2 ^ 31) (h : post (fv a b c d e i)) : w_X6_pick post (nI i) a b c d e := by
  have q : ∀ k : Nat, k < 4 → (nI i = nI k ↔ i = k) := fun k hk => nI_eq hi (by omega)
  unfold fv at h
  refine ⟨fun z => ?_, fun z => ⟨fun y => ?_, fun y => ⟨fun x => ?_, fun x => ⟨fun w => ?_, fun w => ?_⟩⟩⟩⟩
  · have z := (q 0 (by decide)).mp z
    rwa [if_pos z] at h
  all_goals have z : ¬ i = 0 := fun k => z ((q 0 (by decide)).mpr k)
  all_goals rw [if_neg z] at h
  · have y := (q 1 (by decide)).mp y
    rwa [if_pos y] at h
  all_goals have y : ¬ i = 1 := fun k => y ((q 1 (by decide)).mpr k)
  all_goals rw [if_neg y] at h
  · have x := (q 2 (by decide)).mp x
    rwa [if_pos x] at h
  all_goals have x : ¬ i = 2 := fun k => x ((q 2 (by decide)).mpr k)
  all_goals rw [if_neg x] at h
  · have w := (q 3 (by decide)).mp w
    rwa [if_pos w] at h
  · have w : ¬ i = 3 := fun k => w ((q 3 (by decide)).mpr k)
    rwa [if_neg w] at h
theorem s_X7_fifth {post : Int32 → Prop} {a b c d e : Int32} {i : Nat} (hi : i < 2 ^ 31) (h : post (fv a b c d e i)) : w_X7_fifth post (nI i) a b c d e := by
  have := s_X6_pick hi h
  exact ⟨fun z => ⟨fun y => ⟨fun x => ⟨fun w => (((this.2 z).2 y).2 x).2 w, fun w => (((this.2 z).2 y).2 x).1 w⟩, fun x => ((this.2 z).2 y).1 x⟩, fun y => (this.2 z).1 y⟩, fun z => this.1 z⟩
/-- up to the first that is NONE -/
def upto (f : Nat → Int32) (n : Nat) : Prop := n ≤ 5 ∧ (n = 5 ∨ f n = -1) ∧ ∀ j, j < n → ¬ f j = -1
theorem upto_ex (f : Nat → Int32) : ∃ n, upto f n := by
  obtain ⟨k, hk, hl⟩ := pk_least (fun k => k = 5 ∨ f k = -1) ⟨5, Or.inl rfl⟩
  refine ⟨k, ?_, hk, fun j hj z => hl j hj (Or.inr z)⟩
  rcases Nat.lt_or_ge 5 k with h | h
  · exact absurd (Or.inl rfl) (hl 5 h)
  · exact h
theorem s_X6_count {post : Int32 → Prop} {a b c d e : Int32} {n : Nat} (hn : upto (fv a b c d e) n) (h : post (nI n)) : w_X6_countUpToNone post a b c d e := by
  obtain ⟨h5, h1, h2⟩ := hn
  have main : ∀ r k, k + r = n → w_X6_countUpToNone_3 post a b c d e (r + 1) (nI k) := by
    intro r
    induction r with
    | zero =>
      intro k hk
      obtain rfl : k = n := by omega
      refine ⟨fun _ => h, fun z => s_X6_pick (by omega) ⟨fun _ => h, fun y => ?_⟩⟩
      rw [show (5 : Int32) = nI 5 from rfl, nI_leI (by decide) (by omega)] at z
      rcases h1 with h1 | h1
      · omega
      · exact absurd h1 y
    | succ r ih =>
      intro k hk
      refine ⟨fun z => ?_, fun _ => s_X6_pick (by omega) ⟨fun y => absurd y (h2 k (by omega)), fun _ => ?_⟩⟩
      · rw [show (5 : Int32) = nI 5 from rfl, nI_leI (by decide) (by omega)] at z; omega
      · rw [nI_1]; exact ih (k + 1) (by omega)
  exact ⟨n + 1, main n 0 (by omega)⟩
theorem s_X7_add_3 {post : Int32 → Int32 → Int32 → (Nat → Int32) → Prop} {C : Int32 → Prop} {a b c d e : Int32} {n : Nat} (hn : upto (fv a b c d e) n) (h : C (nI n)) : ∃ k, w_X7_add_3 post C a b c d e k 0 := by
  obtain ⟨h5, h1, h2⟩ := hn
  have main : ∀ r k, k + r = n → w_X7_add_3 post C a b c d e (r + 1) (nI k) := by
    intro r
    induction r with
    | zero =>
      intro k hk
      obtain rfl : k = n := by omega
      refine ⟨fun _ => h, fun z => s_X7_fifth (by omega) ⟨fun _ => h, fun y => ?_⟩⟩
      rw [show (5 : Int32) = nI 5 from rfl, nI_leI (by decide) (by omega)] at z
      rcases h1 with h1 | h1
      · omega
      · exact absurd h1 y
    | succ r ih =>
      intro k hk
      refine ⟨fun z => ?_, fun _ => s_X7_fifth (by omega) ⟨fun y => absurd y (h2 k (by omega)), fun _ => ?_⟩⟩
      · rw [show (5 : Int32) = nI 5 from rfl, nI_leI (by decide) (by omega)] at z; omega
      · rw [nI_1]; exact ih (k + 1) (by omega)
  exact ⟨n + 1, main n 0 (by omega)⟩
theorem s_X6_areCharacters {post : Int32 → Prop} {a b c d e : Int32} {n : Nat} (hn : n ≤ 5) (h1 : (∀ j, j < n → ich (fv a b c d e j)) → post 1) (h0 : (¬ ∀ j, j < n → ich (fv a b c d e j)) → post 0) : w_X6_areCharacters post (nI n) a b c d e := by
  have main : ∀ r k, k + r = n → (∀ j, j < k → ich (fv a b c d e j)) → w_X6_areCharacters_3 post (nI n) a b c d e (r + 1) (nI k) := by
    intro r
    induction r with
    | zero =>
      intro k hk hc
      obtain rfl : k = n := by omega
      exact ⟨fun _ => h1 hc, fun z => absurd (Int32.le_refl _) z⟩
    | succ r ih =>
      intro k hk hc
      refine ⟨fun z => ?_, fun _ => s_X6_pick (by omega) (s_X6_isCharacter ?_)⟩
      · rw [nI_leI (by omega) (by omega)] at z; omega
      · by_cases hq : ich (fv a b c d e k)
        · rw [if_pos hq, nI_1]
          refine n_1 (ih (k + 1) (by omega) (fun j hj => ?_))
          rcases Nat.lt_or_ge j k with h2 | h2
          · exact hc j h2
          · obtain rfl : j = k := by omega
            exact hq
        · rw [if_neg hq]
          exact n_0 (h0 (fun z => hq (z k (by omega))))
  exact ⟨n + 1, main n 0 (by omega) (fun j hj => absurd hj (Nat.not_lt_zero j))⟩
theorem s_X7_add_37 {post : Int32 → Int32 → Int32 → (Nat → Int32) → Prop} {C : Int32 → Prop} {a b c d e : Int32} {n : Nat} (hn : n ≤ 5) (h1 : (∀ j, j < n → ich (fv a b c d e j)) → C 1) (h0 : (¬ ∀ j, j < n → ich (fv a b c d e j)) → C 0) : ∃ k, w_X7_add_37 post C a b c d e (nI n) k 1 0 := by
  have bad : ∀ r k, k + r = n → (¬ ∀ j, j < n → ich (fv a b c d e j)) → w_X7_add_37 post C a b c d e (nI n) (r + 1) 0 (nI k) := by
    intro r
    induction r with
    | zero =>
      intro k hk hb
      obtain rfl : k = n := by omega
      exact ⟨fun _ => h0 hb, fun z => absurd (Int32.le_refl _) z⟩
    | succ r ih =>
      intro k hk hb
      refine ⟨fun z => ?_, fun _ => c_0 ?_⟩
      · rw [nI_leI (by omega) (by omega)] at z; omega
      · rw [nI_1]; exact ih (k + 1) (by omega) hb
  have main : ∀ r k, k + r = n → (∀ j, j < k → ich (fv a b c d e j)) → w_X7_add_37 post C a b c d e (nI n) (r + 1) 1 (nI k) := by
    intro r
    induction r with
    | zero =>
      intro k hk hc
      obtain rfl : k = n := by omega
      exact ⟨fun _ => h1 hc, fun z => absurd (Int32.le_refl _) z⟩
    | succ r ih =>
      intro k hk hc
      refine ⟨fun z => ?_, fun _ => c_1 (s_X7_fifth (by omega) (s_X7_isCharacter ?_))⟩
      · rw [nI_leI (by omega) (by omega)] at z; omega
      · by_cases hq : ich (fv a b c d e k)
        · rw [if_pos hq, nI_1]
          refine c_1 (ih (k + 1) (by omega) (fun j hj => ?_))
          rcases Nat.lt_or_ge j k with h2 | h2
          · exact hc j h2
          · obtain rfl : j = k := by omega
            exact hq
        · rw [if_neg hq, nI_1]
          exact c_0 (bad r (k + 1) (by omega) (fun z => hq (z k (by omega))))
  exact ⟨n + 1, main n 0 (by omega) (fun j hj => absurd hj (Nat.not_lt_zero j))⟩
/-- the text with n characters more -/
def adt (tx : Nat → Int32) (t : Nat) (f : Nat → Int32) : Nat → Nat → Int32
  | 0 => tx
  | i + 1 => upd (adt tx t f i) (t + i) (f i)
theorem adt_al {Q : Int32 → Prop} {tx : Nat → Int32} {t : Nat} {f : Nat → Int32} : ∀ {n : Nat}, (∀ j, j < t → Q (tx j)) → (∀ j, j < n → Q (f j)) → ∀ j, j < t + n → Q (adt tx t f n j)
  | 0, h1, _, j, hj => h1 j hj
  | n + 1, h1, h2, j, hj => by
    unfold adt
    rw [pt_upd]
    split
    · exact h2 n (Nat.lt_succ_self n)
    · exact adt_al h1 (fun j hj => h2 j (Nat.lt_succ_of_lt hj)) j (by omega)
abbrev ad_ok (f : Nat → Int32) (n : Nat) : Prop := ∀ j, j < n → ich (f j)
theorem s_X6_add {post : Int32 → Int32 → (Nat → Int32) → Prop} {pe : Int32 → Int32 → (Nat → Int32) → Prop} {tx : Nat → Int32} {t : Nat} {a b c d e : Int32} {n : Nat} (ht : t ≤ 1000) (hn : upto (fv a b c d e) n)
    (h1 : ¬ ad_ok (fv a b c d e) n → pe 1 (nI t) tx) (h2 : ad_ok (fv a b c d e) n → 1000 < t + n → pe 2 (nI t) tx)
    (h0 : ad_ok (fv a b c d e) n → t + n ≤ 1000 → post (nI (t + n)) (nI (t + n)) (adt tx t (fv a b c d e) n)) : w_X6_add post pe (nI t) tx a b c d e := by
  have h5 := hn.1
  refine s_X6_count hn (s_X6_areCharacters h5 (fun hc => n_1 ⟨fun z => ?_, fun z => h2 hc ?_⟩) (fun hc => n_0 (h1 hc)))
  · rw [show (1000 : Int32) = nI 1000 from rfl, pk_sub ht, nI_leI (by omega) (by omega)] at z
    have h0 := h0 hc (by omega)
    have main : ∀ r k, k + r = n → w_X6_add_63 post pe a b c d e (nI n) (r + 1) (nI k) (nI (t + k)) (adt tx t (fv a b c d e) k) := by
      intro r
      induction r with
      | zero =>
        intro k hk
        obtain rfl : k = n := by omega
        exact ⟨fun _ => h0, fun z => absurd (Int32.le_refl _) z⟩
      | succ r ih =>
        intro k hk
        refine ⟨fun z => ?_, fun _ => s_X6_pick (by omega) ⟨vp_in_nI (by omega) (by decide), ?_⟩⟩
        · rw [nI_leI (by omega) (by omega)] at z; omega
        · rw [nI_1, nI_1, nI_clamp (by omega)]
          exact ih (k + 1) (by omega)
    exact ⟨n + 1, main n 0 (by omega)⟩
  · rw [show (1000 : Int32) = nI 1000 from rfl, pk_sub ht, nI_leI (by omega) (by omega)] at z
    omega
theorem s_X7_add {post : Int32 → Int32 → Int32 → (Nat → Int32) → Prop} {tx : Nat → Int32} {t : Nat} {a b c d e : Int32} {n : Nat} (ht : t ≤ 1000) (hn : upto (fv a b c d e) n)
    (h1 : ¬ ad_ok (fv a b c d e) n → post 0 1 (nI t) tx) (h2 : ad_ok (fv a b c d e) n → 1000 < t + n → post 0 2 (nI t) tx)
    (h0 : ad_ok (fv a b c d e) n → t + n ≤ 1000 → post (nI (t + n)) 0 (nI (t + n)) (adt tx t (fv a b c d e) n)) : w_X7_add post (nI t) tx a b c d e := by
  have h5 := hn.1
  refine s_X7_add_3 hn (s_X7_add_37 h5 (fun hc => n_1 ⟨fun z => s_ref0 (c_0 ?_), fun z => s_ref2 (c_1 (h2 hc ?_))⟩) (fun hc => n_0 (s_ref1 (c_1 (h1 hc)))))
  · rw [nI_add, show (1000 : Int32) = nI 1000 from rfl, nI_leI (by omega) (by omega)] at z
    have h0 := h0 hc (by omega)
    have main : ∀ r k, k + r = n → w_X7_add_119 post 0 a b c d e (nI n) (r + 1) (nI k) (nI (t + k)) (adt tx t (fv a b c d e) k) := by
      intro r
      induction r with
      | zero =>
        intro k hk
        obtain rfl : k = n := by omega
        exact ⟨fun _ => h0, fun z => absurd (Int32.le_refl _) z⟩
      | succ r ih =>
        intro k hk
        refine ⟨fun z => ?_, fun _ => s_X7_fifth (by omega) ⟨vp_in_nI (by omega) (by decide), ?_⟩⟩
        · rw [nI_leI (by omega) (by omega)] at z; omega
        · rw [nI_1, nI_1, nI_clamp (by omega)]
          exact ih (k + 1) (by omega)
    exact ⟨n + 1, main n 0 (by omega)⟩
  · rw [nI_add, show (1000 : Int32) = nI 1000 from rfl, nI_leI (by omega) (by omega)] at z
    omega
/-- copies from the start -/
theorem cp_0 {f g : Nat → Int32} : va_cpy f g 0 0 0 = g := by
  funext j
  exact pk_cpy_out (by omega)
theorem cp_s {f g : Nat → Int32} {n : Nat} : va_cpy f g 0 0 (n + 1) = upd (va_cpy f g 0 0 n) n (f n) := by
  funext j
  rw [pt_upd]
  rcases Nat.lt_trichotomy j n with h | h | h
  · rw [if_neg (by omega), pk_cpy_in (by omega) (by omega), pk_cpy_in (by omega) (by omega)]
  · subst h
    rw [if_pos rfl, pk_cpy_in (by omega) (by omega)]
    congr 1; omega
  · rw [if_neg (by omega), pk_cpy_out (by omega), pk_cpy_out (by omega)]
theorem cp_cg {f f' g : Nat → Int32} {n : Nat} (h : ∀ j, j < n → f j = f' j) : va_cpy f g 0 0 n = va_cpy f' g 0 0 n := by
  funext j
  rcases Nat.lt_or_ge j n with h1 | h1
  · rw [pk_cpy_in (by omega) (by omega), pk_cpy_in (by omega) (by omega)]
    exact h _ (by omega)
  · rw [pk_cpy_out (by omega), pk_cpy_out (by omega)]
theorem cp_al {Q : Int32 → Prop} {f g : Nat → Int32} {n : Nat} (h : ∀ j, j < n → Q (f j)) : ∀ j, j < n → Q (va_cpy f g 0 0 n j) := by
  intro j hj
  rw [pk_cpy_in (by omega) (by omega)]
  exact h _ (by omega)
theorem s_X6_keep {post : Int32 → Int32 → (Nat → Int32) → Prop} {pe : Int32 → Int32 → (Nat → Int32) → Prop} {tx fm : Nat → Int32} {t s : Nat} {q : Int32} (hs : s ≤ 2000)
    (h1 : q = 0 → post (nI t) (nI t) tx) (h2 : ¬ q = 0 → 1000 < s → pe 2 (nI t) tx) (h0 : ¬ q = 0 → s ≤ 1000 → post (nI s) (nI s) (va_cpy fm tx 0 0 s)) : w_X6_keep post pe (nI t) (nI s) q tx fm := by
  refine ⟨fun hq => ⟨fun z => ?_, fun z => h2 hq ?_⟩, h1⟩
  · rw [show (1000 : Int32) = nI 1000 from rfl, nI_leI (by omega) (by decide)] at z
    rw [sb_cl0, nI_clamp (by omega)]
    exact ⟨by decide, by decide, nI_pos (by omega), by omega, by omega, h0 hq z⟩
  · rw [show (1000 : Int32) = nI 1000 from rfl, nI_leI (by omega) (by decide)] at z
    omega
theorem s_X7_keep {post : Int32 → Int32 → Int32 → (Nat → Int32) → Prop} {tx fm : Nat → Int32} {t s : Nat} {q : Int32} (hs : s ≤ 2000) (hq0 : q = 0 → s = 0)
    (h1 : q = 0 → post (nI t) 0 (nI t) tx) (h2 : ¬ q = 0 → 1000 < s → post 0 1 (nI t) tx) (h0 : ¬ q = 0 → s ≤ 1000 → post (nI s) 0 (nI s) (va_cpy fm tx 0 0 s)) : w_X7_keep post (nI t) (nI s) q tx fm := by
  refine ⟨fun z => s_ref0 (c_0 ⟨fun hq => ?_, h1⟩), fun z => s_ref1 (c_1 (h2 (fun hq => ?_) ?_))⟩
  · rw [show (1000 : Int32) = nI 1000 from rfl, nI_leI (by omega) (by decide)] at z
    have h0 := h0 hq z
    have main : ∀ r k, k + r = s → w_X7_keep_46 post 0 (nI s) (nI s) fm (r + 1) (nI k) (va_cpy fm tx 0 0 k) := by
      intro r
      induction r with
      | zero =>
        intro k hk
        obtain rfl : k = s := by omega
        exact ⟨fun _ => h0, fun z => absurd (Int32.le_refl _) z⟩
      | succ r ih =>
        intro k hk
        refine ⟨fun z => ?_, fun _ => ⟨vp_in_nI (by omega) (by decide), vp_in_nI (by omega) (by decide), ?_⟩⟩
        · rw [nI_leI (by omega) (by omega)] at z; omega
        · rw [nI_1, nI_clamp (by omega), ← cp_s]
          exact ih (k + 1) (by omega)
    have := main s 0 (by omega)
    rw [cp_0] at this
    exact ⟨s + 1, this⟩
  · rw [hq0 hq] at z; exact z (by decide)
  · rw [show (1000 : Int32) = nI 1000 from rfl, nI_leI (by omega) (by decide)] at z
    omega
