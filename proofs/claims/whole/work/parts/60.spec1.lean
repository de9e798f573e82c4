/-! What the class's small methods answer. -/
theorem i_m1 (x : Int32) : x + (-1) = x - 1 := (Int32.sub_eq_add_neg x 1).symm
def rg (fi la va : Nat → Int32) : Nat → Int32 → Int32
  | 0, _ => 0
  | n + 1, c => if fi n ≤ c ∧ c ≤ la n then va n else rg fi la va n c
theorem s_X2_valueOf_7 {post : Int32 → Prop} {fi la va : Nat → Int32} {c : Int32} : ∀ k, k ≤ 60 → post (rg fi la va k c) → w_X2_valueOf_7 post fi la va c (k + 1) (nI k - 1)
  | 0, _, h => ⟨fun _ => h, fun hn => absurd (by decide) hn⟩
  | k + 1, hk, h => by
    rw [nI_pred]
    have hv : vp_in (nI k) 60 := vp_in_nI (by omega) (by decide)
    have ih := s_X2_valueOf_7 (post := post) (fi := fi) (la := la) (va := va) (c := c) k (by omega)
    unfold w_X2_valueOf_7
    rw [nI_clamp (by omega : k < 2 ^ 31), i_m1]
    refine ⟨fun hl => absurd hl (nI_pos (by omega)), fun _ => ⟨hv, fun h1 => ih ?_, fun h1 => ⟨hv, fun h2 => ih ?_, fun h2 => ⟨hv, ?_⟩⟩⟩⟩
    · unfold rg at h
      rwa [if_neg (fun z => absurd h1 (Int32.not_lt.mpr z.1))] at h
    · unfold rg at h
      rwa [if_neg (fun z => absurd h2 (Int32.not_lt.mpr z.2))] at h
    · unfold rg at h
      rwa [if_pos ⟨Int32.not_lt.mp h1, Int32.not_lt.mp h2⟩] at h
theorem s_X2_valueOf {post : Int32 → Prop} {fi la va : Nat → Int32} {c : Int32} {k : Nat} (hk : k ≤ 60) (h : post (rg fi la va k c)) : w_X2_valueOf post (nI k) fi la va c :=
  ⟨k + 1, s_X2_valueOf_7 k hk h⟩
theorem s_X5_has {post : Int32 → Prop} {c : Int32} (h : post (if sy c then 1 else 0)) : w_X5_has post c := by
  refine ⟨fun h1 => ?_, fun h1 => ⟨fun h2 => ?_, fun h2 => ?_⟩⟩
  · rwa [if_neg (fun z => absurd h1 (Int32.not_lt.mpr z.1))] at h
  · rwa [if_neg (fun z => absurd h2 (Int32.not_lt.mpr z.2))] at h
  · rwa [if_pos ⟨Int32.not_lt.mp h1, Int32.not_lt.mp h2⟩] at h
theorem s_X5_hasTail {post : Int32 → Prop} {c : Int32} (h : post (if sy_t c = 0 then 0 else 1)) : w_X5_hasTail post c := by
  refine ⟨fun h1 => ?_, fun h1 => ?_⟩
  · rwa [if_pos (show sy_t c = 0 from h1)] at h
  · rwa [if_neg (show ¬ sy_t c = 0 from h1)] at h
theorem s_X6_isCharacter {post : Int32 → Prop} {c : Int32} (h : post (if ich c then 1 else 0)) : w_X6_isCharacter post c := by
  refine ⟨fun h1 => ?_, fun h1 => ⟨fun h2 => ?_, fun h2 => ?_⟩⟩
  · rwa [if_neg (fun z => absurd h1 (Int32.not_lt.mpr z.1))] at h
  · rwa [if_neg (fun z => absurd h2 (Int32.not_lt.mpr z.2))] at h
  · rwa [if_pos ⟨Int32.not_lt.mp h1, Int32.not_lt.mp h2⟩] at h
/-- whether a number is 1 or 0 -/
theorem b_01 {P : Int32 → Prop} {q : Prop} [Decidable q] (h1 : q → P 1) (h0 : ¬ q → P 0) : P (if q then 1 else 0) := by
  split
  · exact h1 ‹_›
  · exact h0 ‹_›
theorem c_1 {A B : Prop} (h : B) : ((1 : Int32) = 0 → A) ∧ (¬ (1 : Int32) = 0 → B) := ⟨fun z => absurd z (by decide), fun _ => h⟩
theorem c_0 {A B : Prop} (h : A) : ((0 : Int32) = 0 → A) ∧ (¬ (0 : Int32) = 0 → B) := ⟨fun _ => h, fun z => absurd rfl z⟩
theorem n_1 {A B : Prop} (h : A) : (¬ (1 : Int32) = 0 → A) ∧ ((1 : Int32) = 0 → B) := ⟨fun _ => h, fun z => absurd z (by decide)⟩
theorem n_0 {A B : Prop} (h : B) : (¬ (0 : Int32) = 0 → A) ∧ ((0 : Int32) = 0 → B) := ⟨fun z => absurd rfl z, fun _ => h⟩
theorem s_X7_isCharacter {post : Int32 → Prop} {c : Int32} (h : post (if ich c then 1 else 0)) : w_X7_isCharacter post c := s_X6_isCharacter (post := post) h
abbrev iop (c : Int32) : Prop := c = -1 ∨ ich c
theorem s_X6_isCharacterOrNone {post : Int32 → Prop} {c : Int32} (h : post (if iop c then 1 else 0)) : w_X6_isCharacterOrNone post c := by
  refine ⟨fun h1 => ?_, fun h1 => s_X6_isCharacter ?_⟩
  · rwa [if_pos (Or.inl h1)] at h
  · by_cases h2 : ich c
    · rw [if_pos h2]; rw [if_pos (Or.inr h2)] at h; exact c_1 h
    · rw [if_neg h2]; rw [if_neg (fun z => z.elim h1 h2)] at h; exact c_0 h
theorem s_X7_isOptional {post : Int32 → Prop} {c : Int32} (h : post (if iop c then 1 else 0)) : w_X7_isOptional post c := by
  refine ⟨fun h1 => ?_, fun h1 => s_X7_isCharacter ?_⟩
  · rwa [if_pos (Or.inl h1)] at h
  · by_cases h2 : ich c
    · rw [if_pos h2]; rw [if_pos (Or.inr h2)] at h; exact c_1 h
    · rw [if_neg h2]; rw [if_neg (fun z => z.elim h1 h2)] at h; exact c_0 h
abbrev irg (a b : Int32) : Prop := ich a ∧ ich b ∧ a ≤ b
theorem s_X6_isRange {post : Int32 → Prop} {a b : Int32} (h : post (if irg a b then 1 else 0)) : w_X6_isRange post a b := by
  refine s_X6_isCharacter ?_
  by_cases h1 : ich a
  · rw [if_pos h1]
    refine c_1 (s_X6_isCharacter ?_)
    by_cases h2 : ich b
    · rw [if_pos h2]
      refine c_1 ⟨fun h3 => ?_, fun h3 => ?_⟩
      · rwa [if_neg (fun z => absurd h3 (Int32.not_lt.mpr z.2.2))] at h
      · rwa [if_pos ⟨h1, h2, Int32.not_lt.mp h3⟩] at h
    · rw [if_neg h2]
      rw [if_neg (fun z => h2 z.2.1)] at h
      exact c_0 h
  · rw [if_neg h1]
    rw [if_neg (fun z => h1 z.1)] at h
    exact c_0 h
theorem s_X7_isRange {post : Int32 → Prop} {a b : Int32} (h : post (if irg a b then 1 else 0)) : w_X7_isRange post a b := s_X6_isRange (post := post) h
theorem s_X7_isSyllable {post : Int32 → Prop} {c : Int32} (h : post (if sy c then 1 else 0)) : w_X7_isSyllable post c := s_X5_has (post := post) h
theorem i_eq1 {k : Nat} (hk : k < 2 ^ 31 - 1) : nI k + 1 = nI (k + 1) := nI_1 k
/-- the reference's classes and kinds -/
theorem s_X7_classOf_4 {post : Int32 → Prop} {fi la va : Nat → Int32} {c : Int32} {m : Nat} (hm : m ≤ 60) (h : post (rg fi la va m c)) : ∀ r k, k + r = m → w_X7_classOf_4 post (nI m) fi la va c (r + 1) (rg fi la va k c) (nI k) := by
  intro r
  induction r with
  | zero =>
    intro k hk
    obtain rfl : k = m := by omega
    exact ⟨fun _ => h, fun z => absurd (Int32.le_refl _) z⟩
  | succ r ih =>
    intro k hk
    have ih2 := ih (k + 1) (by omega)
    have hv : vp_in (nI k) 60 := vp_in_nI (by omega) (by decide)
    unfold w_X7_classOf_4
    rw [nI_clamp (by omega : k < 2 ^ 31), nI_1]
    refine ⟨fun z => ?_, fun _ => ⟨hv, fun h1 => ?_, fun h1 => ⟨hv, fun h2 => ?_, fun h2 => ⟨hv, ?_⟩⟩⟩⟩
    · rw [nI_leI (by omega) (by omega)] at z; omega
    · unfold rg at ih2
      rwa [if_neg (fun z => absurd h1 (Int32.not_lt.mpr z.1))] at ih2
    · unfold rg at ih2
      rwa [if_neg (fun z => absurd h2 (Int32.not_lt.mpr z.2))] at ih2
    · unfold rg at ih2
      rwa [if_pos ⟨Int32.not_lt.mp h1, Int32.not_lt.mp h2⟩] at ih2
theorem s_X7_classOf {post : Int32 → Prop} {fi la va : Nat → Int32} {c : Int32} {m : Nat} (hm : m ≤ 60) (h : post (rg fi la va m c)) : w_X7_classOf post (nI m) fi la va c :=
  ⟨m + 1, s_X7_classOf_4 hm h m 0 (by omega)⟩
theorem s_X7_kind {post : Int32 → Prop} {fi la va : Nat → Int32} {c : Int32} {m : Nat} (hm : m ≤ 60) (h : post (rg fi la va m c)) : w_X7_kind post (nI m) fi la va c := by
  obtain ⟨k, hk⟩ := s_X7_classOf hm h
  refine ⟨k, ?_⟩
  have main : ∀ (n : Nat) (x y : Int32), w_X7_classOf_4 post (nI m) fi la va c n x y → w_X7_kind_4 post (nI m) fi la va c n x y := by
    intro n
    induction n with
    | zero => intro x y h; exact h
    | succ n ih =>
      intro x y h
      exact ⟨h.1, fun z => ⟨(h.2 z).1, fun a => ih _ _ ((h.2 z).2.1 a), fun a => ⟨((h.2 z).2.2 a).1, fun b => ih _ _ (((h.2 z).2.2 a).2.1 b), fun b => ⟨(((h.2 z).2.2 a).2.2 b).1, ih _ _ ((((h.2 z).2.2 a).2.2 b).2)⟩⟩⟩⟩
  exact main k 0 0 hk
