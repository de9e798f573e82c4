/-! Pure: which characters others give. ato: what a character is made of (a syllable: two or three; else itself alone). rc S c: the characters of S, taken apart with all rows, give c. -/
def rc (ato : Int32 → List Int32) (n : Nat) (own : Nat → Int32) (ps : Nat → List Int32) (S : List Int32) (c : Int32) : Prop :=
  ∀ T : Int32 → Prop, (∀ p ∈ S, ∀ a ∈ ato p, T a) → (∀ j, j < n → T (own j) → ∀ p ∈ ps j, ∀ a ∈ ato p, T a) → T c
theorem rc_row {ato : Int32 → List Int32} {n : Nat} {own : Nat → Int32} {ps : Nat → List Int32} {S : List Int32} {j : Nat} {c : Int32} (hj : j < n) (h1 : rc ato n own ps S (own j)) (h2 : rc ato n own ps (ps j) c) : rc ato n own ps S c :=
  fun T a b => h2 T (fun p hp x hx => b j hj (h1 T a b) p hp x hx) b
theorem rc_self {ato : Int32 → List Int32} {n : Nat} {own : Nat → Int32} {ps : Nat → List Int32} {S : List Int32} {p c : Int32} (hp : p ∈ S) (hc : c ∈ ato p) : rc ato n own ps S c :=
  fun _ a _ => a p hp c hc
/-- a row more: the list of rows without circles grows -/
theorem rc_ins {ato : Int32 → List Int32} {n : Nat} {own : Nat → Int32} {ps : Nat → List Int32} {c : Int32} {q : List Int32} {l : List Nat}
    (hs : ∀ j, j < n → ato (own j) = [own j]) (hc : ato c = [c]) (hno : ∀ j, j < n → ¬ own j = c) (hl : ∀ j, j ∈ l ↔ j < n)
    (ht : tp_ok (fun j k => k < n ∧ ∃ p ∈ ps j, own k ∈ ato p) l) (hrc : ¬ rc ato n own ps q c)
    {own' : Nat → Int32} {ps' : Nat → List Int32} (ho : ∀ j, j < n → own' j = own j) (hp : ∀ j, j < n → ps' j = ps j) (hon : own' n = c) (hpn : ps' n = q) :
    ∃ l', (∀ j, j ∈ l' ↔ j < n + 1) ∧ l'.length = l.length + 1 ∧ tp_ok (fun j k => k < n + 1 ∧ ∃ p ∈ ps' j, own' k ∈ ato p) l' := by
  have hD : ∀ j : Nat, Decidable (rc ato n own ps (ps j) c) := fun j => Classical.propDecidable _
  obtain ⟨R, hR⟩ : ∃ R : Nat → Bool, ∀ j, R j = true ↔ rc ato n own ps (ps j) c := ⟨fun j => @decide _ (hD j), fun j => @decide_eq_true_iff _ (hD j)⟩
  have hRf : ∀ j, R j = false ↔ ¬ rc ato n own ps (ps j) c := fun j => by
    rw [← hR j]
    cases R j <;> simp
  refine ⟨l.filter R ++ n :: l.filter (fun j => !R j), fun j => ?_, ?_, tp_ins (ch := fun j k => k < n ∧ ∃ p ∈ ps j, own k ∈ ato p) ?_ ?_ ?_ ?_ ht⟩
  · rw [List.mem_append, List.mem_cons, List.mem_filter, List.mem_filter]
    constructor
    · rintro (⟨h, -⟩ | rfl | ⟨h, -⟩)
      · have := (hl j).mp h; omega
      · omega
      · have := (hl j).mp h; omega
    · intro h
      rcases Nat.lt_or_ge j n with h1 | h1
      · have h2 := (hl j).mpr h1
        cases hj : R j with
        | true => exact Or.inl ⟨h2, rfl⟩
        | false => exact Or.inr (Or.inr ⟨h2, rfl⟩)
      · exact Or.inr (Or.inl (by omega))
  · have := tp_len (R := R) l
    rw [List.length_append, List.length_cons]
    omega
  · intro j k ⟨hk, p, hp1, hp2⟩ h
    exact (hR j).mpr (rc_row hk (rc_self hp1 hp2) ((hR k).mp h))
  · intro h
    have := (hl n).mp h
    omega
  · intro j hj k ⟨hk, p, hp1, hp2⟩
    have hjn := (hl j).mp hj
    rw [hp j hjn] at hp1
    rcases Nat.lt_or_ge k n with h1 | h1
    · rw [ho k h1] at hp2
      exact Or.inl ⟨h1, p, hp1, hp2⟩
    · obtain rfl : k = n := by omega
      rw [hon] at hp2
      exact Or.inr ⟨rfl, (hR j).mpr (rc_self hp1 hp2)⟩
  · intro k ⟨hk, p, hp1, hp2⟩
    rw [hpn] at hp1
    rcases Nat.lt_or_ge k n with h1 | h1
    · rw [ho k h1] at hp2
      refine ⟨(hl k).mpr h1, (hRf k).mpr (fun h => hrc (rc_row h1 (rc_self hp1 hp2) h))⟩
    · obtain rfl : k = n := by omega
      rw [hon] at hp2
      exact absurd (rc_self hp1 hp2) hrc
