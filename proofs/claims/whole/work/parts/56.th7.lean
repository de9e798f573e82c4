/-! Pure: syllables, rows, and what characters are made of. -/
abbrev sy (c : Int32) : Prop := 44032 ≤ c ∧ c ≤ 55203
abbrev ich (c : Int32) : Prop := 0 ≤ c ∧ c ≤ 1114111
def sy_t (c : Int32) : Int32 := (c - 44032) - (c - 44032) / 28 * 28
def sy_l (c : Int32) : Int32 := 4352 + (c - 44032) / 588
def sy_v (c : Int32) : Int32 := 4449 + ((c - 44032) / 28 - (c - 44032) / 28 / 21 * 21)
theorem nI_lit (n : Nat) : nI n = Int32.ofNat n := rfl
theorem i_le {a b : Int32} : a ≤ b ↔ a.toInt ≤ b.toInt := Int32.le_iff_toInt_le
theorem i_lt {a b : Int32} : a < b ↔ a.toInt < b.toInt := Int32.lt_iff_toInt_lt
/-- a number that isn't negative, by its Nat -/
theorem i_nat {x : Int32} (h : 0 ≤ x) : ∃ k : Nat, k < 2 ^ 31 ∧ x = nI k := nI_of (Int32.not_lt.mpr h)
theorem ich_nat {c : Int32} (h : ich c) : ∃ k : Nat, k ≤ 1114111 ∧ c = nI k := by
  obtain ⟨k, hk, rfl⟩ := i_nat h.1
  refine ⟨k, ?_, rfl⟩
  have h2 := h.2
  rw [show (1114111 : Int32) = nI 1114111 from rfl, nI_leI hk (by decide)] at h2
  exact h2
theorem sy_nat {c : Int32} (h : sy c) : ∃ s : Nat, s ≤ 11171 ∧ c = nI (44032 + s) ∧ sy_t c = nI (s % 28) ∧ sy_l c = nI (4352 + s / 588) ∧ sy_v c = nI (4449 + s / 28 % 21) ∧ c - sy_t c = nI (44032 + s - s % 28) ∧ 4519 + sy_t c = nI (4519 + s % 28) := by
  obtain ⟨k, hk, rfl⟩ := i_nat (x := c) (by have := h.1; exact Int32.le_trans (by decide) this)
  have h1 := h.1
  have h2 := h.2
  rw [show (44032 : Int32) = nI 44032 from rfl, nI_leI (by decide) hk] at h1
  rw [show (55203 : Int32) = nI 55203 from rfl, nI_leI hk (by decide)] at h2
  obtain ⟨s, rfl⟩ : ∃ s, k = 44032 + s := ⟨k - 44032, by omega⟩
  have e0 : nI (44032 + s) - 44032 = nI s := by
    rw [show (44032 : Int32) = nI 44032 from rfl, pk_sub (by omega), show 44032 + s - 44032 = s by omega]
  have et : sy_t (nI (44032 + s)) = nI (s % 28) := by
    unfold sy_t
    rw [e0, show (28 : Int32) = nI 28 from rfl, pk_rem (by omega) (by decide) (by decide)]
  refine ⟨s, by omega, rfl, et, ?_, ?_, ?_, ?_⟩
  · unfold sy_l
    rw [e0, show (588 : Int32) = nI 588 from rfl, pk_div (by omega) (by decide) (by decide), show (4352 : Int32) = nI 4352 from rfl, nI_add]
  · unfold sy_v
    rw [e0, show (28 : Int32) = nI 28 from rfl, pk_div (by omega) (by decide) (by decide), show (21 : Int32) = nI 21 from rfl, pk_rem (by omega) (by decide) (by decide), show (4449 : Int32) = nI 4449 from rfl, nI_add]
  · rw [et, pk_sub (by omega)]
  · rw [et, show (4519 : Int32) = nI 4519 from rfl, nI_add]
/-- the two parts of a syllable -/
def sy_a (c : Int32) : Int32 := if sy_t c = 0 then sy_l c else c - sy_t c
def sy_b (c : Int32) : Int32 := if sy_t c = 0 then sy_v c else 4519 + sy_t c
def ato (c : Int32) : List Int32 := if sy c then (if sy_t c = 0 then [sy_l c, sy_v c] else [sy_l c, sy_v c, 4519 + sy_t c]) else [c]
theorem ato_n {c : Int32} (h : ¬ sy c) : ato c = [c] := if_neg h
/-- the row of a character, of the first n -/
def ri (own : Nat → Int32) : Nat → Int32 → Option Nat
  | 0, _ => none
  | n + 1, c => if own n = c then some n else ri own n c
theorem ri_some {own : Nat → Int32} {c : Int32} : ∀ {n j : Nat}, ri own n c = some j → j < n ∧ own j = c
  | 0, j, h => by simp [ri] at h
  | n + 1, j, h => by
    unfold ri at h
    by_cases e : own n = c
    · rw [if_pos e] at h; cases h; exact ⟨Nat.lt_succ_self n, e⟩
    · rw [if_neg e] at h
      have := ri_some h
      exact ⟨by omega, this.2⟩
theorem ri_none {own : Nat → Int32} {c : Int32} : ∀ {n : Nat}, ri own n c = none → ∀ j, j < n → ¬ own j = c
  | 0, _, j, h => absurd h (Nat.not_lt_zero j)
  | n + 1, h, j, hj => by
    unfold ri at h
    by_cases e : own n = c
    · rw [if_pos e] at h; cases h
    · rw [if_neg e] at h
      rcases Nat.lt_or_ge j n with h1 | h1
      · exact ri_none h j h1
      · obtain rfl : j = n := by omega
        exact e
theorem ri_of {own : Nat → Int32} {c : Int32} {n : Nat} (hd : ∀ i j, i < n → j < n → own i = own j → i = j) {j : Nat} (hj : j < n) (hc : own j = c) : ri own n c = some j := by
  cases h : ri own n c with
  | none => exact absurd hc (ri_none h j hj)
  | some k =>
    obtain ⟨h1, h2⟩ := ri_some h
    rw [hd k j h1 hj (h2.trans hc.symm)]
/-- an Option as a number: NONE is -1 -/
def o1 : Option Nat → Int32
  | none => -1
  | some j => nI j
/-- a row's characters, -1 being none -/
def pl (a b d : Int32) : List Int32 := if b = -1 then [a] else if d = -1 then [a, b] else [a, b, d]
/-- the parts of a character; lo: 1 for a LOOSE row; all: LOOSE rows too -/
def prt (own fi se th lo : Nat → Int32) (n : Nat) (all : Bool) (c : Int32) : List Int32 :=
  if sy c then [sy_a c, sy_b c] else match ri own n c with
    | none => []
    | some j => if lo j = 0 ∨ all = true then pl (fi j) (se j) (th j) else []
