/-! Pure: taking apart. prt: the parts of a character ([] if it stays); rk: a rank that falls from a character to its parts. -/
theorem th_flatMap {α β : Type} {f g : α → List β} : ∀ {l : List α}, (∀ a ∈ l, f a = g a) → l.flatMap f = l.flatMap g
  | [], _ => rfl
  | a :: l, h => by
    rw [List.flatMap_cons, List.flatMap_cons, h a List.mem_cons_self, th_flatMap (fun b hb => h b (List.mem_cons_of_mem _ hb))]
def dc_n (prt : Int32 → List Int32) : Nat → Int32 → List Int32
  | 0, c => [c]
  | k + 1, c => if prt c = [] then [c] else (prt c).flatMap (dc_n prt k)
theorem dc_nil {prt : Int32 → List Int32} {c : Int32} (he : prt c = []) : ∀ k, dc_n prt k c = [c]
  | 0 => rfl
  | k + 1 => by simp [dc_n, he]
theorem dc_stab {prt : Int32 → List Int32} {rk : Int32 → Nat} (hr : ∀ c p, p ∈ prt c → rk p < rk c) :
    ∀ (b : Nat) (c : Int32) (k k' : Nat), rk c ≤ b → rk c ≤ k → rk c ≤ k' → dc_n prt k c = dc_n prt k' c := by
  intro b
  induction b with
  | zero =>
    intro c k k' h0 _ _
    have he : prt c = [] := by
      cases hp : prt c with
      | nil => rfl
      | cons p ps => exact absurd (hr c p (by rw [hp]; exact List.mem_cons_self)) (by omega)
    rw [dc_nil he, dc_nil he]
  | succ b ih =>
    intro c k k' h0 h1 h2
    by_cases he : prt c = []
    · rw [dc_nil he, dc_nil he]
    · obtain ⟨p, hp⟩ := List.exists_mem_of_ne_nil _ he
      have h3 := hr c p hp
      obtain ⟨k1, rfl⟩ : ∃ z, k = z + 1 := ⟨k - 1, by omega⟩
      obtain ⟨k2, rfl⟩ : ∃ z, k' = z + 1 := ⟨k' - 1, by omega⟩
      simp only [dc_n, he, if_false]
      refine th_flatMap (fun q hq => ?_)
      have h4 := hr c q hq
      exact ih q k1 k2 (by omega) (by omega) (by omega)
/-- a character taken apart, ranks at most D -/
theorem dc_eq {prt : Int32 → List Int32} {rk : Int32 → Nat} (hr : ∀ c p, p ∈ prt c → rk p < rk c) {D : Nat} (hD : ∀ c, rk c ≤ D) (c : Int32) :
    dc_n prt D c = if prt c = [] then [c] else (prt c).flatMap (dc_n prt D) := by
  rw [dc_stab hr D c D (D + 1) (hD c) (hD c) (Nat.le_succ_of_le (hD c))]
  rfl
theorem dc_ne {prt : Int32 → List Int32} : ∀ (k : Nat) (c : Int32), 1 ≤ (dc_n prt k c).length := by
  intro k
  induction k with
  | zero => intro c; exact Nat.le_refl 1
  | succ k ih =>
    intro c
    by_cases he : prt c = []
    · rw [dc_nil he]; exact Nat.le_refl 1
    · simp only [dc_n, he, if_false]
      cases hp : prt c with
      | nil => exact absurd hp he
      | cons p ps =>
        rw [List.flatMap_cons, List.length_append]
        have := ih p
        omega
theorem dc_len {prt : Int32 → List Int32} {k : Nat} : ∀ (l : List Int32), l.length ≤ (l.flatMap (dc_n prt k)).length
  | [] => Nat.zero_le _
  | c :: l => by
    rw [List.flatMap_cons, List.length_append, List.length_cons]
    have h1 := dc_ne (prt := prt) k c
    have h2 := dc_len (prt := prt) (k := k) l
    omega
/-- all characters that come out satisfy what text and parts satisfy -/
theorem dc_all {prt : Int32 → List Int32} {Q : Int32 → Prop} (hq : ∀ c p, p ∈ prt c → Q p) : ∀ (k : Nat) (c : Int32), Q c → ∀ x ∈ dc_n prt k c, Q x := by
  intro k
  induction k with
  | zero => intro c hc x hx; simp only [dc_n, List.mem_singleton] at hx; rw [hx]; exact hc
  | succ k ih =>
    intro c hc x hx
    by_cases he : prt c = []
    · rw [dc_nil he, List.mem_singleton] at hx; rw [hx]; exact hc
    · simp only [dc_n, he, if_false, List.mem_flatMap] at hx
      obtain ⟨p, hp, hx⟩ := hx
      exact ih p (hq c p hp) x hx
/-- the measure of what is still to be taken apart: it falls at every step -/
def dc_pot (rk : Int32 → Nat) (D t : Nat) (l : List Int32) : Nat := (l.map (fun c => rk c + 1)).sum + (D + 1) * (2000 - t)
theorem dc_sum {rk : Int32 → Nat} {r : Nat} : ∀ (l : List Int32), (∀ p ∈ l, rk p < r) → (l.map (fun c => rk c + 1)).sum ≤ l.length * r
  | [], _ => by simp
  | p :: l, h => by
    have h1 := h p List.mem_cons_self
    have h2 := dc_sum l (fun q hq => h q (List.mem_cons_of_mem _ hq))
    simp only [List.map_cons, List.sum_cons, List.length_cons, Nat.succ_mul]
    omega
theorem dc_step {prt : Int32 → List Int32} {rk : Int32 → Nat} (hr : ∀ c p, p ∈ prt c → rk p < rk c) {D : Nat} (hD : ∀ c, rk c ≤ D) {c : Int32} {l : List Int32} {t : Nat} (hne : prt c ≠ []) (ht : t + (prt c).length - 1 ≤ 2000) (h1 : 1 ≤ t) :
    dc_pot rk D (t + (prt c).length - 1) (prt c ++ l) < dc_pot rk D t (c :: l) := by
  have h2 := dc_sum (rk := rk) (r := rk c) (prt c) (fun p hp => hr c p hp)
  have h3 : 1 ≤ (prt c).length := by
    cases hp : prt c with
    | nil => exact absurd hp hne
    | cons p ps => simp
  have h4 := hD c
  unfold dc_pot
  simp only [List.map_append, List.sum_append, List.map_cons, List.sum_cons]
  obtain ⟨n, hn⟩ : ∃ n, (prt c).length = n + 1 := ⟨(prt c).length - 1, by omega⟩
  rw [hn] at h2 ht ⊢
  have e1 : t + (n + 1) - 1 = t + n := by omega
  rw [e1] at ht ⊢
  have e2 : 2000 - t = (2000 - (t + n)) + n := by omega
  rw [e2, Nat.mul_add]
  have h5 : n * rk c ≤ n * D := Nat.mul_le_mul_left n h4
  have e3 : (n + 1) * rk c = n * rk c + rk c := Nat.succ_mul n (rk c)
  have e4 : (D + 1) * n = n * D + n := by rw [Nat.mul_comm, Nat.mul_succ]
  rw [e3] at h2
  rw [e4]
  omega
theorem dc_done {rk : Int32 → Nat} {D : Nat} {c : Int32} {l : List Int32} {t : Nat} : dc_pot rk D t l < dc_pot rk D t (c :: l) := by
  unfold dc_pot
  simp only [List.map_cons, List.sum_cons]
  omega
theorem dc_pot0 {rk : Int32 → Nat} {D : Nat} (hD : ∀ c, rk c ≤ D) (l : List Int32) (h : l.length ≤ 2000) : dc_pot rk D l.length l ≤ (D + 1) * 2000 := by
  have h1 := dc_sum (rk := rk) (r := D + 1) l (fun p _ => Nat.lt_succ_of_le (hD p))
  unfold dc_pot
  have e : (D + 1) * 2000 = (D + 1) * l.length + (D + 1) * (2000 - l.length) := by rw [← Nat.mul_add]; congr 1; omega
  rw [e, Nat.mul_comm (D + 1) l.length]
  omega
