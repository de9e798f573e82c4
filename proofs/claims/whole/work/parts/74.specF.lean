/-! Whether a row would give its own character: the class. -/
theorem nar_0 : vp_nar .boolean (0 : Int32) = 0 := rfl
theorem nar_1 : vp_nar .boolean (1 : Int32) = 1 := rfl
theorem hs_z_dec {sl : Nat → Int32} {s : Nat} {v : Int32} (h0 : sl s = 0) (hv : ¬ v = 0) : ∀ m, hs_z (upd sl s v) m + (if s < m then 1 else 0) = hs_z sl m
  | 0 => rfl
  | m + 1 => by
    have h := hs_z_dec h0 hv m
    unfold hs_z
    rcases Nat.lt_trichotomy s m with hs | hs | hs
    · rw [pk_un (by omega : m ≠ s), if_pos (by omega : s < m + 1)]
      rw [if_pos hs] at h
      omega
    · subst hs
      rw [if_pos (Nat.lt_succ_self s), pk_us, if_neg hv, if_pos h0]
      rw [if_neg (Nat.lt_irrefl s)] at h
      omega
    · rw [pk_un (by omega : m ≠ s), if_neg (by omega : ¬ s < m + 1)]
      rw [if_neg (by omega : ¬ s < m)] at h
      omega
theorem hs_z_le {sl : Nat → Int32} : ∀ m, hs_z sl m ≤ m
  | 0 => Nat.le_refl 0
  | m + 1 => by
    unfold hs_z
    have := hs_z_le (sl := sl) m
    split <;> omega
theorem hs_z_pos {sl : Nat → Int32} {j : Nat} (h0 : sl j = 0) : ∀ m, j < m → 1 ≤ hs_z sl m
  | 0, h => absurd h (Nat.not_lt_zero j)
  | m + 1, h => by
    unfold hs_z
    by_cases e : j = m
    · subst e
      rw [if_pos h0]
      omega
    · have := hs_z_pos h0 m (by omega)
      omega
theorem hs_z_0 {sl : Nat → Int32} : ∀ m, (∀ j, j < m → sl j = 0) → hs_z sl m = m
  | 0, _ => rfl
  | m + 1, h => by
    unfold hs_z
    rw [hs_z_0 m (fun j hj => h j (by omega)), if_pos (h m (Nat.lt_succ_self m))]
/-- the rows that wait, in their order, and which rows were seen -/
def Wst (n : Nat) (W : List Nat) (wt sn : Nat → Int32) : Prop := (∀ i, i < W.length → wt i = nI (W.getD i 0)) ∧ W.length + hs_z sn n = n ∧ (∀ j, j < n → (sn j = 0 ↔ j ∉ W)) ∧ ∀ j ∈ W, j < n
/-- from the rows W on to W', by the characters A -/
def Wex (n : Nat) (ch : Nat → Int32) (A : List Int32) (W W' : List Nat) : Prop := (∃ E, W' = W ++ E) ∧ (∀ a ∈ A, ∀ j, j < n → ch j = a → j ∈ W') ∧ ∀ j ∈ W', j ∈ W ∨ ch j ∈ A
theorem Wex_app {n : Nat} {ch : Nat → Int32} {A B : List Int32} {W W1 W2 : List Nat} (h1 : Wex n ch A W W1) (h2 : Wex n ch B W1 W2) : Wex n ch (A ++ B) W W2 := by
  obtain ⟨⟨E, rfl⟩, a2, a3⟩ := h1
  obtain ⟨⟨F, rfl⟩, b2, b3⟩ := h2
  refine ⟨⟨E ++ F, List.append_assoc _ _ _⟩, fun a ha j hj hc => ?_, fun j hj => ?_⟩
  · rcases List.mem_append.mp ha with ha | ha
    · exact List.mem_append_left _ (a2 a ha j hj hc)
    · exact b2 a ha j hj hc
  · rcases b3 j hj with h | h
    · rcases a3 j h with h | h
      · exact Or.inl h
      · exact Or.inr (List.mem_append_left _ h)
    · exact Or.inr (List.mem_append_right _ h)
theorem s_X4_meet {post : Int32 → Int32 → (Nat → Int32) → (Nat → Int32) → Prop} {n : Nat} {ch sl wt sn : Nat → Int32} {W : List Nat} {w a : Int32} (hn : n ≤ 120) (hd : dis ch n) (hok : hs_ok sl ch n) (hW : Wst n W wt sn)
    (h1 : a = w → ∀ k wt sn, post 1 k wt sn) (h0 : ¬ a = w → ∀ W' wt' sn', Wst n W' wt' sn' → Wex n ch [a] W W' → post 0 (nI W'.length) wt' sn') : w_X4_meet post (nI W.length) ch sl wt sn w a := by
  refine ⟨fun z => s_X4_find hok hn hd ?_, fun z => h1 z _ _ _⟩
  obtain ⟨q1, q2, q3, q4⟩ := hW
  have stay : (∀ j, j < n → ch j = a → j ∈ W) → post 0 (nI W.length) wt sn := fun q => h0 z W wt sn ⟨q1, q2, q3, q4⟩ ⟨⟨[], (List.append_nil _).symm⟩, fun b hb j hj hc => by
    rw [List.mem_singleton] at hb
    exact q j hj (hc.trans hb), fun j hj => Or.inl hj⟩
  cases hr : ri ch n a with
  | none => exact ⟨fun _ => stay (fun j hj hc => absurd hc (ri_none hr j hj)), fun y => absurd (by decide) y⟩
  | some j =>
    obtain ⟨hj, hc⟩ := ri_some hr
    have ko : (o1 (some j)).toNatClampNeg = j := nI_clamp (by omega)
    have uq : ∀ i, i < n → ch i = a → i = j := fun i hi hci => hd i j hi hj (hci.trans hc.symm)
    rw [ko, nar_1]
    refine ⟨fun y => absurd y (nI_pos (by omega)), fun _ => ⟨pk_in j 120 (by omega), fun y => ?_, fun y => ?_⟩⟩
    · refine stay (fun i hi hci => ?_)
      rw [uq i hi hci]
      exact Decidable.byContradiction (fun q => y ((q3 j hj).mpr q))
    · have hz := hs_z_pos y n hj
      have hdec := hs_z_dec (sl := sn) (s := j) (v := 1) y (by decide) n
      rw [if_pos hj] at hdec
      have hnin := (q3 j hj).mp y
      refine pk_le 120 W.length (fun x => absurd x (by omega)) (fun _ => ⟨pk_in j 120 (by omega), pk_in W.length 120 (by omega), ?_⟩)
      have hlen : (W ++ [j]).length = W.length + 1 := by simp
      have := h0 z (W ++ [j]) (upd wt W.length (nI j)) (upd sn j 1) ⟨fun i hi => ?_, by rw [hlen]; omega, fun i hi => ?_, fun i hi => ?_⟩ ⟨⟨[j], rfl⟩, fun b hb i hi hci => ?_, fun i hi => ?_⟩
      · rw [hlen, ← nI_1] at this
        rw [nI_clamp (by omega : W.length < 2 ^ 31)]
        exact this
      · rw [pt_upd]
        rw [hlen] at hi
        split
        · rename_i e
          rw [e, List.getD_eq_getElem?_getD, List.getElem?_append_right (Nat.le_refl _)]
          simp
        · rename_i e
          rw [q1 i (by omega), List.getD_eq_getElem?_getD, List.getD_eq_getElem?_getD, List.getElem?_append_left (by omega)]
      · rw [pt_upd]
        split
        · rename_i e
          refine ⟨fun x => absurd x (by decide), fun x => absurd (by rw [e]; simp) x⟩
        · rename_i e
          rw [q3 i hi, List.mem_append, List.mem_singleton]
          exact ⟨fun x => fun x2 => x2.elim x e, fun x => fun x2 => x (Or.inl x2)⟩
      · rcases List.mem_append.mp hi with x | x
        · exact q4 i x
        · rw [List.mem_singleton] at x; rw [x]; exact hj
      · rw [List.mem_singleton] at hb
        rw [uq i hi (hci.trans hb)]
        simp
      · rcases List.mem_append.mp hi with x | x
        · exact Or.inl x
        · rw [List.mem_singleton] at x
          rw [x, hc]
          exact Or.inr (by simp)
theorem s_X5_lead {post : Int32 → Prop} {p : Int32} (h : post (sy_l p)) : w_X5_lead post p := h
theorem s_X5_vowel {post : Int32 → Prop} {p : Int32} (h : post (sy_v p)) : w_X5_vowel post p := h
theorem s_X5_tail {post : Int32 → Prop} {p : Int32} (h : post (4519 + sy_t p)) : w_X5_tail post p := h
theorem s_X4_follow {post : Int32 → Int32 → (Nat → Int32) → (Nat → Int32) → Prop} {n : Nat} {ch sl wt sn : Nat → Int32} {W : List Nat} {w p : Int32} (hn : n ≤ 120) (hd : dis ch n) (hok : hs_ok sl ch n) (hW : Wst n W wt sn)
    (h1 : w ∈ ato p → ∀ k wt sn, post 1 k wt sn) (h0 : ¬ w ∈ ato p → ∀ W' wt' sn', Wst n W' wt' sn' → Wex n ch (ato p) W W' → post 0 (nI W'.length) wt' sn') : w_X4_follow post (nI W.length) ch sl wt sn w p := by
  refine s_X5_has ?_
  by_cases hs : sy p
  · rw [if_pos hs]
    obtain ⟨e1, e2, -⟩ := sy_parts hs
    have hl : sy_l p ∈ ato p := by
      by_cases hz : sy_t p = 0
      · rw [(e1 hz).2.2]; simp
      · rw [(e2 hz).2.2.2.1]; simp
    have hv : sy_v p ∈ ato p := by
      by_cases hz : sy_t p = 0
      · rw [(e1 hz).2.2]; simp
      · rw [(e2 hz).2.2.2.1]; simp
    refine n_1 (s_X5_lead (s_X4_meet hn hd hok hW (fun z k a b => n_1 (h1 (z ▸ hl) _ _ _)) (fun z1 W1 wt1 sn1 hW1 hE1 => n_0 (s_X5_vowel ?_))))
    refine s_X4_meet hn hd hok hW1 (fun z k a b => n_1 (h1 (z ▸ hv) _ _ _)) (fun z2 W2 wt2 sn2 hW2 hE2 => n_0 ?_)
    refine s_X5_hasTail ?_
    by_cases hz : sy_t p = 0
    · rw [if_pos hz]
      refine c_0 (h0 ?_ W2 wt2 sn2 hW2 ?_)
      · rw [(e1 hz).2.2]
        simp only [List.mem_cons, List.not_mem_nil, or_false]
        rintro (x | x)
        · exact z1 x.symm
        · exact z2 x.symm
      · rw [(e1 hz).2.2]
        exact Wex_app hE1 hE2
    · rw [if_neg hz]
      have ht : (4519 + sy_t p) ∈ ato p := by rw [(e2 hz).2.2.2.1]; simp
      refine c_1 (s_X5_tail (s_X4_meet hn hd hok hW2 (fun z k a b => c_1 (h1 (z ▸ ht) _ _ _)) (fun z3 W3 wt3 sn3 hW3 hE3 => c_0 (h0 ?_ W3 wt3 sn3 hW3 ?_))))
      · rw [(e2 hz).2.2.2.1]
        simp only [List.mem_cons, List.not_mem_nil, or_false]
        rintro (x | x | x)
        · exact z1 x.symm
        · exact z2 x.symm
        · exact z3 x.symm
      · rw [(e2 hz).2.2.2.1]
        exact Wex_app hE1 (Wex_app hE2 hE3)
  · rw [if_neg hs]
    rw [ato_n hs] at h0 h1
    exact n_0 (s_X4_meet hn hd hok hW (fun z k a b => ⟨nb_b1 true, h1 (by rw [z]; simp) _ _ _⟩) (fun z W' a b hW' hE => ⟨nb_b1 false, h0 (fun x => z (List.mem_singleton.mp x).symm) W' a b hW' hE⟩))
/-- the characters of a row, -1 too -/
theorem at_3 {a b c : Int32} (hbc : b = -1 → c = -1) {x : Int32} : (x ∈ ato a ++ (ato b ++ ato c) → x = -1 ∨ ∃ p ∈ pl a b c, x ∈ ato p) ∧ ((∃ p ∈ pl a b c, x ∈ ato p) → x ∈ ato a ++ (ato b ++ ato c)) := by
  have hm : ato (-1) = [-1] := ato_n (by decide)
  have pa : a ∈ pl a b c := by unfold pl; split; simp; split <;> simp
  have pb : b = -1 ∨ b ∈ pl a b c := by
    by_cases h : b = -1
    · exact Or.inl h
    · right; unfold pl; rw [if_neg h]; split <;> simp
  have pc : c = -1 ∨ c ∈ pl a b c := by
    by_cases h : c = -1
    · exact Or.inl h
    · right; unfold pl; rw [if_neg (fun z => h (hbc z)), if_neg h]; simp
  constructor
  · intro h
    rcases List.mem_append.mp h with h | h
    · exact Or.inr ⟨a, pa, h⟩
    · rcases List.mem_append.mp h with h | h
      · rcases pb with z | z
        · rw [z, hm, List.mem_singleton] at h; exact Or.inl h
        · exact Or.inr ⟨b, z, h⟩
      · rcases pc with z | z
        · rw [z, hm, List.mem_singleton] at h; exact Or.inl h
        · exact Or.inr ⟨c, z, h⟩
  · rintro ⟨p, hp, hx⟩
    have : p = a ∨ p = b ∨ p = c := by
      unfold pl at hp
      split at hp
      · exact Or.inl (List.mem_singleton.mp hp)
      · split at hp
        · simp only [List.mem_cons, List.not_mem_nil, or_false] at hp
          rcases hp with h | h
          · exact Or.inl h
          · exact Or.inr (Or.inl h)
        · simp only [List.mem_cons, List.not_mem_nil, or_false] at hp
          exact hp
    rcases this with rfl | rfl | rfl
    · exact List.mem_append_left _ hx
    · exact List.mem_append_right _ (List.mem_append_left _ hx)
    · exact List.mem_append_right _ (List.mem_append_right _ hx)
abbrev pls (fi se th : Nat → Int32) : Nat → List Int32 := fun j => pl (fi j) (se j) (th j)
theorem s_X4_wouldGive {post : Int32 → Int32 → (Nat → Int32) → (Nat → Int32) → Prop} {n : Nat} {ch fi se th lo sl wt0 sn0 : Nat → Int32} {w a b c : Int32} (hr : RowsB n ch fi se th lo) (hok : hs_ok sl ch n) (hw : ich w) (hbc : b = -1 → c = -1)
    (h1 : rc ato n ch (pls fi se th) (pl a b c) w → ∀ k wt sn, post 1 k wt sn) (h0 : ¬ rc ato n ch (pls fi se th) (pl a b c) w → ∀ k wt sn, post 0 k wt sn) : w_X4_wouldGive post (nI n) ch fi se th sl wt0 sn0 w a b c := by
  obtain ⟨hn, hd, hrow⟩ := hr
  have hw1 : ¬ w = -1 := fun z => m1_ich (z ▸ hw)
  have rst : ∀ (C : (Nat → Int32) → Prop), (∀ sn, Wst n [] wt0 sn → C sn) → ∀ r i (sn : Nat → Int32), i + r = n → (∀ j, j < i → sn j = 0) → w_X4_wouldGive_3 post C (nI n) (r + 1) (nI i) sn := by
    intro C hC r
    induction r with
    | zero =>
      intro i sn hi q
      obtain rfl : i = n := by omega
      refine ⟨fun _ => hC sn ⟨fun i hi => absurd hi (Nat.not_lt_zero i), ?_, fun j hj => ⟨fun _ => by simp, fun _ => q j hj⟩, fun j hj => nomatch hj⟩, fun z => absurd (Int32.le_refl _) z⟩
      rw [hs_z_0 i q]
      simp
    | succ r ih =>
      intro i sn hi q
      unfold w_X4_wouldGive_3
      rw [nI_1, nI_clamp (by omega : i < 2 ^ 31), nar_0]
      refine pk_le n i (fun z => absurd z (by omega)) (fun _ => ⟨pk_in i 120 (by omega), ih (i + 1) _ (by omega) (fun j hj => ?_)⟩)
      rw [pt_upd]
      split
      · rfl
      · exact q j (by omega)
  -- the rows that wait are followed
  have lp : ∀ r i (W : List Nat) (wt sn : Nat → Int32), i + r = n → Wst n W wt sn → i ≤ W.length → (∀ j ∈ W, rc ato n ch (pls fi se th) (pl a b c) (ch j)) → (∀ p ∈ pl a b c, ∀ x ∈ ato p, ¬ x = w ∧ ∀ j, j < n → ch j = x → j ∈ W) → (∀ k, k < i → ∀ p ∈ pls fi se th (W.getD k 0), ∀ x ∈ ato p, ¬ x = w ∧ ∀ j, j < n → ch j = x → j ∈ W) →
      w_X4_wouldGive_64 post ch fi se th sl w (r + 1) (nI i) (nI W.length) wt sn := by
    intro r
    have fin : ∀ i (W : List Nat), W.length ≤ i → (∀ p ∈ pl a b c, ∀ x ∈ ato p, ¬ x = w ∧ ∀ j, j < n → ch j = x → j ∈ W) → (∀ k, k < i → ∀ p ∈ pls fi se th (W.getD k 0), ∀ x ∈ ato p, ¬ x = w ∧ ∀ j, j < n → ch j = x → j ∈ W) → ∀ k wt sn, post 0 k wt sn := by
      intro i W hi q1 q2
      refine h0 (fun hrc => ?_)
      refine (hrc (fun x => ¬ x = w ∧ ∀ j, j < n → ch j = x → j ∈ W) q1 (fun j hj hT p hp x hx => ?_)).1 rfl
      have hjW := hT.2 j hj rfl
      obtain ⟨k, hk, hke⟩ := List.mem_iff_getElem.mp hjW
      have : W.getD k 0 = j := by rw [List.getD_eq_getElem?_getD, List.getElem?_eq_getElem hk, Option.getD_some, hke]
      exact q2 k (by omega) p (by rw [this]; exact hp) x hx
    induction r with
    | zero =>
      intro i W wt sn hi hW hle hR q1 q2
      have : W.length ≤ n := by have := hW.2.1; omega
      exact ⟨fun _ => fin i W (by omega) q1 q2 _ _ _, fun z => absurd ((nI_leI (by omega) (by omega)).mpr (by omega)) z⟩
    | succ r ih =>
      intro i W wt sn hi hW hle hR q1 q2
      have hWn : W.length ≤ n := by have := hW.2.1; omega
      unfold w_X4_wouldGive_64
      refine pk_le W.length i (fun z => fin i W z q1 q2 _ _ _) (fun z => pk_le 120 i (fun y => absurd y (by omega)) (fun _ => ?_))
      obtain ⟨j, hj⟩ : ∃ j, j = W.getD i 0 := ⟨_, rfl⟩
      have hwi : wt i = nI j := by rw [hj]; exact hW.1 i z
      have hjm : j ∈ W := by
        rw [hj, List.getD_eq_getElem?_getD, List.getElem?_eq_getElem z, Option.getD_some]
        exact List.getElem_mem z
      have hjn := hW.2.2.2 j hjm
      obtain ⟨-, -, r3, r4, r5, r6, -, -⟩ := hrow j hjn
      rw [nI_clamp (by omega : i < 2 ^ 31), hwi, nI_clamp (by omega : j < 2 ^ 31), nI_1]
      have vj : vp_in (nI j) 120 := pk_in j 120 (by omega)
      have hrj := hR j hjm
      have hat := fun x => at_3 (x := x) r6 (a := fi j)
      have rcx : ∀ x, ¬ x = -1 → x ∈ ato (fi j) ++ (ato (se j) ++ ato (th j)) → rc ato n ch (pls fi se th) (pl a b c) x := by
        intro x hx hm
        rcases (hat x).1 hm with z | ⟨p, hp, hxp⟩
        · exact absurd z hx
        · exact rc_row hjn hrj (rc_self hp hxp)
      have yes : w ∈ ato (fi j) ++ (ato (se j) ++ ato (th j)) → ∀ k wt sn, post 1 k wt sn := fun z => h1 (rcx w hw1 z)
      refine ⟨pk_in i 120 (by omega), vj, ?_⟩
      refine s_X4_follow hn hd hok hW (fun z k _ _ => n_1 (yes (List.mem_append_left _ z) _ _ _)) (fun z1 W1 wt1 sn1 hW1 hE1 => n_0 ⟨vj, ?_⟩)
      refine s_X4_follow hn hd hok hW1 (fun z k _ _ => n_1 (yes (List.mem_append_right _ (List.mem_append_left _ z)) _ _ _)) (fun z2 W2 wt2 sn2 hW2 hE2 => n_0 ⟨vj, ?_⟩)
      refine s_X4_follow hn hd hok hW2 (fun z k _ _ => c_1 (yes (List.mem_append_right _ (List.mem_append_right _ z)) _ _ _)) (fun z3 W3 wt3 sn3 hW3 hE3 => c_0 ?_)
      have hE := Wex_app hE1 (Wex_app hE2 hE3)
      obtain ⟨⟨E, rfl⟩, f2, f3⟩ := hE
      have hnw : ∀ x ∈ ato (fi j) ++ (ato (se j) ++ ato (th j)), ¬ x = w := by
        intro x hx e
        rw [e] at hx
        rcases List.mem_append.mp hx with z | z
        · exact z1 z
        · rcases List.mem_append.mp z with z | z
          · exact z2 z
          · exact z3 z
      have hgd : ∀ k, k < W.length → (W ++ E).getD k 0 = W.getD k 0 := by
        intro k hk
        rw [List.getD_eq_getElem?_getD, List.getD_eq_getElem?_getD, List.getElem?_append_left hk]
      refine ih (i + 1) (W ++ E) wt3 sn3 (by omega) hW3 (by rw [List.length_append]; omega) (fun k hk => ?_) (fun p hp x hx => ?_) (fun k hk p hp x hx => ?_)
      · rcases f3 k hk with q | q
        · exact hR k q
        · exact rcx _ (fun e => m1_ich (e ▸ (hrow k (hW3.2.2.2 k hk)).1)) q
      · obtain ⟨y1, y2⟩ := q1 p hp x hx
        exact ⟨y1, fun k hk hc => List.mem_append_left _ (y2 k hk hc)⟩
      · rcases Nat.lt_or_ge k i with hki | hki
        · rw [hgd k (by omega)] at hp
          obtain ⟨y1, y2⟩ := q2 k hki p hp x hx
          exact ⟨y1, fun k hk hc => List.mem_append_left _ (y2 k hk hc)⟩
        · obtain rfl : k = i := by omega
          rw [hgd k z, ← hj] at hp
          have hxm := (hat x).2 ⟨p, hp, hx⟩
          exact ⟨hnw x hxm, fun k hk hc => f2 x hxm k hk hc⟩
  refine ⟨n + 1, rst _ (fun sn hW => ?_) n 0 sn0 (by omega) (fun j hj => absurd hj (Nat.not_lt_zero j))⟩
  have hat := fun x => at_3 (x := x) hbc (a := a)
  have rcx : ∀ x, ¬ x = -1 → x ∈ ato a ++ (ato b ++ ato c) → rc ato n ch (pls fi se th) (pl a b c) x := by
    intro x hx hm
    rcases (hat x).1 hm with z | ⟨p, hp, hxp⟩
    · exact absurd z hx
    · exact rc_self hp hxp
  have yes : w ∈ ato a ++ (ato b ++ ato c) → ∀ k wt sn, post 1 k wt sn := fun z => h1 (rcx w hw1 z)
  have hfo := s_X4_follow (post := fun r1 k1 wt1 sn1 => ((¬ r1 = (0 : Int32) → post 1 k1 wt1 sn1) ∧ (r1 = (0 : Int32) → w_X4_follow (fun r2 k2 wt2 sn2 => ((¬ r2 = (0 : Int32) → post 1 k2 wt2 sn2) ∧ (r2 = (0 : Int32) → w_X4_follow (fun r3 k3 wt3 sn3 => ((r3 = (0 : Int32) → ∃ k64 : Nat, w_X4_wouldGive_64 post ch fi se th sl w k64 0 k3 wt3 sn3) ∧ (¬ r3 = (0 : Int32) → post 1 k3 wt3 sn3))) k2 ch sl wt2 sn2 w c))) k1 ch sl wt1 sn1 w b))) (w := w) (p := a) hn hd hok hW (fun z k _ _ => n_1 (yes (List.mem_append_left _ z) _ _ _)) (fun z1 W1 wt1 sn1 hW1 hE1 => n_0 ?_)
  · exact hfo
  refine s_X4_follow hn hd hok hW1 (fun z k _ _ => n_1 (yes (List.mem_append_right _ (List.mem_append_left _ z)) _ _ _)) (fun z2 W2 wt2 sn2 hW2 hE2 => n_0 ?_)
  refine s_X4_follow hn hd hok hW2 (fun z k _ _ => c_1 (yes (List.mem_append_right _ (List.mem_append_right _ z)) _ _ _)) (fun z3 W3 wt3 sn3 hW3 hE3 => c_0 ?_)
  obtain ⟨-, f2, f3⟩ := Wex_app hE1 (Wex_app hE2 hE3)
  have hnw : ∀ x ∈ ato a ++ (ato b ++ ato c), ¬ x = w := by
    intro x hx e
    rw [e] at hx
    rcases List.mem_append.mp hx with z | z
    · exact z1 z
    · rcases List.mem_append.mp z with z | z
      · exact z2 z
      · exact z3 z
  refine ⟨n + 1, lp n 0 W3 wt3 sn3 (by omega) hW3 (by omega) (fun k hk => ?_) (fun p hp x hx => ?_) (fun k hk => absurd hk (Nat.not_lt_zero k))⟩
  · rcases f3 k hk with q | q
    · exact nomatch q
    · exact rcx _ (fun e => m1_ich (e ▸ (hrow k (hW3.2.2.2 k hk)).1)) q
  · have hxm := (hat x).2 ⟨p, hp, hx⟩
    exact ⟨hnw x hxm, fun k hk hc => f2 x hxm k hk hc⟩
