set_option maxHeartbeats 4000000 in
set_option maxRecDepth 100000 in
theorem m_X4_readSyllable (l : Launch) (dC : Nat → ClassId) (dI : Nat → Nat → Nat) (cI cZ cJ : ClassId) (q_parts : Nat) (v_parts : Nat → Int32) (a1 : Int32) (sz : Nat) (post : Int32 → (Nat → Int32) → Prop) (h : w_X4_readSyllable post v_parts a1) : Met l yX4_readSyllable [.code yX4_readSyllable cX4_readSyllable 2 (some .int)] ({ frames := 1, cells := 0, slots := 0, locals := 20 } : Room) (va_Pc [.int a1, .ref q_parts] (fun U => U.heap.size = sz ∧ va_P (dC, dI) vwC [(q_parts, .inl (cI, 3, .inl v_parts))] U.heap ∧ KK dC dI cI cZ cJ U ∧ va_D (fun _ => True) [(q_parts, .inl (cI, 3, .inl v_parts))])) (va_Qi (fun (r : Int32) (u : (Nat → Int32)) => post r u) (fun (u : (Nat → Int32)) (t : State) => va_P (dC, dI) vwC [(q_parts, .inl (cI, 3, .inl u))] t.heap ∧ va_D (va_A [(q_parts, .inl (cI, 3, .inl v_parts))] sz) [(q_parts, .inl (cI, 3, .inl u))]) (va_A [(q_parts, .inl (cI, 3, .inl v_parts))] sz)) 0 0 (va_A [(q_parts, .inl (cI, 3, .inl v_parts))] sz) := by
  refine Met.ofW (cc := cX4_readSyllable) (maxL := 2) (ret := (some .int)) (by decide) rfl ?_
  intro p e s m args below meth c s₁ B hml hv
  obtain ⟨rfl, hsz, hP, hKK, hD0⟩ := hv
  have hK := hKK.1
  have hx := B.exec
  have hb := B.bytes
  have hr := B.returns
  have hts : ∀ w ∈ TG, w.before (List.toArray [.int a1, .ref q_parts]) s = true := hKK.ts
  have hown : s.vm.findClass RX4 = some m.cls := findClass_of_methodNamed B.named
  have hlocks := B.notSynchronized
  subst hsz
  have hD := hD0.self (sz := s.heap.size)
  generalize hAe : va_A [(q_parts, .inl (cI, 3, .inl v_parts))] s.heap.size = A at hD ⊢
  have hA : ∀ q : Nat, s.heap.size ≤ q → A q := fun q h => by rw [← hAe]; exact Or.inr h
  have hS : va_S A s.heap s.heap [] := va_S.rf
  have hl := lv_entry ([.int a1, .ref q_parts]) (n := 2) (Nat.le_of_ble_eq_true rfl)
  rw [lg_entry_eq]
  generalize (lg_sl ([.int a1, .ref q_parts]) ++ List.replicate (2 - (lg_sl ([.int a1, .ref q_parts])).length) Slot.unset).toArray = ls at hl ⊢
  have hl : lv_has ls 2 [(0, .int a1), (1, .ref q_parts)] := hl
  obtain ⟨QQ, hQQ⟩ : ∃ z, z = MQ below (va_Qi (fun (r : Int32) (u : (Nat → Int32)) => post r u) (fun (u : (Nat → Int32)) (t : State) => va_P (dC, dI) vwC [(q_parts, .inl (cI, 3, .inl u))] t.heap ∧ va_D A [(q_parts, .inl (cI, 3, .inl u))]) A) (List.toArray [.int a1, .ref q_parts]) s 0 0 A := ⟨_, rfl⟩
  rw [← hQQ]
  refine lv_iload_n hx hb dX4_readSyllable_0 rfl (lv_at hl 0 rfl) ?_
  have hPc := hP.sub (ws' := []) [] rfl
  refine na_calls (va_runSN (As := [.int a1]) (rest := []) ⟨hx, hb, hml, hown, hts⟩ (m_X5_hasTail l dC dI cI cZ cJ a1 _ h) ⟨va_cnB 1 hts (na_gC tw363 rfl) rfl rfl rfl (hKK.2.1 _ tw384) (hts _ tw13) (by decide +kernel) ⟨Nat.le_of_ble_eq_true rfl, Nat.le_of_ble_eq_true rfl⟩, hts _ tw362, trivial⟩ ⟨fun a U g mk q => by obtain ⟨q0, qP, qK⟩ := q; exact ⟨q0, qP, qK.same rfl⟩, fun U hU hW => ⟨rfl, by rw [hU]; exact hPc, hKK.warm hW⟩⟩ rfl rfl hl.1 rfl (lv_room (Nat.le_of_ble_eq_true rfl)) dX4_readSyllable_1 ⟨Nat.zero_le _, Nat.zero_le _⟩) (fun r_1 h => ?_)
  refine lv_if_eq (tgt := 24) hx hb dX4_readSyllable_4 (by decide) (fun c9 => ?_) (fun c9 => ?_)
  · replace h := h.1 c9
    refine lv_aload_n hx hb dX4_readSyllable_24 rfl (lv_at hl 1 rfl) ?_
    refine lv_iconst (v := (0 : Int32)) hx hb dX4_readSyllable_25 (by decide) ?_
    refine lv_iload_n hx hb dX4_readSyllable_26 rfl (lv_at hl 0 rfl) ?_
    have hPc := hP.sub (ws' := []) [] rfl
    refine na_calls (va_runSN (As := [.int a1]) (rest := [.int (0 : Int32), .ref q_parts]) ⟨hx, hb, hml, hown, hts⟩ (m_X5_lead l dC dI cI cZ cJ a1 _ h) ⟨va_cnB 1 hts (na_gC tw380 rfl) rfl rfl rfl (hKK.2.1 _ tw378) (hts _ tw13) (by decide +kernel) ⟨Nat.le_of_ble_eq_true rfl, Nat.le_of_ble_eq_true rfl⟩, hts _ tw379, trivial⟩ ⟨fun a U g mk q => by obtain ⟨q0, qP, qK⟩ := q; exact ⟨q0, qP, qK.same rfl⟩, fun U hU hW => ⟨rfl, by rw [hU]; exact hPc, hKK.warm hW⟩⟩ rfl rfl hl.1 rfl (lv_room (Nat.le_of_ble_eq_true rfl)) dX4_readSyllable_27 ⟨Nat.zero_le _, Nat.zero_le _⟩) (fun r_27 h => ?_)
    obtain ⟨hin, h⟩ := h
    refine va_iast hx hb hK hP hD hS 0 0 rfl rfl hin dX4_readSyllable_30 (fun H locs hP hD hS => ?_)
    have hP : va_P (dC, dI) vwC [(q_parts, .inl (cI, 3, .inl (upd v_parts (0 : Int32).toNatClampNeg r_27)))] H := hP
    have hD : va_D A [(q_parts, .inl (cI, 3, .inl (upd v_parts (0 : Int32).toNatClampNeg r_27)))] := hD
    refine lv_aload_n hx hb dX4_readSyllable_31 rfl (lv_at hl 1 rfl) ?_
    refine lv_iconst (v := (1 : Int32)) hx hb dX4_readSyllable_32 (by decide) ?_
    refine lv_iload_n hx hb dX4_readSyllable_33 rfl (lv_at hl 0 rfl) ?_
    have hPc := hP.sub (ws' := []) [] rfl
    refine na_calls (va_runSN (As := [.int a1]) (rest := [.int (1 : Int32), .ref q_parts]) ⟨hx, hb, hml, hown, hts⟩ (m_X5_vowel l dC dI cI cZ cJ a1 _ h) ⟨va_cnB 1 hts (na_gC tw383 rfl) rfl rfl rfl (hKK.2.1 _ tw381) (hts _ tw13) (by decide +kernel) ⟨Nat.le_of_ble_eq_true rfl, Nat.le_of_ble_eq_true rfl⟩, hts _ tw382, trivial⟩ ⟨fun a U g mk q => by obtain ⟨q0, qP, qK⟩ := q; exact ⟨q0, qP, qK.same rfl⟩, fun U hU hW => ⟨rfl, by rw [hU]; exact hPc, hKK.warm hW⟩⟩ rfl rfl hl.1 rfl (lv_room (Nat.le_of_ble_eq_true rfl)) dX4_readSyllable_34 ⟨Nat.zero_le _, Nat.zero_le _⟩) (fun r_34 h => ?_)
    obtain ⟨hin, h⟩ := h
    refine va_iast hx hb hK hP hD hS 0 0 rfl rfl hin dX4_readSyllable_37 (fun H locs hP hD hS => ?_)
    have hP : va_P (dC, dI) vwC [(q_parts, .inl (cI, 3, .inl (upd (upd v_parts (0 : Int32).toNatClampNeg r_27) (1 : Int32).toNatClampNeg r_34)))] H := hP
    have hD : va_D A [(q_parts, .inl (cI, 3, .inl (upd (upd v_parts (0 : Int32).toNatClampNeg r_27) (1 : Int32).toNatClampNeg r_34)))] := hD
    refine lv_iconst (v := (2 : Int32)) hx hb dX4_readSyllable_38 (by decide) ?_
    rw [hQQ]
    exact W.iret hx hb hr (fun t ht hW => ⟨⟨_, (upd (upd v_parts (0 : Int32).toNatClampNeg r_27) (1 : Int32).toNatClampNeg r_34), rfl, h, by rw [ht]; exact hP, hD⟩, hS.F ht⟩) hS.2.2 dX4_readSyllable_39
  · replace h := h.2 c9
    refine lv_aload_n hx hb dX4_readSyllable_7 rfl (lv_at hl 1 rfl) ?_
    refine lv_iconst (v := (0 : Int32)) hx hb dX4_readSyllable_8 (by decide) ?_
    refine lv_iload_n hx hb dX4_readSyllable_9 rfl (lv_at hl 0 rfl) ?_
    have hPc := hP.sub (ws' := []) [] rfl
    refine na_calls (va_runSN (As := [.int a1]) (rest := [.int (0 : Int32), .ref q_parts]) ⟨hx, hb, hml, hown, hts⟩ (m_X5_withoutTail l dC dI cI cZ cJ a1 _ h) ⟨va_cnB 1 hts (na_gC tw486 rfl) rfl rfl rfl (hKK.2.1 _ tw484) (hts _ tw13) (by decide +kernel) ⟨Nat.le_of_ble_eq_true rfl, Nat.le_of_ble_eq_true rfl⟩, hts _ tw485, trivial⟩ ⟨fun a U g mk q => by obtain ⟨q0, qP, qK⟩ := q; exact ⟨q0, qP, qK.same rfl⟩, fun U hU hW => ⟨rfl, by rw [hU]; exact hPc, hKK.warm hW⟩⟩ rfl rfl hl.1 rfl (lv_room (Nat.le_of_ble_eq_true rfl)) dX4_readSyllable_10 ⟨Nat.zero_le _, Nat.zero_le _⟩) (fun r_10 h => ?_)
    obtain ⟨hin, h⟩ := h
    refine va_iast hx hb hK hP hD hS 0 0 rfl rfl hin dX4_readSyllable_13 (fun H locs hP hD hS => ?_)
    have hP : va_P (dC, dI) vwC [(q_parts, .inl (cI, 3, .inl (upd v_parts (0 : Int32).toNatClampNeg r_10)))] H := hP
    have hD : va_D A [(q_parts, .inl (cI, 3, .inl (upd v_parts (0 : Int32).toNatClampNeg r_10)))] := hD
    refine lv_aload_n hx hb dX4_readSyllable_14 rfl (lv_at hl 1 rfl) ?_
    refine lv_iconst (v := (1 : Int32)) hx hb dX4_readSyllable_15 (by decide) ?_
    refine lv_iload_n hx hb dX4_readSyllable_16 rfl (lv_at hl 0 rfl) ?_
    have hPc := hP.sub (ws' := []) [] rfl
    refine na_calls (va_runSN (As := [.int a1]) (rest := [.int (1 : Int32), .ref q_parts]) ⟨hx, hb, hml, hown, hts⟩ (m_X5_tail l dC dI cI cZ cJ a1 _ h) ⟨va_cnB 1 hts (na_gC tw387 rfl) rfl rfl rfl (hKK.2.1 _ tw385) (hts _ tw13) (by decide +kernel) ⟨Nat.le_of_ble_eq_true rfl, Nat.le_of_ble_eq_true rfl⟩, hts _ tw386, trivial⟩ ⟨fun a U g mk q => by obtain ⟨q0, qP, qK⟩ := q; exact ⟨q0, qP, qK.same rfl⟩, fun U hU hW => ⟨rfl, by rw [hU]; exact hPc, hKK.warm hW⟩⟩ rfl rfl hl.1 rfl (lv_room (Nat.le_of_ble_eq_true rfl)) dX4_readSyllable_17 ⟨Nat.zero_le _, Nat.zero_le _⟩) (fun r_17 h => ?_)
    obtain ⟨hin, h⟩ := h
    refine va_iast hx hb hK hP hD hS 0 0 rfl rfl hin dX4_readSyllable_20 (fun H locs hP hD hS => ?_)
    have hP : va_P (dC, dI) vwC [(q_parts, .inl (cI, 3, .inl (upd (upd v_parts (0 : Int32).toNatClampNeg r_10) (1 : Int32).toNatClampNeg r_17)))] H := hP
    have hD : va_D A [(q_parts, .inl (cI, 3, .inl (upd (upd v_parts (0 : Int32).toNatClampNeg r_10) (1 : Int32).toNatClampNeg r_17)))] := hD
    refine lv_goto (tgt := 38) hx hb dX4_readSyllable_21 (by decide) ?_
    refine lv_iconst (v := (2 : Int32)) hx hb dX4_readSyllable_38 (by decide) ?_
    rw [hQQ]
    exact W.iret hx hb hr (fun t ht hW => ⟨⟨_, (upd (upd v_parts (0 : Int32).toNatClampNeg r_10) (1 : Int32).toNatClampNeg r_17), rfl, h, by rw [ht]; exact hP, hD⟩, hS.F ht⟩) hS.2.2 dX4_readSyllable_39
set_option maxHeartbeats 4000000 in
set_option maxRecDepth 100000 in
theorem m_X4_slotFor (l : Launch) (dC : Nat → ClassId) (dI : Nat → Nat → Nat) (cI cZ cJ : ClassId) (q_this : Nat) (q_characters : Nat) (q_firsts : Nat) (q_seconds : Nat) (q_thirds : Nat) (q_looses : Nat) (q_slots : Nat) (q_waiting : Nat) (q_seen : Nat) (v_count : Int32) (v_waitingCount : Int32) (v_characters : Nat → Int32) (v_firsts : Nat → Int32) (v_seconds : Nat → Int32) (v_thirds : Nat → Int32) (v_looses : Nat → Int32) (v_slots : Nat → Int32) (v_waiting : Nat → Int32) (v_seen : Nat → Int32) (a1 : Int32) (post : Int32 → Prop) (h : w_X4_slotFor post v_characters v_slots a1) : Met l yX4_slotFor [.code yX4_slotFor cX4_slotFor 5 (some .int)] ({ frames := 0, cells := 0, slots := 0, locals := 0 } : Room) (va_Pc [.ref q_this, .int a1] (fun U => va_P (dC, dI) vwC [(q_this, .inr (4, [.ref q_characters, .ref q_firsts, .ref q_seconds, .ref q_thirds, .ref q_looses, .int v_count, .ref q_slots, .ref q_waiting, .ref q_seen, .int v_waitingCount])), (q_characters, .inl (cI, 120, .inl v_characters)), (q_firsts, .inl (cI, 120, .inl v_firsts)), (q_seconds, .inl (cI, 120, .inl v_seconds)), (q_thirds, .inl (cI, 120, .inl v_thirds)), (q_looses, .inl (cZ, 120, .inl v_looses)), (q_slots, .inl (cI, 256, .inl v_slots)), (q_waiting, .inl (cI, 120, .inl v_waiting)), (q_seen, .inl (cZ, 120, .inl v_seen))] U.heap ∧ KK dC dI cI cZ cJ U)) (vp_Si post) 0 0 (fun _ => False) := by
  refine Met.ofW (cc := cX4_slotFor) (maxL := 5) (ret := (some .int)) (by decide) rfl ?_
  intro p e s m args below meth c s₁ B hml hv
  obtain ⟨rfl, hP, hKK⟩ := hv
  have hK := hKK.1
  have hx := B.exec
  have hb := B.bytes
  have hr := B.returns
  have hts : ∀ w ∈ TG, w.before (List.toArray [.ref q_this, .int a1]) s = true := hKK.ts
  have hown : s.vm.findClass RX4 = some m.cls := findClass_of_methodNamed B.named
  have hlocks := B.notSynchronized
  have hl := lv_entry ([.ref q_this, .int a1]) (n := 5) (Nat.le_of_ble_eq_true rfl)
  rw [lg_entry_eq]
  generalize (lg_sl ([.ref q_this, .int a1]) ++ List.replicate (5 - (lg_sl ([.ref q_this, .int a1])).length) Slot.unset).toArray = ls at hl ⊢
  have hl : lv_has ls 5 [(0, .ref q_this), (1, .int a1)] := hl
  obtain ⟨QQ, hQQ⟩ : ∃ z, z = MQ below (vp_Si post) (List.toArray [.ref q_this, .int a1]) s 0 0 (fun _ => False) := ⟨_, rfl⟩
  rw [← hQQ]
  have P8 : ∀ (n : Nat) (x2 : Int32) (x3 : Int32) , w_X4_slotFor_8 post v_characters v_slots a1 n x2 x3 → ∀ (ls : Array Slot), lv_has ls 5 [(0, .ref q_this), (1, .int a1), (2, .int x2), (3, .int x3)] → W p l e (headSpec [.code yX4_slotFor cX4_slotFor 5 (some .int)] ({ frames := 0, cells := 0, slots := 0, locals := 0 } : Room)).room s m (List.toArray [.ref q_this, .int a1]) below meth c s.heap [] 0 0 QQ (F0 m 8 ls []) := by
    intro  n
    induction n with
    | zero => intro x2 x3 h; exact h.elim
    | succ n ih =>
      intro x2 x3 h ls hl
      refine lv_iload_n hx hb dX4_slotFor_8 rfl (lv_at hl 3 rfl) ?_
      refine lv_sipush (v := (256 : Int32)) hx hb dX4_slotFor_9 (by decide) ?_
      refine lv_icmp_ge (tgt := 57) hx hb dX4_slotFor_12 (by decide) (fun c9 => ?_) (fun c9 => ?_)
      · replace h := h.1 c9
        refine lv_iload_n hx hb dX4_slotFor_57 rfl (lv_at hl 2 rfl) ?_
        rw [hQQ]
        exact W.iret hx hb hr (fun t ht hW => ⟨_, rfl, h, ht⟩) t_nil dX4_slotFor_58
      · replace h := h.2 c9
        refine lv_aload_n hx hb dX4_slotFor_15 rfl (lv_at hl 0 rfl) ?_
        refine va_get (D := (dC, dI)) (ci := 4) (v := .ref q_slots) (C := RX4) (T := TX4) (N := 10) hx hb hts inX4 hown hK hP 0 rfl rfl 6 (by decide) (hts _ tw56) (fun _ h9 => h9) rfl dX4_slotFor_16 ?_
        refine lv_iload_n hx hb dX4_slotFor_19 rfl (lv_at hl 2 rfl) ?_
        obtain ⟨hin, h⟩ := h
        refine va_iald hx hb hK hP 6 0 rfl rfl hin dX4_slotFor_20 ?_
        refine lv_iconst (v := (1 : Int32)) hx hb dX4_slotFor_21 (by decide) ?_
        refine lv_isub hx hb dX4_slotFor_22 ?_
        refine lv_istore (lv' := [(4, .int ((v_slots x2.toNatClampNeg) - (1 : Int32))), (0, .ref q_this), (1, .int a1), (2, .int x2), (3, .int x3)]) hx hb dX4_slotFor_23 hl (by decide) rfl (fun ls hl => ?_)
        refine lv_iload hx hb dX4_slotFor_25 (lv_at hl 0 rfl) ?_
        refine lv_if_lt (tgt := 41) hx hb dX4_slotFor_27 (by decide) (fun c9 => ?_) (fun c9 => ?_)
        · replace h := h.1 c9
          refine lv_iload_n hx hb dX4_slotFor_41 rfl (lv_at hl 3 rfl) ?_
          rw [hQQ]
          exact W.iret hx hb hr (fun t ht hW => ⟨_, rfl, h, ht⟩) t_nil dX4_slotFor_42
        · replace h := h.2 c9
          refine lv_aload_n hx hb dX4_slotFor_30 rfl (lv_at hl 1 rfl) ?_
          refine va_get (D := (dC, dI)) (ci := 4) (v := .ref q_characters) (C := RX4) (T := TX4) (N := 10) hx hb hts inX4 hown hK hP 0 rfl rfl 0 (by decide) (hts _ tw50) (fun _ h9 => h9) rfl dX4_slotFor_31 ?_
          refine lv_iload hx hb dX4_slotFor_34 (lv_at hl 0 rfl) ?_
          obtain ⟨hin, h⟩ := h
          refine va_iald hx hb hK hP 1 0 rfl rfl hin dX4_slotFor_36 ?_
          refine lv_iload_n hx hb dX4_slotFor_37 rfl (lv_at hl 2 rfl) ?_
          refine lv_icmp_ne (tgt := 43) hx hb dX4_slotFor_38 (by decide) (fun c9 => ?_) (fun c9 => ?_)
          · replace h := h.1 c9
            refine lv_iload_n hx hb dX4_slotFor_43 rfl (lv_at hl 3 rfl) ?_
            refine lv_iconst (v := (1 : Int32)) hx hb dX4_slotFor_44 (by decide) ?_
            refine lv_iadd hx hb dX4_slotFor_45 ?_
            refine lv_sipush (v := (255 : Int32)) hx hb dX4_slotFor_46 (by decide) ?_
            refine lv_iand hx hb dX4_slotFor_49 ?_
            refine lv_istore_n (lv' := [(2, .int ((x2 + (1 : Int32)) &&& (255 : Int32))), (4, .int ((v_slots x2.toNatClampNeg) - (1 : Int32))), (0, .ref q_this), (1, .int a1), (3, .int x3)]) hx hb dX4_slotFor_50 rfl hl (by decide) rfl (fun ls hl => ?_)
            refine lv_iinc (v := x3 + (1 : Int32)) (lv' := [(3, .int (x3 + (1 : Int32))), (2, .int ((x2 + (1 : Int32)) &&& (255 : Int32))), (4, .int ((v_slots x2.toNatClampNeg) - (1 : Int32))), (0, .ref q_this), (1, .int a1)]) hx hb dX4_slotFor_51 hl (k := 4) rfl rfl (by decide) rfl (fun ls hl => ?_)
            refine lv_goto (tgt := 8) hx hb dX4_slotFor_54 (by decide) ?_
            exact ih ((x2 + (1 : Int32)) &&& (255 : Int32)) (x3 + (1 : Int32)) h ls (lv_sub hl [3, 4, 1, 0] rfl)
          · replace h := h.2 c9
            refine lv_iload_n hx hb dX4_slotFor_41 rfl (lv_at hl 3 rfl) ?_
            rw [hQQ]
            exact W.iret hx hb hr (fun t ht hW => ⟨_, rfl, h, ht⟩) t_nil dX4_slotFor_42
  refine lv_iload_n hx hb dX4_slotFor_0 rfl (lv_at hl 1 rfl) ?_
  refine lv_sipush (v := (255 : Int32)) hx hb dX4_slotFor_1 (by decide) ?_
  refine lv_iand hx hb dX4_slotFor_4 ?_
  refine lv_istore_n (lv' := [(2, .int (a1 &&& (255 : Int32))), (0, .ref q_this), (1, .int a1)]) hx hb dX4_slotFor_5 rfl hl (by decide) rfl (fun ls hl => ?_)
  refine lv_iconst (v := (0 : Int32)) hx hb dX4_slotFor_6 (by decide) ?_
  refine lv_istore_n (lv' := [(3, .int (0 : Int32)), (2, .int (a1 &&& (255 : Int32))), (0, .ref q_this), (1, .int a1)]) hx hb dX4_slotFor_7 rfl hl (by decide) rfl (fun ls hl => ?_)
  obtain ⟨k8, h⟩ := h
  refine P8 k8 (a1 &&& (255 : Int32)) (0 : Int32) h ls (lv_sub hl [2, 3, 1, 0] rfl)
set_option maxHeartbeats 4000000 in
set_option maxRecDepth 100000 in
theorem m_X4_find (l : Launch) (dC : Nat → ClassId) (dI : Nat → Nat → Nat) (cI cZ cJ : ClassId) (q_this : Nat) (q_characters : Nat) (q_firsts : Nat) (q_seconds : Nat) (q_thirds : Nat) (q_looses : Nat) (q_slots : Nat) (q_waiting : Nat) (q_seen : Nat) (v_count : Int32) (v_waitingCount : Int32) (v_characters : Nat → Int32) (v_firsts : Nat → Int32) (v_seconds : Nat → Int32) (v_thirds : Nat → Int32) (v_looses : Nat → Int32) (v_slots : Nat → Int32) (v_waiting : Nat → Int32) (v_seen : Nat → Int32) (a1 : Int32) (post : Int32 → Prop) (h : w_X4_find post v_characters v_slots a1) : Met l yX4_find [.code yX4_find cX4_find 2 (some .int)] ({ frames := 1, cells := 0, slots := 0, locals := 24 } : Room) (va_Pc [.ref q_this, .int a1] (fun U => va_P (dC, dI) vwC [(q_this, .inr (4, [.ref q_characters, .ref q_firsts, .ref q_seconds, .ref q_thirds, .ref q_looses, .int v_count, .ref q_slots, .ref q_waiting, .ref q_seen, .int v_waitingCount])), (q_characters, .inl (cI, 120, .inl v_characters)), (q_firsts, .inl (cI, 120, .inl v_firsts)), (q_seconds, .inl (cI, 120, .inl v_seconds)), (q_thirds, .inl (cI, 120, .inl v_thirds)), (q_looses, .inl (cZ, 120, .inl v_looses)), (q_slots, .inl (cI, 256, .inl v_slots)), (q_waiting, .inl (cI, 120, .inl v_waiting)), (q_seen, .inl (cZ, 120, .inl v_seen))] U.heap ∧ KK dC dI cI cZ cJ U)) (vp_Si post) 0 0 (fun _ => False) := by
  refine Met.ofW (cc := cX4_find) (maxL := 2) (ret := (some .int)) (by decide) rfl ?_
  intro p e s m args below meth c s₁ B hml hv
  obtain ⟨rfl, hP, hKK⟩ := hv
  have hK := hKK.1
  have hx := B.exec
  have hb := B.bytes
  have hr := B.returns
  have hts : ∀ w ∈ TG, w.before (List.toArray [.ref q_this, .int a1]) s = true := hKK.ts
  have hown : s.vm.findClass RX4 = some m.cls := findClass_of_methodNamed B.named
  have hlocks := B.notSynchronized
  have hl := lv_entry ([.ref q_this, .int a1]) (n := 2) (Nat.le_of_ble_eq_true rfl)
  rw [lg_entry_eq]
  generalize (lg_sl ([.ref q_this, .int a1]) ++ List.replicate (2 - (lg_sl ([.ref q_this, .int a1])).length) Slot.unset).toArray = ls at hl ⊢
  have hl : lv_has ls 2 [(0, .ref q_this), (1, .int a1)] := hl
  obtain ⟨QQ, hQQ⟩ : ∃ z, z = MQ below (vp_Si post) (List.toArray [.ref q_this, .int a1]) s 0 0 (fun _ => False) := ⟨_, rfl⟩
  rw [← hQQ]
  refine lv_aload_n hx hb dX4_find_0 rfl (lv_at hl 0 rfl) ?_
  refine va_get (D := (dC, dI)) (ci := 4) (v := .ref q_slots) (C := RX4) (T := TX4) (N := 10) hx hb hts inX4 hown hK hP 0 rfl rfl 6 (by decide) (hts _ tw56) (fun _ h9 => h9) rfl dX4_find_1 ?_
  refine lv_aload_n hx hb dX4_find_4 rfl (lv_at hl 0 rfl) ?_
  refine lv_iload_n hx hb dX4_find_5 rfl (lv_at hl 1 rfl) ?_
  have hPc := hP.sub (ws' := [(q_this, .inr (4, [.ref q_characters, .ref q_firsts, .ref q_seconds, .ref q_thirds, .ref q_looses, .int v_count, .ref q_slots, .ref q_waiting, .ref q_seen, .int v_waitingCount])), (q_characters, .inl (cI, 120, .inl v_characters)), (q_firsts, .inl (cI, 120, .inl v_firsts)), (q_seconds, .inl (cI, 120, .inl v_seconds)), (q_thirds, .inl (cI, 120, .inl v_thirds)), (q_looses, .inl (cZ, 120, .inl v_looses)), (q_slots, .inl (cI, 256, .inl v_slots)), (q_waiting, .inl (cI, 120, .inl v_waiting)), (q_seen, .inl (cZ, 120, .inl v_seen))]) [0, 1, 2, 3, 4, 5, 6, 7, 8] rfl
  refine na_calls (va_runV (As := [.int a1]) (rest := [.ref q_slots]) ⟨hx, hb, hml, hown, hts⟩ (m_X4_slotFor l dC dI cI cZ cJ q_this q_characters q_firsts q_seconds q_thirds q_looses q_slots q_waiting q_seen v_count v_waitingCount v_characters v_firsts v_seconds v_thirds v_looses v_slots v_waiting v_seen a1 _ h) (cwV 1 hts (na_gV tw345 tw347 tp10 tw3 tw348 rfl) rfl rfl rfl (by decide +kernel) ⟨Nat.le_of_ble_eq_true rfl, Nat.le_of_ble_eq_true rfl⟩) ⟨fun a U g mk q => by obtain ⟨q0, qP, qK⟩ := q; exact ⟨q0, qP, qK.same rfl⟩, va_recv hK hPc (ci := 4) (q0 := 0) rfl rfl, fun U hU hW => ⟨rfl, by rw [hU]; exact hPc, hKK.warm hW⟩⟩ rfl rfl hl.1 rfl (lv_room (Nat.le_of_ble_eq_true rfl)) dX4_find_6 ⟨Nat.zero_le _, Nat.zero_le _⟩) (fun r_6 h => ?_)
  obtain ⟨hin, h⟩ := h
  refine va_iald hx hb hK hP 6 0 rfl rfl hin dX4_find_9 ?_
  refine lv_iconst (v := (1 : Int32)) hx hb dX4_find_10 (by decide) ?_
  refine lv_isub hx hb dX4_find_11 ?_
  rw [hQQ]
  exact W.iret hx hb hr (fun t ht hW => ⟨_, rfl, h, ht⟩) t_nil dX4_find_12
set_option maxHeartbeats 4000000 in
set_option maxRecDepth 100000 in
theorem m_X4_read (l : Launch) (dC : Nat → ClassId) (dI : Nat → Nat → Nat) (cI cZ cJ : ClassId) (q_this : Nat) (q_characters : Nat) (q_firsts : Nat) (q_seconds : Nat) (q_thirds : Nat) (q_looses : Nat) (q_slots : Nat) (q_waiting : Nat) (q_seen : Nat) (q_parts : Nat) (v_count : Int32) (v_waitingCount : Int32) (v_characters : Nat → Int32) (v_firsts : Nat → Int32) (v_seconds : Nat → Int32) (v_thirds : Nat → Int32) (v_looses : Nat → Int32) (v_slots : Nat → Int32) (v_waiting : Nat → Int32) (v_seen : Nat → Int32) (v_parts : Nat → Int32) (a1 : Int32) (a2 : Int32) (sz : Nat) (post : Int32 → (Nat → Int32) → Prop) (h : w_X4_read post v_characters v_firsts v_seconds v_thirds v_looses v_slots v_parts a1 a2) : Met l yX4_read [.code yX4_read cX4_read 5 (some .int)] ({ frames := 2, cells := 0, slots := 0, locals := 45 } : Room) (va_Pc [.ref q_this, .int a1, .int a2, .ref q_parts] (fun U => U.heap.size = sz ∧ va_P (dC, dI) vwC [(q_this, .inr (4, [.ref q_characters, .ref q_firsts, .ref q_seconds, .ref q_thirds, .ref q_looses, .int v_count, .ref q_slots, .ref q_waiting, .ref q_seen, .int v_waitingCount])), (q_characters, .inl (cI, 120, .inl v_characters)), (q_firsts, .inl (cI, 120, .inl v_firsts)), (q_seconds, .inl (cI, 120, .inl v_seconds)), (q_thirds, .inl (cI, 120, .inl v_thirds)), (q_looses, .inl (cZ, 120, .inl v_looses)), (q_slots, .inl (cI, 256, .inl v_slots)), (q_waiting, .inl (cI, 120, .inl v_waiting)), (q_seen, .inl (cZ, 120, .inl v_seen)), (q_parts, .inl (cI, 3, .inl v_parts))] U.heap ∧ KK dC dI cI cZ cJ U ∧ va_D (fun _ => True) [(q_this, .inr (4, [.ref q_characters, .ref q_firsts, .ref q_seconds, .ref q_thirds, .ref q_looses, .int v_count, .ref q_slots, .ref q_waiting, .ref q_seen, .int v_waitingCount])), (q_characters, .inl (cI, 120, .inl v_characters)), (q_firsts, .inl (cI, 120, .inl v_firsts)), (q_seconds, .inl (cI, 120, .inl v_seconds)), (q_thirds, .inl (cI, 120, .inl v_thirds)), (q_looses, .inl (cZ, 120, .inl v_looses)), (q_slots, .inl (cI, 256, .inl v_slots)), (q_waiting, .inl (cI, 120, .inl v_waiting)), (q_seen, .inl (cZ, 120, .inl v_seen)), (q_parts, .inl (cI, 3, .inl v_parts))])) (va_Qi (fun (r : Int32) (u : (Nat → Int32)) => post r u) (fun (u : (Nat → Int32)) (t : State) => va_P (dC, dI) vwC [(q_this, .inr (4, [.ref q_characters, .ref q_firsts, .ref q_seconds, .ref q_thirds, .ref q_looses, .int v_count, .ref q_slots, .ref q_waiting, .ref q_seen, .int v_waitingCount])), (q_characters, .inl (cI, 120, .inl v_characters)), (q_firsts, .inl (cI, 120, .inl v_firsts)), (q_seconds, .inl (cI, 120, .inl v_seconds)), (q_thirds, .inl (cI, 120, .inl v_thirds)), (q_looses, .inl (cZ, 120, .inl v_looses)), (q_slots, .inl (cI, 256, .inl v_slots)), (q_waiting, .inl (cI, 120, .inl v_waiting)), (q_seen, .inl (cZ, 120, .inl v_seen)), (q_parts, .inl (cI, 3, .inl u))] t.heap ∧ va_D (va_A [(q_this, .inr (4, [.ref q_characters, .ref q_firsts, .ref q_seconds, .ref q_thirds, .ref q_looses, .int v_count, .ref q_slots, .ref q_waiting, .ref q_seen, .int v_waitingCount])), (q_characters, .inl (cI, 120, .inl v_characters)), (q_firsts, .inl (cI, 120, .inl v_firsts)), (q_seconds, .inl (cI, 120, .inl v_seconds)), (q_thirds, .inl (cI, 120, .inl v_thirds)), (q_looses, .inl (cZ, 120, .inl v_looses)), (q_slots, .inl (cI, 256, .inl v_slots)), (q_waiting, .inl (cI, 120, .inl v_waiting)), (q_seen, .inl (cZ, 120, .inl v_seen)), (q_parts, .inl (cI, 3, .inl v_parts))] sz) [(q_this, .inr (4, [.ref q_characters, .ref q_firsts, .ref q_seconds, .ref q_thirds, .ref q_looses, .int v_count, .ref q_slots, .ref q_waiting, .ref q_seen, .int v_waitingCount])), (q_characters, .inl (cI, 120, .inl v_characters)), (q_firsts, .inl (cI, 120, .inl v_firsts)), (q_seconds, .inl (cI, 120, .inl v_seconds)), (q_thirds, .inl (cI, 120, .inl v_thirds)), (q_looses, .inl (cZ, 120, .inl v_looses)), (q_slots, .inl (cI, 256, .inl v_slots)), (q_waiting, .inl (cI, 120, .inl v_waiting)), (q_seen, .inl (cZ, 120, .inl v_seen)), (q_parts, .inl (cI, 3, .inl u))]) (va_A [(q_this, .inr (4, [.ref q_characters, .ref q_firsts, .ref q_seconds, .ref q_thirds, .ref q_looses, .int v_count, .ref q_slots, .ref q_waiting, .ref q_seen, .int v_waitingCount])), (q_characters, .inl (cI, 120, .inl v_characters)), (q_firsts, .inl (cI, 120, .inl v_firsts)), (q_seconds, .inl (cI, 120, .inl v_seconds)), (q_thirds, .inl (cI, 120, .inl v_thirds)), (q_looses, .inl (cZ, 120, .inl v_looses)), (q_slots, .inl (cI, 256, .inl v_slots)), (q_waiting, .inl (cI, 120, .inl v_waiting)), (q_seen, .inl (cZ, 120, .inl v_seen)), (q_parts, .inl (cI, 3, .inl v_parts))] sz)) 0 0 (va_A [(q_this, .inr (4, [.ref q_characters, .ref q_firsts, .ref q_seconds, .ref q_thirds, .ref q_looses, .int v_count, .ref q_slots, .ref q_waiting, .ref q_seen, .int v_waitingCount])), (q_characters, .inl (cI, 120, .inl v_characters)), (q_firsts, .inl (cI, 120, .inl v_firsts)), (q_seconds, .inl (cI, 120, .inl v_seconds)), (q_thirds, .inl (cI, 120, .inl v_thirds)), (q_looses, .inl (cZ, 120, .inl v_looses)), (q_slots, .inl (cI, 256, .inl v_slots)), (q_waiting, .inl (cI, 120, .inl v_waiting)), (q_seen, .inl (cZ, 120, .inl v_seen)), (q_parts, .inl (cI, 3, .inl v_parts))] sz) := by
  refine Met.ofW (cc := cX4_read) (maxL := 5) (ret := (some .int)) (by decide) rfl ?_
  intro p e s m args below meth c s₁ B hml hv
  obtain ⟨rfl, hsz, hP, hKK, hD0⟩ := hv
  have hK := hKK.1
  have hx := B.exec
  have hb := B.bytes
  have hr := B.returns
  have hts : ∀ w ∈ TG, w.before (List.toArray [.ref q_this, .int a1, .int a2, .ref q_parts]) s = true := hKK.ts
  have hown : s.vm.findClass RX4 = some m.cls := findClass_of_methodNamed B.named
  have hlocks := B.notSynchronized
  subst hsz
  have hD := hD0.self (sz := s.heap.size)
  generalize hAe : va_A [(q_this, .inr (4, [.ref q_characters, .ref q_firsts, .ref q_seconds, .ref q_thirds, .ref q_looses, .int v_count, .ref q_slots, .ref q_waiting, .ref q_seen, .int v_waitingCount])), (q_characters, .inl (cI, 120, .inl v_characters)), (q_firsts, .inl (cI, 120, .inl v_firsts)), (q_seconds, .inl (cI, 120, .inl v_seconds)), (q_thirds, .inl (cI, 120, .inl v_thirds)), (q_looses, .inl (cZ, 120, .inl v_looses)), (q_slots, .inl (cI, 256, .inl v_slots)), (q_waiting, .inl (cI, 120, .inl v_waiting)), (q_seen, .inl (cZ, 120, .inl v_seen)), (q_parts, .inl (cI, 3, .inl v_parts))] s.heap.size = A at hD ⊢
  have hA : ∀ q : Nat, s.heap.size ≤ q → A q := fun q h => by rw [← hAe]; exact Or.inr h
  have hS : va_S A s.heap s.heap [] := va_S.rf
  have hl := lv_entry ([.ref q_this, .int a1, .int a2, .ref q_parts]) (n := 5) (Nat.le_of_ble_eq_true rfl)
  rw [lg_entry_eq]
  generalize (lg_sl ([.ref q_this, .int a1, .int a2, .ref q_parts]) ++ List.replicate (5 - (lg_sl ([.ref q_this, .int a1, .int a2, .ref q_parts])).length) Slot.unset).toArray = ls at hl ⊢
  have hl : lv_has ls 5 [(0, .ref q_this), (1, .int a1), (2, .int a2), (3, .ref q_parts)] := hl
  obtain ⟨QQ, hQQ⟩ : ∃ z, z = MQ below (va_Qi (fun (r : Int32) (u : (Nat → Int32)) => post r u) (fun (u : (Nat → Int32)) (t : State) => va_P (dC, dI) vwC [(q_this, .inr (4, [.ref q_characters, .ref q_firsts, .ref q_seconds, .ref q_thirds, .ref q_looses, .int v_count, .ref q_slots, .ref q_waiting, .ref q_seen, .int v_waitingCount])), (q_characters, .inl (cI, 120, .inl v_characters)), (q_firsts, .inl (cI, 120, .inl v_firsts)), (q_seconds, .inl (cI, 120, .inl v_seconds)), (q_thirds, .inl (cI, 120, .inl v_thirds)), (q_looses, .inl (cZ, 120, .inl v_looses)), (q_slots, .inl (cI, 256, .inl v_slots)), (q_waiting, .inl (cI, 120, .inl v_waiting)), (q_seen, .inl (cZ, 120, .inl v_seen)), (q_parts, .inl (cI, 3, .inl u))] t.heap ∧ va_D A [(q_this, .inr (4, [.ref q_characters, .ref q_firsts, .ref q_seconds, .ref q_thirds, .ref q_looses, .int v_count, .ref q_slots, .ref q_waiting, .ref q_seen, .int v_waitingCount])), (q_characters, .inl (cI, 120, .inl v_characters)), (q_firsts, .inl (cI, 120, .inl v_firsts)), (q_seconds, .inl (cI, 120, .inl v_seconds)), (q_thirds, .inl (cI, 120, .inl v_thirds)), (q_looses, .inl (cZ, 120, .inl v_looses)), (q_slots, .inl (cI, 256, .inl v_slots)), (q_waiting, .inl (cI, 120, .inl v_waiting)), (q_seen, .inl (cZ, 120, .inl v_seen)), (q_parts, .inl (cI, 3, .inl u))]) A) (List.toArray [.ref q_this, .int a1, .int a2, .ref q_parts]) s 0 0 A := ⟨_, rfl⟩
  rw [← hQQ]
  have P41 : ∀ (x4 : Int32) (v_parts : Nat → Int32) , w_X4_read_41 post v_firsts v_seconds v_thirds v_parts x4 → ∀ (H : Heap) (locs : List Loc), va_P (dC, dI) vwC [(q_this, .inr (4, [.ref q_characters, .ref q_firsts, .ref q_seconds, .ref q_thirds, .ref q_looses, .int v_count, .ref q_slots, .ref q_waiting, .ref q_seen, .int v_waitingCount])), (q_characters, .inl (cI, 120, .inl v_characters)), (q_firsts, .inl (cI, 120, .inl v_firsts)), (q_seconds, .inl (cI, 120, .inl v_seconds)), (q_thirds, .inl (cI, 120, .inl v_thirds)), (q_looses, .inl (cZ, 120, .inl v_looses)), (q_slots, .inl (cI, 256, .inl v_slots)), (q_waiting, .inl (cI, 120, .inl v_waiting)), (q_seen, .inl (cZ, 120, .inl v_seen)), (q_parts, .inl (cI, 3, .inl v_parts))] H → va_D A [(q_this, .inr (4, [.ref q_characters, .ref q_firsts, .ref q_seconds, .ref q_thirds, .ref q_looses, .int v_count, .ref q_slots, .ref q_waiting, .ref q_seen, .int v_waitingCount])), (q_characters, .inl (cI, 120, .inl v_characters)), (q_firsts, .inl (cI, 120, .inl v_firsts)), (q_seconds, .inl (cI, 120, .inl v_seconds)), (q_thirds, .inl (cI, 120, .inl v_thirds)), (q_looses, .inl (cZ, 120, .inl v_looses)), (q_slots, .inl (cI, 256, .inl v_slots)), (q_waiting, .inl (cI, 120, .inl v_waiting)), (q_seen, .inl (cZ, 120, .inl v_seen)), (q_parts, .inl (cI, 3, .inl v_parts))] → va_S A s.heap H locs → ∀ (ls : Array Slot), lv_has ls 5 [(0, .ref q_this), (3, .ref q_parts), (4, .int x4)] → W p l e (headSpec [.code yX4_read cX4_read 5 (some .int)] ({ frames := 2, cells := 0, slots := 0, locals := 45 } : Room)).room s m (List.toArray [.ref q_this, .int a1, .int a2, .ref q_parts]) below meth c H locs 0 0 QQ (F0 m 41 ls []) := by
    intro x4 v_parts h H locs hP hD hS ls hl
    refine lv_aload_n hx hb dX4_read_41 rfl (lv_at hl 1 rfl) ?_
    refine lv_iconst (v := (0 : Int32)) hx hb dX4_read_42 (by decide) ?_
    refine lv_aload_n hx hb dX4_read_43 rfl (lv_at hl 0 rfl) ?_
    refine va_get (D := (dC, dI)) (ci := 4) (v := .ref q_firsts) (C := RX4) (T := TX4) (N := 10) hx hb hts inX4 hown hK hP 0 rfl rfl 1 (by decide) (hts _ tw51) (fun _ h9 => h9) rfl dX4_read_44 ?_
    refine lv_iload hx hb dX4_read_47 (lv_at hl 2 rfl) ?_
    obtain ⟨hin, h⟩ := h
    refine va_iald hx hb hK hP 2 0 rfl rfl hin dX4_read_49 ?_
    obtain ⟨hin, h⟩ := h
    refine va_iast hx hb hK hP hD hS 9 0 rfl rfl hin dX4_read_50 (fun H locs hP hD hS => ?_)
    have hP : va_P (dC, dI) vwC [(q_this, .inr (4, [.ref q_characters, .ref q_firsts, .ref q_seconds, .ref q_thirds, .ref q_looses, .int v_count, .ref q_slots, .ref q_waiting, .ref q_seen, .int v_waitingCount])), (q_characters, .inl (cI, 120, .inl v_characters)), (q_firsts, .inl (cI, 120, .inl v_firsts)), (q_seconds, .inl (cI, 120, .inl v_seconds)), (q_thirds, .inl (cI, 120, .inl v_thirds)), (q_looses, .inl (cZ, 120, .inl v_looses)), (q_slots, .inl (cI, 256, .inl v_slots)), (q_waiting, .inl (cI, 120, .inl v_waiting)), (q_seen, .inl (cZ, 120, .inl v_seen)), (q_parts, .inl (cI, 3, .inl (upd v_parts (0 : Int32).toNatClampNeg (v_firsts x4.toNatClampNeg))))] H := hP
    have hD : va_D A [(q_this, .inr (4, [.ref q_characters, .ref q_firsts, .ref q_seconds, .ref q_thirds, .ref q_looses, .int v_count, .ref q_slots, .ref q_waiting, .ref q_seen, .int v_waitingCount])), (q_characters, .inl (cI, 120, .inl v_characters)), (q_firsts, .inl (cI, 120, .inl v_firsts)), (q_seconds, .inl (cI, 120, .inl v_seconds)), (q_thirds, .inl (cI, 120, .inl v_thirds)), (q_looses, .inl (cZ, 120, .inl v_looses)), (q_slots, .inl (cI, 256, .inl v_slots)), (q_waiting, .inl (cI, 120, .inl v_waiting)), (q_seen, .inl (cZ, 120, .inl v_seen)), (q_parts, .inl (cI, 3, .inl (upd v_parts (0 : Int32).toNatClampNeg (v_firsts x4.toNatClampNeg))))] := hD
    refine lv_aload_n hx hb dX4_read_51 rfl (lv_at hl 1 rfl) ?_
    refine lv_iconst (v := (1 : Int32)) hx hb dX4_read_52 (by decide) ?_
    refine lv_aload_n hx hb dX4_read_53 rfl (lv_at hl 0 rfl) ?_
    refine va_get (D := (dC, dI)) (ci := 4) (v := .ref q_seconds) (C := RX4) (T := TX4) (N := 10) hx hb hts inX4 hown hK hP 0 rfl rfl 2 (by decide) (hts _ tw52) (fun _ h9 => h9) rfl dX4_read_54 ?_
    refine lv_iload hx hb dX4_read_57 (lv_at hl 2 rfl) ?_
    obtain ⟨hin, h⟩ := h
    refine va_iald hx hb hK hP 3 0 rfl rfl hin dX4_read_59 ?_
    obtain ⟨hin, h⟩ := h
    refine va_iast hx hb hK hP hD hS 9 0 rfl rfl hin dX4_read_60 (fun H locs hP hD hS => ?_)
    have hP : va_P (dC, dI) vwC [(q_this, .inr (4, [.ref q_characters, .ref q_firsts, .ref q_seconds, .ref q_thirds, .ref q_looses, .int v_count, .ref q_slots, .ref q_waiting, .ref q_seen, .int v_waitingCount])), (q_characters, .inl (cI, 120, .inl v_characters)), (q_firsts, .inl (cI, 120, .inl v_firsts)), (q_seconds, .inl (cI, 120, .inl v_seconds)), (q_thirds, .inl (cI, 120, .inl v_thirds)), (q_looses, .inl (cZ, 120, .inl v_looses)), (q_slots, .inl (cI, 256, .inl v_slots)), (q_waiting, .inl (cI, 120, .inl v_waiting)), (q_seen, .inl (cZ, 120, .inl v_seen)), (q_parts, .inl (cI, 3, .inl (upd (upd v_parts (0 : Int32).toNatClampNeg (v_firsts x4.toNatClampNeg)) (1 : Int32).toNatClampNeg (v_seconds x4.toNatClampNeg))))] H := hP
    have hD : va_D A [(q_this, .inr (4, [.ref q_characters, .ref q_firsts, .ref q_seconds, .ref q_thirds, .ref q_looses, .int v_count, .ref q_slots, .ref q_waiting, .ref q_seen, .int v_waitingCount])), (q_characters, .inl (cI, 120, .inl v_characters)), (q_firsts, .inl (cI, 120, .inl v_firsts)), (q_seconds, .inl (cI, 120, .inl v_seconds)), (q_thirds, .inl (cI, 120, .inl v_thirds)), (q_looses, .inl (cZ, 120, .inl v_looses)), (q_slots, .inl (cI, 256, .inl v_slots)), (q_waiting, .inl (cI, 120, .inl v_waiting)), (q_seen, .inl (cZ, 120, .inl v_seen)), (q_parts, .inl (cI, 3, .inl (upd (upd v_parts (0 : Int32).toNatClampNeg (v_firsts x4.toNatClampNeg)) (1 : Int32).toNatClampNeg (v_seconds x4.toNatClampNeg))))] := hD
    refine lv_aload_n hx hb dX4_read_61 rfl (lv_at hl 1 rfl) ?_
    refine lv_iconst (v := (2 : Int32)) hx hb dX4_read_62 (by decide) ?_
    refine lv_aload_n hx hb dX4_read_63 rfl (lv_at hl 0 rfl) ?_
    refine va_get (D := (dC, dI)) (ci := 4) (v := .ref q_thirds) (C := RX4) (T := TX4) (N := 10) hx hb hts inX4 hown hK hP 0 rfl rfl 3 (by decide) (hts _ tw53) (fun _ h9 => h9) rfl dX4_read_64 ?_
    refine lv_iload hx hb dX4_read_67 (lv_at hl 2 rfl) ?_
    obtain ⟨hin, h⟩ := h
    refine va_iald hx hb hK hP 4 0 rfl rfl hin dX4_read_69 ?_
    obtain ⟨hin, h⟩ := h
    refine va_iast hx hb hK hP hD hS 9 0 rfl rfl hin dX4_read_70 (fun H locs hP hD hS => ?_)
    have hP : va_P (dC, dI) vwC [(q_this, .inr (4, [.ref q_characters, .ref q_firsts, .ref q_seconds, .ref q_thirds, .ref q_looses, .int v_count, .ref q_slots, .ref q_waiting, .ref q_seen, .int v_waitingCount])), (q_characters, .inl (cI, 120, .inl v_characters)), (q_firsts, .inl (cI, 120, .inl v_firsts)), (q_seconds, .inl (cI, 120, .inl v_seconds)), (q_thirds, .inl (cI, 120, .inl v_thirds)), (q_looses, .inl (cZ, 120, .inl v_looses)), (q_slots, .inl (cI, 256, .inl v_slots)), (q_waiting, .inl (cI, 120, .inl v_waiting)), (q_seen, .inl (cZ, 120, .inl v_seen)), (q_parts, .inl (cI, 3, .inl (upd (upd (upd v_parts (0 : Int32).toNatClampNeg (v_firsts x4.toNatClampNeg)) (1 : Int32).toNatClampNeg (v_seconds x4.toNatClampNeg)) (2 : Int32).toNatClampNeg (v_thirds x4.toNatClampNeg))))] H := hP
    have hD : va_D A [(q_this, .inr (4, [.ref q_characters, .ref q_firsts, .ref q_seconds, .ref q_thirds, .ref q_looses, .int v_count, .ref q_slots, .ref q_waiting, .ref q_seen, .int v_waitingCount])), (q_characters, .inl (cI, 120, .inl v_characters)), (q_firsts, .inl (cI, 120, .inl v_firsts)), (q_seconds, .inl (cI, 120, .inl v_seconds)), (q_thirds, .inl (cI, 120, .inl v_thirds)), (q_looses, .inl (cZ, 120, .inl v_looses)), (q_slots, .inl (cI, 256, .inl v_slots)), (q_waiting, .inl (cI, 120, .inl v_waiting)), (q_seen, .inl (cZ, 120, .inl v_seen)), (q_parts, .inl (cI, 3, .inl (upd (upd (upd v_parts (0 : Int32).toNatClampNeg (v_firsts x4.toNatClampNeg)) (1 : Int32).toNatClampNeg (v_seconds x4.toNatClampNeg)) (2 : Int32).toNatClampNeg (v_thirds x4.toNatClampNeg))))] := hD
    refine lv_aload_n hx hb dX4_read_71 rfl (lv_at hl 0 rfl) ?_
    refine va_get (D := (dC, dI)) (ci := 4) (v := .ref q_seconds) (C := RX4) (T := TX4) (N := 10) hx hb hts inX4 hown hK hP 0 rfl rfl 2 (by decide) (hts _ tw52) (fun _ h9 => h9) rfl dX4_read_72 ?_
    refine lv_iload hx hb dX4_read_75 (lv_at hl 2 rfl) ?_
    obtain ⟨hin, h⟩ := h
    refine va_iald hx hb hK hP 3 0 rfl rfl hin dX4_read_77 ?_
    refine lv_iconst (v := (-1 : Int32)) hx hb dX4_read_78 (by decide) ?_
    refine lv_icmp_ne (tgt := 84) hx hb dX4_read_79 (by decide) (fun c9 => ?_) (fun c9 => ?_)
    · replace h := h.1 c9
      refine lv_aload_n hx hb dX4_read_84 rfl (lv_at hl 0 rfl) ?_
      refine va_get (D := (dC, dI)) (ci := 4) (v := .ref q_thirds) (C := RX4) (T := TX4) (N := 10) hx hb hts inX4 hown hK hP 0 rfl rfl 3 (by decide) (hts _ tw53) (fun _ h9 => h9) rfl dX4_read_85 ?_
      refine lv_iload hx hb dX4_read_88 (lv_at hl 2 rfl) ?_
      obtain ⟨hin, h⟩ := h
      refine va_iald hx hb hK hP 4 0 rfl rfl hin dX4_read_90 ?_
      refine lv_iconst (v := (-1 : Int32)) hx hb dX4_read_91 (by decide) ?_
      refine lv_icmp_ne (tgt := 99) hx hb dX4_read_92 (by decide) (fun c9 => ?_) (fun c9 => ?_)
      · replace h := h.1 c9
        refine lv_iconst (v := (3 : Int32)) hx hb dX4_read_99 (by decide) ?_
        rw [hQQ]
        exact W.iret hx hb hr (fun t ht hW => ⟨⟨_, (upd (upd (upd v_parts (0 : Int32).toNatClampNeg (v_firsts x4.toNatClampNeg)) (1 : Int32).toNatClampNeg (v_seconds x4.toNatClampNeg)) (2 : Int32).toNatClampNeg (v_thirds x4.toNatClampNeg)), rfl, h, by rw [ht]; exact hP, hD⟩, hS.F ht⟩) hS.2.2 dX4_read_100
      · replace h := h.2 c9
        refine lv_iconst (v := (2 : Int32)) hx hb dX4_read_95 (by decide) ?_
        refine lv_goto (tgt := 100) hx hb dX4_read_96 (by decide) ?_
        rw [hQQ]
        exact W.iret hx hb hr (fun t ht hW => ⟨⟨_, (upd (upd (upd v_parts (0 : Int32).toNatClampNeg (v_firsts x4.toNatClampNeg)) (1 : Int32).toNatClampNeg (v_seconds x4.toNatClampNeg)) (2 : Int32).toNatClampNeg (v_thirds x4.toNatClampNeg)), rfl, h, by rw [ht]; exact hP, hD⟩, hS.F ht⟩) hS.2.2 dX4_read_100
    · replace h := h.2 c9
      refine lv_iconst (v := (1 : Int32)) hx hb dX4_read_82 (by decide) ?_
      rw [hQQ]
      exact W.iret hx hb hr (fun t ht hW => ⟨⟨_, (upd (upd (upd v_parts (0 : Int32).toNatClampNeg (v_firsts x4.toNatClampNeg)) (1 : Int32).toNatClampNeg (v_seconds x4.toNatClampNeg)) (2 : Int32).toNatClampNeg (v_thirds x4.toNatClampNeg)), rfl, h, by rw [ht]; exact hP, hD⟩, hS.F ht⟩) hS.2.2 dX4_read_83
  refine lv_iload_n hx hb dX4_read_0 rfl (lv_at hl 1 rfl) ?_
  have hPc := hP.sub (ws' := []) [] rfl
  refine na_calls (va_runSN (As := [.int a1]) (rest := []) ⟨hx, hb, hml, hown, hts⟩ (m_X5_has l dC dI cI cZ cJ a1 _ h) ⟨va_cnB 1 hts (na_gC tw334 rfl) rfl rfl rfl (hKK.2.1 _ tw373) (hts _ tw13) (by decide +kernel) ⟨Nat.le_of_ble_eq_true rfl, Nat.le_of_ble_eq_true rfl⟩, hts _ tw333, trivial⟩ ⟨fun a U g mk q => by obtain ⟨q0, qP, qK⟩ := q; exact ⟨q0, qP, qK.same rfl⟩, fun U hU hW => ⟨rfl, by rw [hU]; exact hPc, hKK.warm hW⟩⟩ rfl rfl hl.1 rfl (lv_room (Nat.le_of_ble_eq_true rfl)) dX4_read_1 ⟨Nat.zero_le _, Nat.zero_le _⟩) (fun r_1 h => ?_)
  refine lv_if_eq (tgt := 13) hx hb dX4_read_4 (by decide) (fun c9 => ?_) (fun c9 => ?_)
  · replace h := h.1 c9
    refine lv_aload_n hx hb dX4_read_13 rfl (lv_at hl 0 rfl) ?_
    refine lv_iload_n hx hb dX4_read_14 rfl (lv_at hl 1 rfl) ?_
    have hPc := hP.sub (ws' := [(q_this, .inr (4, [.ref q_characters, .ref q_firsts, .ref q_seconds, .ref q_thirds, .ref q_looses, .int v_count, .ref q_slots, .ref q_waiting, .ref q_seen, .int v_waitingCount])), (q_characters, .inl (cI, 120, .inl v_characters)), (q_firsts, .inl (cI, 120, .inl v_firsts)), (q_seconds, .inl (cI, 120, .inl v_seconds)), (q_thirds, .inl (cI, 120, .inl v_thirds)), (q_looses, .inl (cZ, 120, .inl v_looses)), (q_slots, .inl (cI, 256, .inl v_slots)), (q_waiting, .inl (cI, 120, .inl v_waiting)), (q_seen, .inl (cZ, 120, .inl v_seen))]) [0, 1, 2, 3, 4, 5, 6, 7, 8] rfl
    refine na_calls (va_runV (As := [.int a1]) (rest := []) ⟨hx, hb, hml, hown, hts⟩ (m_X4_find l dC dI cI cZ cJ q_this q_characters q_firsts q_seconds q_thirds q_looses q_slots q_waiting q_seen v_count v_waitingCount v_characters v_firsts v_seconds v_thirds v_looses v_slots v_waiting v_seen a1 _ h) (cwV 1 hts (na_gV tw341 tw343 tp9 tw3 tw344 rfl) rfl rfl rfl (by decide +kernel) ⟨Nat.le_of_ble_eq_true rfl, Nat.le_of_ble_eq_true rfl⟩) ⟨fun a U g mk q => by obtain ⟨q0, qP, qK⟩ := q; exact ⟨q0, qP, qK.same rfl⟩, va_recv hK hPc (ci := 4) (q0 := 0) rfl rfl, fun U hU hW => ⟨rfl, by rw [hU]; exact hPc, hKK.warm hW⟩⟩ rfl rfl hl.1 rfl (lv_room (Nat.le_of_ble_eq_true rfl)) dX4_read_15 ⟨Nat.zero_le _, Nat.zero_le _⟩) (fun r_15 h => ?_)
    refine lv_istore (lv' := [(4, .int r_15), (0, .ref q_this), (1, .int a1), (2, .int a2), (3, .ref q_parts)]) hx hb dX4_read_18 hl (by decide) rfl (fun ls hl => ?_)
    refine lv_iload hx hb dX4_read_20 (lv_at hl 0 rfl) ?_
    refine lv_if_lt (tgt := 39) hx hb dX4_read_22 (by decide) (fun c9 => ?_) (fun c9 => ?_)
    · replace h := h.1 c9
      refine lv_iconst (v := (0 : Int32)) hx hb dX4_read_39 (by decide) ?_
      rw [hQQ]
      exact W.iret hx hb hr (fun t ht hW => ⟨⟨_, v_parts, rfl, h, by rw [ht]; exact hP, hD⟩, hS.F ht⟩) hS.2.2 dX4_read_40
    · replace h := h.2 c9
      refine lv_aload_n hx hb dX4_read_25 rfl (lv_at hl 1 rfl) ?_
      refine va_get (D := (dC, dI)) (ci := 4) (v := .ref q_looses) (C := RX4) (T := TX4) (N := 10) hx hb hts inX4 hown hK hP 0 rfl rfl 4 (by decide) (hts _ tw54) (fun _ h9 => h9) rfl dX4_read_26 ?_
      refine lv_iload hx hb dX4_read_29 (lv_at hl 0 rfl) ?_
      obtain ⟨hin, h⟩ := h
      refine va_zald hx hb hK hP 5 1 rfl rfl hin dX4_read_31 ?_
      refine lv_if_eq (tgt := 41) hx hb dX4_read_32 (by decide) (fun c9 => ?_) (fun c9 => ?_)
      · replace h := h.1 c9
        refine P41 r_15 v_parts h _ _ hP hD hS ls (lv_sub hl [1, 4, 0] rfl)
      · replace h := h.2 c9
        refine lv_iload_n hx hb dX4_read_35 rfl (lv_at hl 3 rfl) ?_
        refine lv_if_ne (tgt := 41) hx hb dX4_read_36 (by decide) (fun c9 => ?_) (fun c9 => ?_)
        · replace h := h.1 c9
          refine P41 r_15 v_parts h _ _ hP hD hS ls (lv_sub hl [1, 4, 0] rfl)
        · replace h := h.2 c9
          refine lv_iconst (v := (0 : Int32)) hx hb dX4_read_39 (by decide) ?_
          rw [hQQ]
          exact W.iret hx hb hr (fun t ht hW => ⟨⟨_, v_parts, rfl, h, by rw [ht]; exact hP, hD⟩, hS.F ht⟩) hS.2.2 dX4_read_40
  · replace h := h.2 c9
    refine lv_iload_n hx hb dX4_read_7 rfl (lv_at hl 1 rfl) ?_
    refine lv_aload_n hx hb dX4_read_8 rfl (lv_at hl 3 rfl) ?_
    have hPc := hP.sub (ws' := [(q_parts, .inl (cI, 3, .inl v_parts))]) [9] rfl
    have hDc := hD.sub (ws' := [(q_parts, .inl (cI, 3, .inl v_parts))]) [9] (by decide) rfl
    have hFc := va_free (wc := [(q_parts, .inl (cI, 3, .inl v_parts))]) hD hS hA [9] rfl
    refine va_calli (va_runS (As := [.int a1, .ref q_parts]) (rest := []) ⟨hx, hb, hml, hown, hts⟩ (m_X4_readSyllable l dC dI cI cZ cJ q_parts v_parts a1 s.heap.size _ h) (cwS 2 hts (na_gS tw481 tw482 tw3 tw483 rfl) rfl rfl rfl (by decide +kernel) ⟨Nat.le_of_ble_eq_true rfl, Nat.le_of_ble_eq_true rfl⟩) ⟨fun a U g mk q => by obtain ⟨q0, q1, qP, qK, qD⟩ := q; exact ⟨q0, q1, qP, qK.same rfl, qD⟩, fun U hU hW => ⟨rfl, by rw [hU], by rw [hU]; exact hPc, hKK.warm hW, hDc.weaken (fun _ _ _ _ => trivial)⟩⟩ rfl rfl hl.1 rfl (lv_room (Nat.le_of_ble_eq_true rfl)) dX4_read_9 ⟨Nat.zero_le _, Nat.zero_le _⟩) hS (fun q _ h => hFc q h) hFc (fun r_9 u t H1 locs ht hvm h hB hz1 hk1 hS => ?_)
    obtain ⟨v_parts_9, rfl⟩ : ∃ z, z = u := ⟨_, rfl⟩
    obtain ⟨hP1, hD1⟩ := hB
    rw [ht] at hP1
    try dsimp only at h hP1 hD1
    obtain ⟨hP, hD⟩ := va_join (wr := [(q_this, .inr (4, [.ref q_characters, .ref q_firsts, .ref q_seconds, .ref q_thirds, .ref q_looses, .int v_count, .ref q_slots, .ref q_waiting, .ref q_seen, .int v_waitingCount])), (q_characters, .inl (cI, 120, .inl v_characters)), (q_firsts, .inl (cI, 120, .inl v_firsts)), (q_seconds, .inl (cI, 120, .inl v_seconds)), (q_thirds, .inl (cI, 120, .inl v_thirds)), (q_looses, .inl (cZ, 120, .inl v_looses)), (q_slots, .inl (cI, 256, .inl v_slots)), (q_waiting, .inl (cI, 120, .inl v_waiting)), (q_seen, .inl (cZ, 120, .inl v_seen))]) (w1 := [(q_parts, .inl (cI, 3, .inl v_parts_9))]) hP hD [9] [0, 1, 2, 3, 4, 5, 6, 7, 8] rfl rfl (by decide) (by decide) hk1 hFc hP1 hD1
    generalize H1 = H at hP hS ⊢
    have hP : va_P (dC, dI) vwC [(q_this, .inr (4, [.ref q_characters, .ref q_firsts, .ref q_seconds, .ref q_thirds, .ref q_looses, .int v_count, .ref q_slots, .ref q_waiting, .ref q_seen, .int v_waitingCount])), (q_characters, .inl (cI, 120, .inl v_characters)), (q_firsts, .inl (cI, 120, .inl v_firsts)), (q_seconds, .inl (cI, 120, .inl v_seconds)), (q_thirds, .inl (cI, 120, .inl v_thirds)), (q_looses, .inl (cZ, 120, .inl v_looses)), (q_slots, .inl (cI, 256, .inl v_slots)), (q_waiting, .inl (cI, 120, .inl v_waiting)), (q_seen, .inl (cZ, 120, .inl v_seen)), (q_parts, .inl (cI, 3, .inl v_parts_9))] H := hP.sub [0, 1, 2, 3, 4, 5, 6, 7, 8, 9] rfl
    have hD : va_D A [(q_this, .inr (4, [.ref q_characters, .ref q_firsts, .ref q_seconds, .ref q_thirds, .ref q_looses, .int v_count, .ref q_slots, .ref q_waiting, .ref q_seen, .int v_waitingCount])), (q_characters, .inl (cI, 120, .inl v_characters)), (q_firsts, .inl (cI, 120, .inl v_firsts)), (q_seconds, .inl (cI, 120, .inl v_seconds)), (q_thirds, .inl (cI, 120, .inl v_thirds)), (q_looses, .inl (cZ, 120, .inl v_looses)), (q_slots, .inl (cI, 256, .inl v_slots)), (q_waiting, .inl (cI, 120, .inl v_waiting)), (q_seen, .inl (cZ, 120, .inl v_seen)), (q_parts, .inl (cI, 3, .inl v_parts_9))] := hD.sub [0, 1, 2, 3, 4, 5, 6, 7, 8, 9] (by decide) rfl
    rw [hQQ]
    exact W.iret hx hb hr (fun t ht hW => ⟨⟨_, v_parts_9, rfl, h, by rw [ht]; exact hP, hD⟩, hS.F ht⟩) hS.2.2 dX4_read_12
set_option maxHeartbeats 4000000 in
set_option maxRecDepth 100000 in
theorem m_X4_whole (l : Launch) (dC : Nat → ClassId) (dI : Nat → Nat → Nat) (cI cZ cJ : ClassId) (q_this : Nat) (q_characters : Nat) (q_firsts : Nat) (q_seconds : Nat) (q_thirds : Nat) (q_looses : Nat) (q_slots : Nat) (q_waiting : Nat) (q_seen : Nat) (v_count : Int32) (v_waitingCount : Int32) (v_characters : Nat → Int32) (v_firsts : Nat → Int32) (v_seconds : Nat → Int32) (v_thirds : Nat → Int32) (v_looses : Nat → Int32) (v_slots : Nat → Int32) (v_waiting : Nat → Int32) (v_seen : Nat → Int32) (a1 : Int32) (a2 : Int32) (post : Int32 → Prop) (h : w_X4_whole post v_count v_characters v_firsts v_seconds v_looses a1 a2) : Met l yX4_whole [.code yX4_whole cX4_whole 4 (some .int)] ({ frames := 2, cells := 0, slots := 0, locals := 44 } : Room) (va_Pc [.ref q_this, .int a1, .int a2] (fun U => va_P (dC, dI) vwC [(q_this, .inr (4, [.ref q_characters, .ref q_firsts, .ref q_seconds, .ref q_thirds, .ref q_looses, .int v_count, .ref q_slots, .ref q_waiting, .ref q_seen, .int v_waitingCount])), (q_characters, .inl (cI, 120, .inl v_characters)), (q_firsts, .inl (cI, 120, .inl v_firsts)), (q_seconds, .inl (cI, 120, .inl v_seconds)), (q_thirds, .inl (cI, 120, .inl v_thirds)), (q_looses, .inl (cZ, 120, .inl v_looses)), (q_slots, .inl (cI, 256, .inl v_slots)), (q_waiting, .inl (cI, 120, .inl v_waiting)), (q_seen, .inl (cZ, 120, .inl v_seen))] U.heap ∧ KK dC dI cI cZ cJ U)) (vp_Si post) 0 0 (fun _ => False) := by
  refine Met.ofW (cc := cX4_whole) (maxL := 4) (ret := (some .int)) (by decide) rfl ?_
  intro p e s m args below meth c s₁ B hml hv
  obtain ⟨rfl, hP, hKK⟩ := hv
  have hK := hKK.1
  have hx := B.exec
  have hb := B.bytes
  have hr := B.returns
  have hts : ∀ w ∈ TG, w.before (List.toArray [.ref q_this, .int a1, .int a2]) s = true := hKK.ts
  have hown : s.vm.findClass RX4 = some m.cls := findClass_of_methodNamed B.named
  have hlocks := B.notSynchronized
  have hl := lv_entry ([.ref q_this, .int a1, .int a2]) (n := 4) (Nat.le_of_ble_eq_true rfl)
  rw [lg_entry_eq]
  generalize (lg_sl ([.ref q_this, .int a1, .int a2]) ++ List.replicate (4 - (lg_sl ([.ref q_this, .int a1, .int a2])).length) Slot.unset).toArray = ls at hl ⊢
  have hl : lv_has ls 4 [(0, .ref q_this), (1, .int a1), (2, .int a2)] := hl
  obtain ⟨QQ, hQQ⟩ : ∃ z, z = MQ below (vp_Si post) (List.toArray [.ref q_this, .int a1, .int a2]) s 0 0 (fun _ => False) := ⟨_, rfl⟩
  rw [← hQQ]
  have P2 : ∀ (C52 : Prop) (hC52 : C52 → ∀ (ls : Array Slot), lv_has ls 4 [(0, .ref q_this), (1, .int a1), (2, .int a2)] → W p l e (headSpec [.code yX4_whole cX4_whole 4 (some .int)] ({ frames := 2, cells := 0, slots := 0, locals := 44 } : Room)).room s m (List.toArray [.ref q_this, .int a1, .int a2]) below meth c s.heap [] 0 0 QQ (F0 m 52 ls [])) (n : Nat) (x3 : Int32) , w_X4_whole_2 post C52 v_count v_characters v_firsts v_seconds v_looses a1 a2 n x3 → ∀ (ls : Array Slot), lv_has ls 4 [(0, .ref q_this), (1, .int a1), (2, .int a2), (3, .int x3)] → W p l e (headSpec [.code yX4_whole cX4_whole 4 (some .int)] ({ frames := 2, cells := 0, slots := 0, locals := 44 } : Room)).room s m (List.toArray [.ref q_this, .int a1, .int a2]) below meth c s.heap [] 0 0 QQ (F0 m 2 ls []) := by
    intro C52 hC52 n
    induction n with
    | zero => intro x3 h; exact h.elim
    | succ n ih =>
      intro x3 h ls hl
      refine lv_iload_n hx hb dX4_whole_2 rfl (lv_at hl 3 rfl) ?_
      refine lv_aload_n hx hb dX4_whole_3 rfl (lv_at hl 0 rfl) ?_
      refine va_get (D := (dC, dI)) (ci := 4) (v := .int v_count) (C := RX4) (T := TX4) (N := 10) hx hb hts inX4 hown hK hP 0 rfl rfl 5 (by decide) (hts _ tw55) (fun _ h9 => h9) rfl dX4_whole_4 ?_
      refine lv_icmp_ge (tgt := 52) hx hb dX4_whole_7 (by decide) (fun c9 => ?_) (fun c9 => ?_)
      · replace h := h.1 c9
        exact hC52 h ls (lv_sub hl [0, 1, 2] rfl)
      · replace h := h.2 c9
        refine lv_aload_n hx hb dX4_whole_10 rfl (lv_at hl 0 rfl) ?_
        refine va_get (D := (dC, dI)) (ci := 4) (v := .ref q_seconds) (C := RX4) (T := TX4) (N := 10) hx hb hts inX4 hown hK hP 0 rfl rfl 2 (by decide) (hts _ tw52) (fun _ h9 => h9) rfl dX4_whole_11 ?_
        refine lv_iload_n hx hb dX4_whole_14 rfl (lv_at hl 3 rfl) ?_
        obtain ⟨hin, h⟩ := h
        refine va_iald hx hb hK hP 3 0 rfl rfl hin dX4_whole_15 ?_
        refine lv_iload_n hx hb dX4_whole_16 rfl (lv_at hl 2 rfl) ?_
        refine lv_icmp_ne (tgt := 46) hx hb dX4_whole_17 (by decide) (fun c9 => ?_) (fun c9 => ?_)
        · replace h := h.1 c9
          refine lv_iinc (v := x3 + (1 : Int32)) (lv' := [(3, .int (x3 + (1 : Int32))), (0, .ref q_this), (1, .int a1), (2, .int a2)]) hx hb dX4_whole_46 hl (k := 3) rfl rfl (by decide) rfl (fun ls hl => ?_)
          refine lv_goto (tgt := 2) hx hb dX4_whole_49 (by decide) ?_
          exact ih (x3 + (1 : Int32)) h ls (lv_sub hl [1, 2, 3, 0] rfl)
        · replace h := h.2 c9
          refine lv_aload_n hx hb dX4_whole_20 rfl (lv_at hl 0 rfl) ?_
          refine va_get (D := (dC, dI)) (ci := 4) (v := .ref q_firsts) (C := RX4) (T := TX4) (N := 10) hx hb hts inX4 hown hK hP 0 rfl rfl 1 (by decide) (hts _ tw51) (fun _ h9 => h9) rfl dX4_whole_21 ?_
          refine lv_iload_n hx hb dX4_whole_24 rfl (lv_at hl 3 rfl) ?_
          obtain ⟨hin, h⟩ := h
          refine va_iald hx hb hK hP 2 0 rfl rfl hin dX4_whole_25 ?_
          refine lv_iload_n hx hb dX4_whole_26 rfl (lv_at hl 1 rfl) ?_
          refine lv_icmp_ne (tgt := 46) hx hb dX4_whole_27 (by decide) (fun c9 => ?_) (fun c9 => ?_)
          · replace h := h.1 c9
            refine lv_iinc (v := x3 + (1 : Int32)) (lv' := [(3, .int (x3 + (1 : Int32))), (0, .ref q_this), (1, .int a1), (2, .int a2)]) hx hb dX4_whole_46 hl (k := 3) rfl rfl (by decide) rfl (fun ls hl => ?_)
            refine lv_goto (tgt := 2) hx hb dX4_whole_49 (by decide) ?_
            exact ih (x3 + (1 : Int32)) h ls (lv_sub hl [1, 2, 3, 0] rfl)
          · replace h := h.2 c9
            refine lv_aload_n hx hb dX4_whole_30 rfl (lv_at hl 0 rfl) ?_
            refine va_get (D := (dC, dI)) (ci := 4) (v := .ref q_looses) (C := RX4) (T := TX4) (N := 10) hx hb hts inX4 hown hK hP 0 rfl rfl 4 (by decide) (hts _ tw54) (fun _ h9 => h9) rfl dX4_whole_31 ?_
            refine lv_iload_n hx hb dX4_whole_34 rfl (lv_at hl 3 rfl) ?_
            obtain ⟨hin, h⟩ := h
            refine va_zald hx hb hK hP 5 1 rfl rfl hin dX4_whole_35 ?_
            refine lv_if_ne (tgt := 46) hx hb dX4_whole_36 (by decide) (fun c9 => ?_) (fun c9 => ?_)
            · replace h := h.1 c9
              refine lv_iinc (v := x3 + (1 : Int32)) (lv' := [(3, .int (x3 + (1 : Int32))), (0, .ref q_this), (1, .int a1), (2, .int a2)]) hx hb dX4_whole_46 hl (k := 3) rfl rfl (by decide) rfl (fun ls hl => ?_)
              refine lv_goto (tgt := 2) hx hb dX4_whole_49 (by decide) ?_
              exact ih (x3 + (1 : Int32)) h ls (lv_sub hl [1, 2, 3, 0] rfl)
            · replace h := h.2 c9
              refine lv_aload_n hx hb dX4_whole_39 rfl (lv_at hl 0 rfl) ?_
              refine va_get (D := (dC, dI)) (ci := 4) (v := .ref q_characters) (C := RX4) (T := TX4) (N := 10) hx hb hts inX4 hown hK hP 0 rfl rfl 0 (by decide) (hts _ tw50) (fun _ h9 => h9) rfl dX4_whole_40 ?_
              refine lv_iload_n hx hb dX4_whole_43 rfl (lv_at hl 3 rfl) ?_
              obtain ⟨hin, h⟩ := h
              refine va_iald hx hb hK hP 1 0 rfl rfl hin dX4_whole_44 ?_
              rw [hQQ]
              exact W.iret hx hb hr (fun t ht hW => ⟨_, rfl, h, ht⟩) t_nil dX4_whole_45
  refine lv_iconst (v := (0 : Int32)) hx hb dX4_whole_0 (by decide) ?_
  refine lv_istore_n (lv' := [(3, .int (0 : Int32)), (0, .ref q_this), (1, .int a1), (2, .int a2)]) hx hb dX4_whole_1 rfl hl (by decide) rfl (fun ls hl => ?_)
  obtain ⟨k2, h⟩ := h
  refine P2 _ ?_ k2 (0 : Int32) h ls (lv_sub hl [1, 2, 3, 0] rfl)
  · intro h ls hl
    refine lv_iload_n hx hb dX4_whole_52 rfl (lv_at hl 1 rfl) ?_
    refine lv_iload_n hx hb dX4_whole_53 rfl (lv_at hl 2 rfl) ?_
    have hPc := hP.sub (ws' := []) [] rfl
    refine na_calls (va_runSN (As := [.int a1, .int a2]) (rest := []) ⟨hx, hb, hml, hown, hts⟩ (m_X5_whole l dC dI cI cZ cJ a1 a2 _ h) ⟨va_cnB 2 hts (na_gC tw359 rfl) rfl rfl rfl (hKK.2.1 _ tw357) (hts _ tw13) (by decide +kernel) ⟨Nat.le_of_ble_eq_true rfl, Nat.le_of_ble_eq_true rfl⟩, hts _ tw358, trivial⟩ ⟨fun a U g mk q => by obtain ⟨q0, qP, qK⟩ := q; exact ⟨q0, qP, qK.same rfl⟩, fun U hU hW => ⟨rfl, by rw [hU]; exact hPc, hKK.warm hW⟩⟩ rfl rfl hl.1 rfl (lv_room (Nat.le_of_ble_eq_true rfl)) dX4_whole_54 ⟨Nat.zero_le _, Nat.zero_le _⟩) (fun r_54 h => ?_)
    rw [hQQ]
    exact W.iret hx hb hr (fun t ht hW => ⟨_, rfl, h, ht⟩) t_nil dX4_whole_57
set_option maxHeartbeats 4000000 in
set_option maxRecDepth 100000 in
theorem m_X4_isFull (l : Launch) (dC : Nat → ClassId) (dI : Nat → Nat → Nat) (cI cZ cJ : ClassId) (q_this : Nat) (q_characters : Nat) (q_firsts : Nat) (q_seconds : Nat) (q_thirds : Nat) (q_looses : Nat) (q_slots : Nat) (q_waiting : Nat) (q_seen : Nat) (v_count : Int32) (v_waitingCount : Int32) (v_characters : Nat → Int32) (v_firsts : Nat → Int32) (v_seconds : Nat → Int32) (v_thirds : Nat → Int32) (v_looses : Nat → Int32) (v_slots : Nat → Int32) (v_waiting : Nat → Int32) (v_seen : Nat → Int32) (post : Int32 → Prop) (h : w_X4_isFull post v_count) : Met l yX4_isFull [.code yX4_isFull cX4_isFull 1 (some .boolean)] ({ frames := 0, cells := 0, slots := 0, locals := 0 } : Room) (va_Pc [.ref q_this] (fun U => va_P (dC, dI) vwC [(q_this, .inr (4, [.ref q_characters, .ref q_firsts, .ref q_seconds, .ref q_thirds, .ref q_looses, .int v_count, .ref q_slots, .ref q_waiting, .ref q_seen, .int v_waitingCount])), (q_characters, .inl (cI, 120, .inl v_characters)), (q_firsts, .inl (cI, 120, .inl v_firsts)), (q_seconds, .inl (cI, 120, .inl v_seconds)), (q_thirds, .inl (cI, 120, .inl v_thirds)), (q_looses, .inl (cZ, 120, .inl v_looses)), (q_slots, .inl (cI, 256, .inl v_slots)), (q_waiting, .inl (cI, 120, .inl v_waiting)), (q_seen, .inl (cZ, 120, .inl v_seen))] U.heap ∧ KK dC dI cI cZ cJ U)) (vp_Si post) 0 0 (fun _ => False) := by
  refine Met.ofW (cc := cX4_isFull) (maxL := 1) (ret := (some .boolean)) (by decide) rfl ?_
  intro p e s m args below meth c s₁ B hml hv
  obtain ⟨rfl, hP, hKK⟩ := hv
  have hK := hKK.1
  have hx := B.exec
  have hb := B.bytes
  have hr := B.returns
  have hts : ∀ w ∈ TG, w.before (List.toArray [.ref q_this]) s = true := hKK.ts
  have hown : s.vm.findClass RX4 = some m.cls := findClass_of_methodNamed B.named
  have hlocks := B.notSynchronized
  have hl := lv_entry ([.ref q_this]) (n := 1) (Nat.le_of_ble_eq_true rfl)
  rw [lg_entry_eq]
  generalize (lg_sl ([.ref q_this]) ++ List.replicate (1 - (lg_sl ([.ref q_this])).length) Slot.unset).toArray = ls at hl ⊢
  have hl : lv_has ls 1 [(0, .ref q_this)] := hl
  obtain ⟨QQ, hQQ⟩ : ∃ z, z = MQ below (vp_Si post) (List.toArray [.ref q_this]) s 0 0 (fun _ => False) := ⟨_, rfl⟩
  rw [← hQQ]
  refine lv_aload_n hx hb dX4_isFull_0 rfl (lv_at hl 0 rfl) ?_
  refine va_get (D := (dC, dI)) (ci := 4) (v := .int v_count) (C := RX4) (T := TX4) (N := 10) hx hb hts inX4 hown hK hP 0 rfl rfl 5 (by decide) (hts _ tw55) (fun _ h9 => h9) rfl dX4_isFull_1 ?_
  refine lv_bipush (v := (120 : Int32)) hx hb dX4_isFull_4 (by decide) ?_
  refine lv_icmp_lt (tgt := 13) hx hb dX4_isFull_6 (by decide) (fun c9 => ?_) (fun c9 => ?_)
  · replace h := h.1 c9
    refine lv_iconst (v := (0 : Int32)) hx hb dX4_isFull_13 (by decide) ?_
    rw [hQQ]
    exact W.zret (ty := .boolean) hx hb hr (by decide) (fun t ht hW => ⟨_, rfl, h, ht⟩) t_nil dX4_isFull_14
  · replace h := h.2 c9
    refine lv_iconst (v := (1 : Int32)) hx hb dX4_isFull_9 (by decide) ?_
    refine lv_goto (tgt := 14) hx hb dX4_isFull_10 (by decide) ?_
    rw [hQQ]
    exact W.zret (ty := .boolean) hx hb hr (by decide) (fun t ht hW => ⟨_, rfl, h, ht⟩) t_nil dX4_isFull_14
set_option maxHeartbeats 4000000 in
set_option maxRecDepth 100000 in
theorem m_X4_has (l : Launch) (dC : Nat → ClassId) (dI : Nat → Nat → Nat) (cI cZ cJ : ClassId) (q_this : Nat) (q_characters : Nat) (q_firsts : Nat) (q_seconds : Nat) (q_thirds : Nat) (q_looses : Nat) (q_slots : Nat) (q_waiting : Nat) (q_seen : Nat) (v_count : Int32) (v_waitingCount : Int32) (v_characters : Nat → Int32) (v_firsts : Nat → Int32) (v_seconds : Nat → Int32) (v_thirds : Nat → Int32) (v_looses : Nat → Int32) (v_slots : Nat → Int32) (v_waiting : Nat → Int32) (v_seen : Nat → Int32) (a1 : Int32) (post : Int32 → Prop) (h : w_X4_has post v_characters v_slots a1) : Met l yX4_has [.code yX4_has cX4_has 2 (some .boolean)] ({ frames := 2, cells := 0, slots := 0, locals := 45 } : Room) (va_Pc [.ref q_this, .int a1] (fun U => va_P (dC, dI) vwC [(q_this, .inr (4, [.ref q_characters, .ref q_firsts, .ref q_seconds, .ref q_thirds, .ref q_looses, .int v_count, .ref q_slots, .ref q_waiting, .ref q_seen, .int v_waitingCount])), (q_characters, .inl (cI, 120, .inl v_characters)), (q_firsts, .inl (cI, 120, .inl v_firsts)), (q_seconds, .inl (cI, 120, .inl v_seconds)), (q_thirds, .inl (cI, 120, .inl v_thirds)), (q_looses, .inl (cZ, 120, .inl v_looses)), (q_slots, .inl (cI, 256, .inl v_slots)), (q_waiting, .inl (cI, 120, .inl v_waiting)), (q_seen, .inl (cZ, 120, .inl v_seen))] U.heap ∧ KK dC dI cI cZ cJ U)) (vp_Si post) 0 0 (fun _ => False) := by
  refine Met.ofW (cc := cX4_has) (maxL := 2) (ret := (some .boolean)) (by decide) rfl ?_
  intro p e s m args below meth c s₁ B hml hv
  obtain ⟨rfl, hP, hKK⟩ := hv
  have hK := hKK.1
  have hx := B.exec
  have hb := B.bytes
  have hr := B.returns
  have hts : ∀ w ∈ TG, w.before (List.toArray [.ref q_this, .int a1]) s = true := hKK.ts
  have hown : s.vm.findClass RX4 = some m.cls := findClass_of_methodNamed B.named
  have hlocks := B.notSynchronized
  have hl := lv_entry ([.ref q_this, .int a1]) (n := 2) (Nat.le_of_ble_eq_true rfl)
  rw [lg_entry_eq]
  generalize (lg_sl ([.ref q_this, .int a1]) ++ List.replicate (2 - (lg_sl ([.ref q_this, .int a1])).length) Slot.unset).toArray = ls at hl ⊢
  have hl : lv_has ls 2 [(0, .ref q_this), (1, .int a1)] := hl
  obtain ⟨QQ, hQQ⟩ : ∃ z, z = MQ below (vp_Si post) (List.toArray [.ref q_this, .int a1]) s 0 0 (fun _ => False) := ⟨_, rfl⟩
  rw [← hQQ]
  refine lv_aload_n hx hb dX4_has_0 rfl (lv_at hl 0 rfl) ?_
  refine lv_iload_n hx hb dX4_has_1 rfl (lv_at hl 1 rfl) ?_
  have hPc := hP.sub (ws' := [(q_this, .inr (4, [.ref q_characters, .ref q_firsts, .ref q_seconds, .ref q_thirds, .ref q_looses, .int v_count, .ref q_slots, .ref q_waiting, .ref q_seen, .int v_waitingCount])), (q_characters, .inl (cI, 120, .inl v_characters)), (q_firsts, .inl (cI, 120, .inl v_firsts)), (q_seconds, .inl (cI, 120, .inl v_seconds)), (q_thirds, .inl (cI, 120, .inl v_thirds)), (q_looses, .inl (cZ, 120, .inl v_looses)), (q_slots, .inl (cI, 256, .inl v_slots)), (q_waiting, .inl (cI, 120, .inl v_waiting)), (q_seen, .inl (cZ, 120, .inl v_seen))]) [0, 1, 2, 3, 4, 5, 6, 7, 8] rfl
  refine na_calls (va_runV (As := [.int a1]) (rest := []) ⟨hx, hb, hml, hown, hts⟩ (m_X4_find l dC dI cI cZ cJ q_this q_characters q_firsts q_seconds q_thirds q_looses q_slots q_waiting q_seen v_count v_waitingCount v_characters v_firsts v_seconds v_thirds v_looses v_slots v_waiting v_seen a1 _ h) (cwV 1 hts (na_gV tw341 tw343 tp9 tw3 tw344 rfl) rfl rfl rfl (by decide +kernel) ⟨Nat.le_of_ble_eq_true rfl, Nat.le_of_ble_eq_true rfl⟩) ⟨fun a U g mk q => by obtain ⟨q0, qP, qK⟩ := q; exact ⟨q0, qP, qK.same rfl⟩, va_recv hK hPc (ci := 4) (q0 := 0) rfl rfl, fun U hU hW => ⟨rfl, by rw [hU]; exact hPc, hKK.warm hW⟩⟩ rfl rfl hl.1 rfl (lv_room (Nat.le_of_ble_eq_true rfl)) dX4_has_2 ⟨Nat.zero_le _, Nat.zero_le _⟩) (fun r_2 h => ?_)
  refine lv_iconst (v := (-1 : Int32)) hx hb dX4_has_5 (by decide) ?_
  refine lv_icmp_eq (tgt := 13) hx hb dX4_has_6 (by decide) (fun c9 => ?_) (fun c9 => ?_)
  · replace h := h.1 c9
    refine lv_iconst (v := (0 : Int32)) hx hb dX4_has_13 (by decide) ?_
    rw [hQQ]
    exact W.zret (ty := .boolean) hx hb hr (by decide) (fun t ht hW => ⟨_, rfl, h, ht⟩) t_nil dX4_has_14
  · replace h := h.2 c9
    refine lv_iconst (v := (1 : Int32)) hx hb dX4_has_9 (by decide) ?_
    refine lv_goto (tgt := 14) hx hb dX4_has_10 (by decide) ?_
    rw [hQQ]
    exact W.zret (ty := .boolean) hx hb hr (by decide) (fun t ht hW => ⟨_, rfl, h, ht⟩) t_nil dX4_has_14
set_option maxHeartbeats 4000000 in
set_option maxRecDepth 100000 in
theorem m_X4_tell (l : Launch) (dC : Nat → ClassId) (dI : Nat → Nat → Nat) (cI cZ cJ : ClassId) (q_this : Nat) (q_characters : Nat) (q_firsts : Nat) (q_seconds : Nat) (q_thirds : Nat) (q_looses : Nat) (q_slots : Nat) (q_waiting : Nat) (q_seen : Nat) (v_count : Int32) (v_waitingCount : Int32) (v_characters : Nat → Int32) (v_firsts : Nat → Int32) (v_seconds : Nat → Int32) (v_thirds : Nat → Int32) (v_looses : Nat → Int32) (v_slots : Nat → Int32) (v_waiting : Nat → Int32) (v_seen : Nat → Int32) (a1 : Int32) (a2 : Int32) (a3 : Int32) (a4 : Int32) (a5 : Int32) (sz : Nat) (post : Int32 → (Nat → Int32) → (Nat → Int32) → (Nat → Int32) → (Nat → Int32) → (Nat → Int32) → (Nat → Int32) → Prop) (h : w_X4_tell post v_count v_characters v_firsts v_seconds v_thirds v_looses v_slots a1 a2 a3 a4 a5) : Met l yX4_tell [.code yX4_tell cX4_tell 6 none] ({ frames := 1, cells := 0, slots := 0, locals := 24 } : Room) (va_Pc [.ref q_this, .int a1, .int a2, .int a3, .int a4, .int a5] (fun U => U.heap.size = sz ∧ va_P (dC, dI) vwC [(q_this, .inr (4, [.ref q_characters, .ref q_firsts, .ref q_seconds, .ref q_thirds, .ref q_looses, .int v_count, .ref q_slots, .ref q_waiting, .ref q_seen, .int v_waitingCount])), (q_characters, .inl (cI, 120, .inl v_characters)), (q_firsts, .inl (cI, 120, .inl v_firsts)), (q_seconds, .inl (cI, 120, .inl v_seconds)), (q_thirds, .inl (cI, 120, .inl v_thirds)), (q_looses, .inl (cZ, 120, .inl v_looses)), (q_slots, .inl (cI, 256, .inl v_slots)), (q_waiting, .inl (cI, 120, .inl v_waiting)), (q_seen, .inl (cZ, 120, .inl v_seen))] U.heap ∧ KK dC dI cI cZ cJ U ∧ va_D (fun _ => True) [(q_this, .inr (4, [.ref q_characters, .ref q_firsts, .ref q_seconds, .ref q_thirds, .ref q_looses, .int v_count, .ref q_slots, .ref q_waiting, .ref q_seen, .int v_waitingCount])), (q_characters, .inl (cI, 120, .inl v_characters)), (q_firsts, .inl (cI, 120, .inl v_firsts)), (q_seconds, .inl (cI, 120, .inl v_seconds)), (q_thirds, .inl (cI, 120, .inl v_thirds)), (q_looses, .inl (cZ, 120, .inl v_looses)), (q_slots, .inl (cI, 256, .inl v_slots)), (q_waiting, .inl (cI, 120, .inl v_waiting)), (q_seen, .inl (cZ, 120, .inl v_seen))])) (va_Qv (fun (u : Int32 × (Nat → Int32) × (Nat → Int32) × (Nat → Int32) × (Nat → Int32) × (Nat → Int32) × (Nat → Int32)) => post u.1 u.2.1 u.2.2.1 u.2.2.2.1 u.2.2.2.2.1 u.2.2.2.2.2.1 u.2.2.2.2.2.2) (fun (u : Int32 × (Nat → Int32) × (Nat → Int32) × (Nat → Int32) × (Nat → Int32) × (Nat → Int32) × (Nat → Int32)) (t : State) => va_P (dC, dI) vwC [(q_this, .inr (4, [.ref q_characters, .ref q_firsts, .ref q_seconds, .ref q_thirds, .ref q_looses, .int u.1, .ref q_slots, .ref q_waiting, .ref q_seen, .int v_waitingCount])), (q_characters, .inl (cI, 120, .inl u.2.1)), (q_firsts, .inl (cI, 120, .inl u.2.2.1)), (q_seconds, .inl (cI, 120, .inl u.2.2.2.1)), (q_thirds, .inl (cI, 120, .inl u.2.2.2.2.1)), (q_looses, .inl (cZ, 120, .inl u.2.2.2.2.2.1)), (q_slots, .inl (cI, 256, .inl u.2.2.2.2.2.2)), (q_waiting, .inl (cI, 120, .inl v_waiting)), (q_seen, .inl (cZ, 120, .inl v_seen))] t.heap ∧ va_D (va_A [(q_this, .inr (4, [.ref q_characters, .ref q_firsts, .ref q_seconds, .ref q_thirds, .ref q_looses, .int v_count, .ref q_slots, .ref q_waiting, .ref q_seen, .int v_waitingCount])), (q_characters, .inl (cI, 120, .inl v_characters)), (q_firsts, .inl (cI, 120, .inl v_firsts)), (q_seconds, .inl (cI, 120, .inl v_seconds)), (q_thirds, .inl (cI, 120, .inl v_thirds)), (q_looses, .inl (cZ, 120, .inl v_looses)), (q_slots, .inl (cI, 256, .inl v_slots)), (q_waiting, .inl (cI, 120, .inl v_waiting)), (q_seen, .inl (cZ, 120, .inl v_seen))] sz) [(q_this, .inr (4, [.ref q_characters, .ref q_firsts, .ref q_seconds, .ref q_thirds, .ref q_looses, .int u.1, .ref q_slots, .ref q_waiting, .ref q_seen, .int v_waitingCount])), (q_characters, .inl (cI, 120, .inl u.2.1)), (q_firsts, .inl (cI, 120, .inl u.2.2.1)), (q_seconds, .inl (cI, 120, .inl u.2.2.2.1)), (q_thirds, .inl (cI, 120, .inl u.2.2.2.2.1)), (q_looses, .inl (cZ, 120, .inl u.2.2.2.2.2.1)), (q_slots, .inl (cI, 256, .inl u.2.2.2.2.2.2)), (q_waiting, .inl (cI, 120, .inl v_waiting)), (q_seen, .inl (cZ, 120, .inl v_seen))]) (va_A [(q_this, .inr (4, [.ref q_characters, .ref q_firsts, .ref q_seconds, .ref q_thirds, .ref q_looses, .int v_count, .ref q_slots, .ref q_waiting, .ref q_seen, .int v_waitingCount])), (q_characters, .inl (cI, 120, .inl v_characters)), (q_firsts, .inl (cI, 120, .inl v_firsts)), (q_seconds, .inl (cI, 120, .inl v_seconds)), (q_thirds, .inl (cI, 120, .inl v_thirds)), (q_looses, .inl (cZ, 120, .inl v_looses)), (q_slots, .inl (cI, 256, .inl v_slots)), (q_waiting, .inl (cI, 120, .inl v_waiting)), (q_seen, .inl (cZ, 120, .inl v_seen))] sz)) 0 0 (va_A [(q_this, .inr (4, [.ref q_characters, .ref q_firsts, .ref q_seconds, .ref q_thirds, .ref q_looses, .int v_count, .ref q_slots, .ref q_waiting, .ref q_seen, .int v_waitingCount])), (q_characters, .inl (cI, 120, .inl v_characters)), (q_firsts, .inl (cI, 120, .inl v_firsts)), (q_seconds, .inl (cI, 120, .inl v_seconds)), (q_thirds, .inl (cI, 120, .inl v_thirds)), (q_looses, .inl (cZ, 120, .inl v_looses)), (q_slots, .inl (cI, 256, .inl v_slots)), (q_waiting, .inl (cI, 120, .inl v_waiting)), (q_seen, .inl (cZ, 120, .inl v_seen))] sz) := by
  refine Met.ofW (cc := cX4_tell) (maxL := 6) (ret := none) (by decide) rfl ?_
  intro p e s m args below meth c s₁ B hml hv
  obtain ⟨rfl, hsz, hP, hKK, hD0⟩ := hv
  have hK := hKK.1
  have hx := B.exec
  have hb := B.bytes
  have hr := B.returns
  have hts : ∀ w ∈ TG, w.before (List.toArray [.ref q_this, .int a1, .int a2, .int a3, .int a4, .int a5]) s = true := hKK.ts
  have hown : s.vm.findClass RX4 = some m.cls := findClass_of_methodNamed B.named
  have hlocks := B.notSynchronized
  subst hsz
  have hD := hD0.self (sz := s.heap.size)
  generalize hAe : va_A [(q_this, .inr (4, [.ref q_characters, .ref q_firsts, .ref q_seconds, .ref q_thirds, .ref q_looses, .int v_count, .ref q_slots, .ref q_waiting, .ref q_seen, .int v_waitingCount])), (q_characters, .inl (cI, 120, .inl v_characters)), (q_firsts, .inl (cI, 120, .inl v_firsts)), (q_seconds, .inl (cI, 120, .inl v_seconds)), (q_thirds, .inl (cI, 120, .inl v_thirds)), (q_looses, .inl (cZ, 120, .inl v_looses)), (q_slots, .inl (cI, 256, .inl v_slots)), (q_waiting, .inl (cI, 120, .inl v_waiting)), (q_seen, .inl (cZ, 120, .inl v_seen))] s.heap.size = A at hD ⊢
  have hA : ∀ q : Nat, s.heap.size ≤ q → A q := fun q h => by rw [← hAe]; exact Or.inr h
  have hS : va_S A s.heap s.heap [] := va_S.rf
  have hl := lv_entry ([.ref q_this, .int a1, .int a2, .int a3, .int a4, .int a5]) (n := 6) (Nat.le_of_ble_eq_true rfl)
  rw [lg_entry_eq]
  generalize (lg_sl ([.ref q_this, .int a1, .int a2, .int a3, .int a4, .int a5]) ++ List.replicate (6 - (lg_sl ([.ref q_this, .int a1, .int a2, .int a3, .int a4, .int a5])).length) Slot.unset).toArray = ls at hl ⊢
  have hl : lv_has ls 6 [(0, .ref q_this), (1, .int a1), (2, .int a2), (3, .int a3), (4, .int a4), (5, .int a5)] := hl
  obtain ⟨QQ, hQQ⟩ : ∃ z, z = MQ below (va_Qv (fun (u : Int32 × (Nat → Int32) × (Nat → Int32) × (Nat → Int32) × (Nat → Int32) × (Nat → Int32) × (Nat → Int32)) => post u.1 u.2.1 u.2.2.1 u.2.2.2.1 u.2.2.2.2.1 u.2.2.2.2.2.1 u.2.2.2.2.2.2) (fun (u : Int32 × (Nat → Int32) × (Nat → Int32) × (Nat → Int32) × (Nat → Int32) × (Nat → Int32) × (Nat → Int32)) (t : State) => va_P (dC, dI) vwC [(q_this, .inr (4, [.ref q_characters, .ref q_firsts, .ref q_seconds, .ref q_thirds, .ref q_looses, .int u.1, .ref q_slots, .ref q_waiting, .ref q_seen, .int v_waitingCount])), (q_characters, .inl (cI, 120, .inl u.2.1)), (q_firsts, .inl (cI, 120, .inl u.2.2.1)), (q_seconds, .inl (cI, 120, .inl u.2.2.2.1)), (q_thirds, .inl (cI, 120, .inl u.2.2.2.2.1)), (q_looses, .inl (cZ, 120, .inl u.2.2.2.2.2.1)), (q_slots, .inl (cI, 256, .inl u.2.2.2.2.2.2)), (q_waiting, .inl (cI, 120, .inl v_waiting)), (q_seen, .inl (cZ, 120, .inl v_seen))] t.heap ∧ va_D A [(q_this, .inr (4, [.ref q_characters, .ref q_firsts, .ref q_seconds, .ref q_thirds, .ref q_looses, .int u.1, .ref q_slots, .ref q_waiting, .ref q_seen, .int v_waitingCount])), (q_characters, .inl (cI, 120, .inl u.2.1)), (q_firsts, .inl (cI, 120, .inl u.2.2.1)), (q_seconds, .inl (cI, 120, .inl u.2.2.2.1)), (q_thirds, .inl (cI, 120, .inl u.2.2.2.2.1)), (q_looses, .inl (cZ, 120, .inl u.2.2.2.2.2.1)), (q_slots, .inl (cI, 256, .inl u.2.2.2.2.2.2)), (q_waiting, .inl (cI, 120, .inl v_waiting)), (q_seen, .inl (cZ, 120, .inl v_seen))]) A) (List.toArray [.ref q_this, .int a1, .int a2, .int a3, .int a4, .int a5]) s 0 0 A := ⟨_, rfl⟩
  rw [← hQQ]
  refine lv_aload_n hx hb dX4_tell_0 rfl (lv_at hl 0 rfl) ?_
  have hPc := hP.sub (ws' := [(q_this, .inr (4, [.ref q_characters, .ref q_firsts, .ref q_seconds, .ref q_thirds, .ref q_looses, .int v_count, .ref q_slots, .ref q_waiting, .ref q_seen, .int v_waitingCount])), (q_characters, .inl (cI, 120, .inl v_characters)), (q_firsts, .inl (cI, 120, .inl v_firsts)), (q_seconds, .inl (cI, 120, .inl v_seconds)), (q_thirds, .inl (cI, 120, .inl v_thirds)), (q_looses, .inl (cZ, 120, .inl v_looses)), (q_slots, .inl (cI, 256, .inl v_slots)), (q_waiting, .inl (cI, 120, .inl v_waiting)), (q_seen, .inl (cZ, 120, .inl v_seen))]) [0, 1, 2, 3, 4, 5, 6, 7, 8] rfl
  refine na_calls (va_runV (As := []) (rest := []) ⟨hx, hb, hml, hown, hts⟩ (m_X4_isFull l dC dI cI cZ cJ q_this q_characters q_firsts q_seconds q_thirds q_looses q_slots q_waiting q_seen v_count v_waitingCount v_characters v_firsts v_seconds v_thirds v_looses v_slots v_waiting v_seen _ h) (cwV 0 hts (na_gV tw398 tw391 tp15 tw3 tw392 rfl) rfl rfl rfl (by decide +kernel) ⟨Nat.le_of_ble_eq_true rfl, Nat.le_of_ble_eq_true rfl⟩) ⟨fun a U g mk q => by obtain ⟨q0, qP, qK⟩ := q; exact ⟨q0, qP, qK.same rfl⟩, va_recv hK hPc (ci := 4) (q0 := 0) rfl rfl, fun U hU hW => ⟨rfl, by rw [hU]; exact hPc, hKK.warm hW⟩⟩ rfl rfl hl.1 rfl (lv_room (Nat.le_of_ble_eq_true rfl)) dX4_tell_1 ⟨Nat.zero_le _, Nat.zero_le _⟩) (fun r_1 h => ?_)
  refine lv_if_eq (tgt := 8) hx hb dX4_tell_4 (by decide) (fun c9 => ?_) (fun c9 => ?_)
  · replace h := h.1 c9
    refine lv_aload_n hx hb dX4_tell_8 rfl (lv_at hl 0 rfl) ?_
    refine va_get (D := (dC, dI)) (ci := 4) (v := .ref q_characters) (C := RX4) (T := TX4) (N := 10) hx hb hts inX4 hown hK hP 0 rfl rfl 0 (by decide) (hts _ tw50) (fun _ h9 => h9) rfl dX4_tell_9 ?_
    refine lv_aload_n hx hb dX4_tell_12 rfl (lv_at hl 0 rfl) ?_
    refine va_get (D := (dC, dI)) (ci := 4) (v := .int v_count) (C := RX4) (T := TX4) (N := 10) hx hb hts inX4 hown hK hP 0 rfl rfl 5 (by decide) (hts _ tw55) (fun _ h9 => h9) rfl dX4_tell_13 ?_
    refine lv_iload_n hx hb dX4_tell_16 rfl (lv_at hl 1 rfl) ?_
    obtain ⟨hin, h⟩ := h
    refine va_iast hx hb hK hP hD hS 1 0 rfl rfl hin dX4_tell_17 (fun H locs hP hD hS => ?_)
    have hP : va_P (dC, dI) vwC [(q_this, .inr (4, [.ref q_characters, .ref q_firsts, .ref q_seconds, .ref q_thirds, .ref q_looses, .int v_count, .ref q_slots, .ref q_waiting, .ref q_seen, .int v_waitingCount])), (q_characters, .inl (cI, 120, .inl (upd v_characters v_count.toNatClampNeg a1))), (q_firsts, .inl (cI, 120, .inl v_firsts)), (q_seconds, .inl (cI, 120, .inl v_seconds)), (q_thirds, .inl (cI, 120, .inl v_thirds)), (q_looses, .inl (cZ, 120, .inl v_looses)), (q_slots, .inl (cI, 256, .inl v_slots)), (q_waiting, .inl (cI, 120, .inl v_waiting)), (q_seen, .inl (cZ, 120, .inl v_seen))] H := hP
    have hD : va_D A [(q_this, .inr (4, [.ref q_characters, .ref q_firsts, .ref q_seconds, .ref q_thirds, .ref q_looses, .int v_count, .ref q_slots, .ref q_waiting, .ref q_seen, .int v_waitingCount])), (q_characters, .inl (cI, 120, .inl (upd v_characters v_count.toNatClampNeg a1))), (q_firsts, .inl (cI, 120, .inl v_firsts)), (q_seconds, .inl (cI, 120, .inl v_seconds)), (q_thirds, .inl (cI, 120, .inl v_thirds)), (q_looses, .inl (cZ, 120, .inl v_looses)), (q_slots, .inl (cI, 256, .inl v_slots)), (q_waiting, .inl (cI, 120, .inl v_waiting)), (q_seen, .inl (cZ, 120, .inl v_seen))] := hD
    refine lv_aload_n hx hb dX4_tell_18 rfl (lv_at hl 0 rfl) ?_
    refine va_get (D := (dC, dI)) (ci := 4) (v := .ref q_firsts) (C := RX4) (T := TX4) (N := 10) hx hb hts inX4 hown hK hP 0 rfl rfl 1 (by decide) (hts _ tw51) (fun _ h9 => h9) rfl dX4_tell_19 ?_
    refine lv_aload_n hx hb dX4_tell_22 rfl (lv_at hl 0 rfl) ?_
    refine va_get (D := (dC, dI)) (ci := 4) (v := .int v_count) (C := RX4) (T := TX4) (N := 10) hx hb hts inX4 hown hK hP 0 rfl rfl 5 (by decide) (hts _ tw55) (fun _ h9 => h9) rfl dX4_tell_23 ?_
    refine lv_iload_n hx hb dX4_tell_26 rfl (lv_at hl 2 rfl) ?_
    obtain ⟨hin, h⟩ := h
    refine va_iast hx hb hK hP hD hS 2 0 rfl rfl hin dX4_tell_27 (fun H locs hP hD hS => ?_)
    have hP : va_P (dC, dI) vwC [(q_this, .inr (4, [.ref q_characters, .ref q_firsts, .ref q_seconds, .ref q_thirds, .ref q_looses, .int v_count, .ref q_slots, .ref q_waiting, .ref q_seen, .int v_waitingCount])), (q_characters, .inl (cI, 120, .inl (upd v_characters v_count.toNatClampNeg a1))), (q_firsts, .inl (cI, 120, .inl (upd v_firsts v_count.toNatClampNeg a2))), (q_seconds, .inl (cI, 120, .inl v_seconds)), (q_thirds, .inl (cI, 120, .inl v_thirds)), (q_looses, .inl (cZ, 120, .inl v_looses)), (q_slots, .inl (cI, 256, .inl v_slots)), (q_waiting, .inl (cI, 120, .inl v_waiting)), (q_seen, .inl (cZ, 120, .inl v_seen))] H := hP
    have hD : va_D A [(q_this, .inr (4, [.ref q_characters, .ref q_firsts, .ref q_seconds, .ref q_thirds, .ref q_looses, .int v_count, .ref q_slots, .ref q_waiting, .ref q_seen, .int v_waitingCount])), (q_characters, .inl (cI, 120, .inl (upd v_characters v_count.toNatClampNeg a1))), (q_firsts, .inl (cI, 120, .inl (upd v_firsts v_count.toNatClampNeg a2))), (q_seconds, .inl (cI, 120, .inl v_seconds)), (q_thirds, .inl (cI, 120, .inl v_thirds)), (q_looses, .inl (cZ, 120, .inl v_looses)), (q_slots, .inl (cI, 256, .inl v_slots)), (q_waiting, .inl (cI, 120, .inl v_waiting)), (q_seen, .inl (cZ, 120, .inl v_seen))] := hD
    refine lv_aload_n hx hb dX4_tell_28 rfl (lv_at hl 0 rfl) ?_
    refine va_get (D := (dC, dI)) (ci := 4) (v := .ref q_seconds) (C := RX4) (T := TX4) (N := 10) hx hb hts inX4 hown hK hP 0 rfl rfl 2 (by decide) (hts _ tw52) (fun _ h9 => h9) rfl dX4_tell_29 ?_
    refine lv_aload_n hx hb dX4_tell_32 rfl (lv_at hl 0 rfl) ?_
    refine va_get (D := (dC, dI)) (ci := 4) (v := .int v_count) (C := RX4) (T := TX4) (N := 10) hx hb hts inX4 hown hK hP 0 rfl rfl 5 (by decide) (hts _ tw55) (fun _ h9 => h9) rfl dX4_tell_33 ?_
    refine lv_iload_n hx hb dX4_tell_36 rfl (lv_at hl 3 rfl) ?_
    obtain ⟨hin, h⟩ := h
    refine va_iast hx hb hK hP hD hS 3 0 rfl rfl hin dX4_tell_37 (fun H locs hP hD hS => ?_)
    have hP : va_P (dC, dI) vwC [(q_this, .inr (4, [.ref q_characters, .ref q_firsts, .ref q_seconds, .ref q_thirds, .ref q_looses, .int v_count, .ref q_slots, .ref q_waiting, .ref q_seen, .int v_waitingCount])), (q_characters, .inl (cI, 120, .inl (upd v_characters v_count.toNatClampNeg a1))), (q_firsts, .inl (cI, 120, .inl (upd v_firsts v_count.toNatClampNeg a2))), (q_seconds, .inl (cI, 120, .inl (upd v_seconds v_count.toNatClampNeg a3))), (q_thirds, .inl (cI, 120, .inl v_thirds)), (q_looses, .inl (cZ, 120, .inl v_looses)), (q_slots, .inl (cI, 256, .inl v_slots)), (q_waiting, .inl (cI, 120, .inl v_waiting)), (q_seen, .inl (cZ, 120, .inl v_seen))] H := hP
    have hD : va_D A [(q_this, .inr (4, [.ref q_characters, .ref q_firsts, .ref q_seconds, .ref q_thirds, .ref q_looses, .int v_count, .ref q_slots, .ref q_waiting, .ref q_seen, .int v_waitingCount])), (q_characters, .inl (cI, 120, .inl (upd v_characters v_count.toNatClampNeg a1))), (q_firsts, .inl (cI, 120, .inl (upd v_firsts v_count.toNatClampNeg a2))), (q_seconds, .inl (cI, 120, .inl (upd v_seconds v_count.toNatClampNeg a3))), (q_thirds, .inl (cI, 120, .inl v_thirds)), (q_looses, .inl (cZ, 120, .inl v_looses)), (q_slots, .inl (cI, 256, .inl v_slots)), (q_waiting, .inl (cI, 120, .inl v_waiting)), (q_seen, .inl (cZ, 120, .inl v_seen))] := hD
    refine lv_aload_n hx hb dX4_tell_38 rfl (lv_at hl 0 rfl) ?_
    refine va_get (D := (dC, dI)) (ci := 4) (v := .ref q_thirds) (C := RX4) (T := TX4) (N := 10) hx hb hts inX4 hown hK hP 0 rfl rfl 3 (by decide) (hts _ tw53) (fun _ h9 => h9) rfl dX4_tell_39 ?_
    refine lv_aload_n hx hb dX4_tell_42 rfl (lv_at hl 0 rfl) ?_
    refine va_get (D := (dC, dI)) (ci := 4) (v := .int v_count) (C := RX4) (T := TX4) (N := 10) hx hb hts inX4 hown hK hP 0 rfl rfl 5 (by decide) (hts _ tw55) (fun _ h9 => h9) rfl dX4_tell_43 ?_
    refine lv_iload hx hb dX4_tell_46 (lv_at hl 4 rfl) ?_
    obtain ⟨hin, h⟩ := h
    refine va_iast hx hb hK hP hD hS 4 0 rfl rfl hin dX4_tell_48 (fun H locs hP hD hS => ?_)
    have hP : va_P (dC, dI) vwC [(q_this, .inr (4, [.ref q_characters, .ref q_firsts, .ref q_seconds, .ref q_thirds, .ref q_looses, .int v_count, .ref q_slots, .ref q_waiting, .ref q_seen, .int v_waitingCount])), (q_characters, .inl (cI, 120, .inl (upd v_characters v_count.toNatClampNeg a1))), (q_firsts, .inl (cI, 120, .inl (upd v_firsts v_count.toNatClampNeg a2))), (q_seconds, .inl (cI, 120, .inl (upd v_seconds v_count.toNatClampNeg a3))), (q_thirds, .inl (cI, 120, .inl (upd v_thirds v_count.toNatClampNeg a4))), (q_looses, .inl (cZ, 120, .inl v_looses)), (q_slots, .inl (cI, 256, .inl v_slots)), (q_waiting, .inl (cI, 120, .inl v_waiting)), (q_seen, .inl (cZ, 120, .inl v_seen))] H := hP
    have hD : va_D A [(q_this, .inr (4, [.ref q_characters, .ref q_firsts, .ref q_seconds, .ref q_thirds, .ref q_looses, .int v_count, .ref q_slots, .ref q_waiting, .ref q_seen, .int v_waitingCount])), (q_characters, .inl (cI, 120, .inl (upd v_characters v_count.toNatClampNeg a1))), (q_firsts, .inl (cI, 120, .inl (upd v_firsts v_count.toNatClampNeg a2))), (q_seconds, .inl (cI, 120, .inl (upd v_seconds v_count.toNatClampNeg a3))), (q_thirds, .inl (cI, 120, .inl (upd v_thirds v_count.toNatClampNeg a4))), (q_looses, .inl (cZ, 120, .inl v_looses)), (q_slots, .inl (cI, 256, .inl v_slots)), (q_waiting, .inl (cI, 120, .inl v_waiting)), (q_seen, .inl (cZ, 120, .inl v_seen))] := hD
    refine lv_aload_n hx hb dX4_tell_49 rfl (lv_at hl 0 rfl) ?_
    refine va_get (D := (dC, dI)) (ci := 4) (v := .ref q_looses) (C := RX4) (T := TX4) (N := 10) hx hb hts inX4 hown hK hP 0 rfl rfl 4 (by decide) (hts _ tw54) (fun _ h9 => h9) rfl dX4_tell_50 ?_
    refine lv_aload_n hx hb dX4_tell_53 rfl (lv_at hl 0 rfl) ?_
    refine va_get (D := (dC, dI)) (ci := 4) (v := .int v_count) (C := RX4) (T := TX4) (N := 10) hx hb hts inX4 hown hK hP 0 rfl rfl 5 (by decide) (hts _ tw55) (fun _ h9 => h9) rfl dX4_tell_54 ?_
    refine lv_iload hx hb dX4_tell_57 (lv_at hl 5 rfl) ?_
    obtain ⟨hin, h⟩ := h
    refine va_zast hx hb hK hP hD hS 5 1 rfl rfl hin dX4_tell_59 (fun H locs hP hD hS => ?_)
    have hP : va_P (dC, dI) vwC [(q_this, .inr (4, [.ref q_characters, .ref q_firsts, .ref q_seconds, .ref q_thirds, .ref q_looses, .int v_count, .ref q_slots, .ref q_waiting, .ref q_seen, .int v_waitingCount])), (q_characters, .inl (cI, 120, .inl (upd v_characters v_count.toNatClampNeg a1))), (q_firsts, .inl (cI, 120, .inl (upd v_firsts v_count.toNatClampNeg a2))), (q_seconds, .inl (cI, 120, .inl (upd v_seconds v_count.toNatClampNeg a3))), (q_thirds, .inl (cI, 120, .inl (upd v_thirds v_count.toNatClampNeg a4))), (q_looses, .inl (cZ, 120, .inl (upd v_looses v_count.toNatClampNeg (vp_nar .boolean a5)))), (q_slots, .inl (cI, 256, .inl v_slots)), (q_waiting, .inl (cI, 120, .inl v_waiting)), (q_seen, .inl (cZ, 120, .inl v_seen))] H := hP
    have hD : va_D A [(q_this, .inr (4, [.ref q_characters, .ref q_firsts, .ref q_seconds, .ref q_thirds, .ref q_looses, .int v_count, .ref q_slots, .ref q_waiting, .ref q_seen, .int v_waitingCount])), (q_characters, .inl (cI, 120, .inl (upd v_characters v_count.toNatClampNeg a1))), (q_firsts, .inl (cI, 120, .inl (upd v_firsts v_count.toNatClampNeg a2))), (q_seconds, .inl (cI, 120, .inl (upd v_seconds v_count.toNatClampNeg a3))), (q_thirds, .inl (cI, 120, .inl (upd v_thirds v_count.toNatClampNeg a4))), (q_looses, .inl (cZ, 120, .inl (upd v_looses v_count.toNatClampNeg (vp_nar .boolean a5)))), (q_slots, .inl (cI, 256, .inl v_slots)), (q_waiting, .inl (cI, 120, .inl v_waiting)), (q_seen, .inl (cZ, 120, .inl v_seen))] := hD
    refine lv_aload_n hx hb dX4_tell_60 rfl (lv_at hl 0 rfl) ?_
    refine va_get (D := (dC, dI)) (ci := 4) (v := .ref q_slots) (C := RX4) (T := TX4) (N := 10) hx hb hts inX4 hown hK hP 0 rfl rfl 6 (by decide) (hts _ tw56) (fun _ h9 => h9) rfl dX4_tell_61 ?_
    refine lv_aload_n hx hb dX4_tell_64 rfl (lv_at hl 0 rfl) ?_
    refine lv_iload_n hx hb dX4_tell_65 rfl (lv_at hl 1 rfl) ?_
    have hPc := hP.sub (ws' := [(q_this, .inr (4, [.ref q_characters, .ref q_firsts, .ref q_seconds, .ref q_thirds, .ref q_looses, .int v_count, .ref q_slots, .ref q_waiting, .ref q_seen, .int v_waitingCount])), (q_characters, .inl (cI, 120, .inl (upd v_characters v_count.toNatClampNeg a1))), (q_firsts, .inl (cI, 120, .inl (upd v_firsts v_count.toNatClampNeg a2))), (q_seconds, .inl (cI, 120, .inl (upd v_seconds v_count.toNatClampNeg a3))), (q_thirds, .inl (cI, 120, .inl (upd v_thirds v_count.toNatClampNeg a4))), (q_looses, .inl (cZ, 120, .inl (upd v_looses v_count.toNatClampNeg (vp_nar .boolean a5)))), (q_slots, .inl (cI, 256, .inl v_slots)), (q_waiting, .inl (cI, 120, .inl v_waiting)), (q_seen, .inl (cZ, 120, .inl v_seen))]) [0, 1, 2, 3, 4, 5, 6, 7, 8] rfl
    refine na_calls (va_runV (As := [.int a1]) (rest := [.ref q_slots]) ⟨hx, hb, hml, hown, hts⟩ (m_X4_slotFor l dC dI cI cZ cJ q_this q_characters q_firsts q_seconds q_thirds q_looses q_slots q_waiting q_seen v_count v_waitingCount (upd v_characters v_count.toNatClampNeg a1) (upd v_firsts v_count.toNatClampNeg a2) (upd v_seconds v_count.toNatClampNeg a3) (upd v_thirds v_count.toNatClampNeg a4) (upd v_looses v_count.toNatClampNeg (vp_nar .boolean a5)) v_slots v_waiting v_seen a1 _ h) (cwV 1 hts (na_gV tw345 tw347 tp10 tw3 tw348 rfl) rfl rfl rfl (by decide +kernel) ⟨Nat.le_of_ble_eq_true rfl, Nat.le_of_ble_eq_true rfl⟩) ⟨fun a U g mk q => by obtain ⟨q0, qP, qK⟩ := q; exact ⟨q0, qP, qK.same rfl⟩, va_recv hK hPc (ci := 4) (q0 := 0) rfl rfl, fun U hU hW => ⟨rfl, by rw [hU]; exact hPc, hKK.warm hW⟩⟩ rfl rfl hl.1 rfl (lv_room (Nat.le_of_ble_eq_true rfl)) dX4_tell_66 ⟨Nat.zero_le _, Nat.zero_le _⟩) (fun r_66 h => ?_)
    refine lv_aload_n hx hb dX4_tell_69 rfl (lv_at hl 0 rfl) ?_
    refine va_get (D := (dC, dI)) (ci := 4) (v := .int v_count) (C := RX4) (T := TX4) (N := 10) hx hb hts inX4 hown hK hP 0 rfl rfl 5 (by decide) (hts _ tw55) (fun _ h9 => h9) rfl dX4_tell_70 ?_
    refine lv_iconst (v := (1 : Int32)) hx hb dX4_tell_73 (by decide) ?_
    refine lv_iadd hx hb dX4_tell_74 ?_
    obtain ⟨hin, h⟩ := h
    refine va_iast hx hb hK hP hD hS 6 0 rfl rfl hin dX4_tell_75 (fun H locs hP hD hS => ?_)
    have hP : va_P (dC, dI) vwC [(q_this, .inr (4, [.ref q_characters, .ref q_firsts, .ref q_seconds, .ref q_thirds, .ref q_looses, .int v_count, .ref q_slots, .ref q_waiting, .ref q_seen, .int v_waitingCount])), (q_characters, .inl (cI, 120, .inl (upd v_characters v_count.toNatClampNeg a1))), (q_firsts, .inl (cI, 120, .inl (upd v_firsts v_count.toNatClampNeg a2))), (q_seconds, .inl (cI, 120, .inl (upd v_seconds v_count.toNatClampNeg a3))), (q_thirds, .inl (cI, 120, .inl (upd v_thirds v_count.toNatClampNeg a4))), (q_looses, .inl (cZ, 120, .inl (upd v_looses v_count.toNatClampNeg (vp_nar .boolean a5)))), (q_slots, .inl (cI, 256, .inl (upd v_slots r_66.toNatClampNeg (v_count + (1 : Int32))))), (q_waiting, .inl (cI, 120, .inl v_waiting)), (q_seen, .inl (cZ, 120, .inl v_seen))] H := hP
    have hD : va_D A [(q_this, .inr (4, [.ref q_characters, .ref q_firsts, .ref q_seconds, .ref q_thirds, .ref q_looses, .int v_count, .ref q_slots, .ref q_waiting, .ref q_seen, .int v_waitingCount])), (q_characters, .inl (cI, 120, .inl (upd v_characters v_count.toNatClampNeg a1))), (q_firsts, .inl (cI, 120, .inl (upd v_firsts v_count.toNatClampNeg a2))), (q_seconds, .inl (cI, 120, .inl (upd v_seconds v_count.toNatClampNeg a3))), (q_thirds, .inl (cI, 120, .inl (upd v_thirds v_count.toNatClampNeg a4))), (q_looses, .inl (cZ, 120, .inl (upd v_looses v_count.toNatClampNeg (vp_nar .boolean a5)))), (q_slots, .inl (cI, 256, .inl (upd v_slots r_66.toNatClampNeg (v_count + (1 : Int32))))), (q_waiting, .inl (cI, 120, .inl v_waiting)), (q_seen, .inl (cZ, 120, .inl v_seen))] := hD
    refine lv_aload_n hx hb dX4_tell_76 rfl (lv_at hl 0 rfl) ?_
    refine lv_dup hx hb dX4_tell_77 rfl ?_
    refine va_get (D := (dC, dI)) (ci := 4) (v := .int v_count) (C := RX4) (T := TX4) (N := 10) hx hb hts inX4 hown hK hP 0 rfl rfl 5 (by decide) (hts _ tw55) (fun _ h9 => h9) rfl dX4_tell_78 ?_
    refine lv_iconst (v := (1 : Int32)) hx hb dX4_tell_81 (by decide) ?_
    refine lv_iadd hx hb dX4_tell_82 ?_
    refine va_put (D := (dC, dI)) (ci := 4) (v := .int (v_count + (1 : Int32))) (ty := .int) (C := RX4) (T := TX4) (N := 10) hx hb hts inX4 tyX4 tyX4_ok nmX4 hown hK hP hD hS 0 rfl rfl 5 (by decide) (hts _ tw55) (fun _ h9 => h9) rfl (by decide +kernel) rfl rfl (Nat.le_of_ble_eq_true rfl) dX4_tell_83 (fun H locs hP hD hS => ?_)
    have hP : va_P (dC, dI) vwC [(q_this, .inr (4, [.ref q_characters, .ref q_firsts, .ref q_seconds, .ref q_thirds, .ref q_looses, .int (v_count + (1 : Int32)), .ref q_slots, .ref q_waiting, .ref q_seen, .int v_waitingCount])), (q_characters, .inl (cI, 120, .inl (upd v_characters v_count.toNatClampNeg a1))), (q_firsts, .inl (cI, 120, .inl (upd v_firsts v_count.toNatClampNeg a2))), (q_seconds, .inl (cI, 120, .inl (upd v_seconds v_count.toNatClampNeg a3))), (q_thirds, .inl (cI, 120, .inl (upd v_thirds v_count.toNatClampNeg a4))), (q_looses, .inl (cZ, 120, .inl (upd v_looses v_count.toNatClampNeg (vp_nar .boolean a5)))), (q_slots, .inl (cI, 256, .inl (upd v_slots r_66.toNatClampNeg (v_count + (1 : Int32))))), (q_waiting, .inl (cI, 120, .inl v_waiting)), (q_seen, .inl (cZ, 120, .inl v_seen))] H := hP
    have hD : va_D A [(q_this, .inr (4, [.ref q_characters, .ref q_firsts, .ref q_seconds, .ref q_thirds, .ref q_looses, .int (v_count + (1 : Int32)), .ref q_slots, .ref q_waiting, .ref q_seen, .int v_waitingCount])), (q_characters, .inl (cI, 120, .inl (upd v_characters v_count.toNatClampNeg a1))), (q_firsts, .inl (cI, 120, .inl (upd v_firsts v_count.toNatClampNeg a2))), (q_seconds, .inl (cI, 120, .inl (upd v_seconds v_count.toNatClampNeg a3))), (q_thirds, .inl (cI, 120, .inl (upd v_thirds v_count.toNatClampNeg a4))), (q_looses, .inl (cZ, 120, .inl (upd v_looses v_count.toNatClampNeg (vp_nar .boolean a5)))), (q_slots, .inl (cI, 256, .inl (upd v_slots r_66.toNatClampNeg (v_count + (1 : Int32))))), (q_waiting, .inl (cI, 120, .inl v_waiting)), (q_seen, .inl (cZ, 120, .inl v_seen))] := hD
    rw [hQQ]
    exact W.vret hx hb hr (fun t ht hW => ⟨⟨((v_count + (1 : Int32)), (upd v_characters v_count.toNatClampNeg a1), (upd v_firsts v_count.toNatClampNeg a2), (upd v_seconds v_count.toNatClampNeg a3), (upd v_thirds v_count.toNatClampNeg a4), (upd v_looses v_count.toNatClampNeg (vp_nar .boolean a5)), (upd v_slots r_66.toNatClampNeg (v_count + (1 : Int32)))), rfl, h, by rw [ht]; exact hP, hD⟩, hS.F ht⟩) hS.2.2 dX4_tell_86
  · replace h := h.2 c9
    rw [hQQ]
    exact W.vret hx hb hr (fun t ht hW => ⟨⟨(v_count, v_characters, v_firsts, v_seconds, v_thirds, v_looses, v_slots), rfl, h, by rw [ht]; exact hP, hD⟩, hS.F ht⟩) hS.2.2 dX4_tell_7
set_option maxHeartbeats 4000000 in
set_option maxRecDepth 100000 in
theorem m_X4_meet (l : Launch) (dC : Nat → ClassId) (dI : Nat → Nat → Nat) (cI cZ cJ : ClassId) (q_this : Nat) (q_characters : Nat) (q_firsts : Nat) (q_seconds : Nat) (q_thirds : Nat) (q_looses : Nat) (q_slots : Nat) (q_waiting : Nat) (q_seen : Nat) (v_count : Int32) (v_waitingCount : Int32) (v_characters : Nat → Int32) (v_firsts : Nat → Int32) (v_seconds : Nat → Int32) (v_thirds : Nat → Int32) (v_looses : Nat → Int32) (v_slots : Nat → Int32) (v_waiting : Nat → Int32) (v_seen : Nat → Int32) (a1 : Int32) (a2 : Int32) (sz : Nat) (post : Int32 → Int32 → (Nat → Int32) → (Nat → Int32) → Prop) (h : w_X4_meet post v_waitingCount v_characters v_slots v_waiting v_seen a1 a2) : Met l yX4_meet [.code yX4_meet cX4_meet 4 (some .boolean)] ({ frames := 2, cells := 0, slots := 0, locals := 45 } : Room) (va_Pc [.ref q_this, .int a1, .int a2] (fun U => U.heap.size = sz ∧ va_P (dC, dI) vwC [(q_this, .inr (4, [.ref q_characters, .ref q_firsts, .ref q_seconds, .ref q_thirds, .ref q_looses, .int v_count, .ref q_slots, .ref q_waiting, .ref q_seen, .int v_waitingCount])), (q_characters, .inl (cI, 120, .inl v_characters)), (q_firsts, .inl (cI, 120, .inl v_firsts)), (q_seconds, .inl (cI, 120, .inl v_seconds)), (q_thirds, .inl (cI, 120, .inl v_thirds)), (q_looses, .inl (cZ, 120, .inl v_looses)), (q_slots, .inl (cI, 256, .inl v_slots)), (q_waiting, .inl (cI, 120, .inl v_waiting)), (q_seen, .inl (cZ, 120, .inl v_seen))] U.heap ∧ KK dC dI cI cZ cJ U ∧ va_D (fun _ => True) [(q_this, .inr (4, [.ref q_characters, .ref q_firsts, .ref q_seconds, .ref q_thirds, .ref q_looses, .int v_count, .ref q_slots, .ref q_waiting, .ref q_seen, .int v_waitingCount])), (q_characters, .inl (cI, 120, .inl v_characters)), (q_firsts, .inl (cI, 120, .inl v_firsts)), (q_seconds, .inl (cI, 120, .inl v_seconds)), (q_thirds, .inl (cI, 120, .inl v_thirds)), (q_looses, .inl (cZ, 120, .inl v_looses)), (q_slots, .inl (cI, 256, .inl v_slots)), (q_waiting, .inl (cI, 120, .inl v_waiting)), (q_seen, .inl (cZ, 120, .inl v_seen))])) (va_Qi (fun (r : Int32) (u : Int32 × (Nat → Int32) × (Nat → Int32)) => post r u.1 u.2.1 u.2.2) (fun (u : Int32 × (Nat → Int32) × (Nat → Int32)) (t : State) => va_P (dC, dI) vwC [(q_this, .inr (4, [.ref q_characters, .ref q_firsts, .ref q_seconds, .ref q_thirds, .ref q_looses, .int v_count, .ref q_slots, .ref q_waiting, .ref q_seen, .int u.1])), (q_characters, .inl (cI, 120, .inl v_characters)), (q_firsts, .inl (cI, 120, .inl v_firsts)), (q_seconds, .inl (cI, 120, .inl v_seconds)), (q_thirds, .inl (cI, 120, .inl v_thirds)), (q_looses, .inl (cZ, 120, .inl v_looses)), (q_slots, .inl (cI, 256, .inl v_slots)), (q_waiting, .inl (cI, 120, .inl u.2.1)), (q_seen, .inl (cZ, 120, .inl u.2.2))] t.heap ∧ va_D (va_A [(q_this, .inr (4, [.ref q_characters, .ref q_firsts, .ref q_seconds, .ref q_thirds, .ref q_looses, .int v_count, .ref q_slots, .ref q_waiting, .ref q_seen, .int v_waitingCount])), (q_characters, .inl (cI, 120, .inl v_characters)), (q_firsts, .inl (cI, 120, .inl v_firsts)), (q_seconds, .inl (cI, 120, .inl v_seconds)), (q_thirds, .inl (cI, 120, .inl v_thirds)), (q_looses, .inl (cZ, 120, .inl v_looses)), (q_slots, .inl (cI, 256, .inl v_slots)), (q_waiting, .inl (cI, 120, .inl v_waiting)), (q_seen, .inl (cZ, 120, .inl v_seen))] sz) [(q_this, .inr (4, [.ref q_characters, .ref q_firsts, .ref q_seconds, .ref q_thirds, .ref q_looses, .int v_count, .ref q_slots, .ref q_waiting, .ref q_seen, .int u.1])), (q_characters, .inl (cI, 120, .inl v_characters)), (q_firsts, .inl (cI, 120, .inl v_firsts)), (q_seconds, .inl (cI, 120, .inl v_seconds)), (q_thirds, .inl (cI, 120, .inl v_thirds)), (q_looses, .inl (cZ, 120, .inl v_looses)), (q_slots, .inl (cI, 256, .inl v_slots)), (q_waiting, .inl (cI, 120, .inl u.2.1)), (q_seen, .inl (cZ, 120, .inl u.2.2))]) (va_A [(q_this, .inr (4, [.ref q_characters, .ref q_firsts, .ref q_seconds, .ref q_thirds, .ref q_looses, .int v_count, .ref q_slots, .ref q_waiting, .ref q_seen, .int v_waitingCount])), (q_characters, .inl (cI, 120, .inl v_characters)), (q_firsts, .inl (cI, 120, .inl v_firsts)), (q_seconds, .inl (cI, 120, .inl v_seconds)), (q_thirds, .inl (cI, 120, .inl v_thirds)), (q_looses, .inl (cZ, 120, .inl v_looses)), (q_slots, .inl (cI, 256, .inl v_slots)), (q_waiting, .inl (cI, 120, .inl v_waiting)), (q_seen, .inl (cZ, 120, .inl v_seen))] sz)) 0 0 (va_A [(q_this, .inr (4, [.ref q_characters, .ref q_firsts, .ref q_seconds, .ref q_thirds, .ref q_looses, .int v_count, .ref q_slots, .ref q_waiting, .ref q_seen, .int v_waitingCount])), (q_characters, .inl (cI, 120, .inl v_characters)), (q_firsts, .inl (cI, 120, .inl v_firsts)), (q_seconds, .inl (cI, 120, .inl v_seconds)), (q_thirds, .inl (cI, 120, .inl v_thirds)), (q_looses, .inl (cZ, 120, .inl v_looses)), (q_slots, .inl (cI, 256, .inl v_slots)), (q_waiting, .inl (cI, 120, .inl v_waiting)), (q_seen, .inl (cZ, 120, .inl v_seen))] sz) := by
  refine Met.ofW (cc := cX4_meet) (maxL := 4) (ret := (some .boolean)) (by decide) rfl ?_
  intro p e s m args below meth c s₁ B hml hv
  obtain ⟨rfl, hsz, hP, hKK, hD0⟩ := hv
  have hK := hKK.1
  have hx := B.exec
  have hb := B.bytes
  have hr := B.returns
  have hts : ∀ w ∈ TG, w.before (List.toArray [.ref q_this, .int a1, .int a2]) s = true := hKK.ts
  have hown : s.vm.findClass RX4 = some m.cls := findClass_of_methodNamed B.named
  have hlocks := B.notSynchronized
  subst hsz
  have hD := hD0.self (sz := s.heap.size)
  generalize hAe : va_A [(q_this, .inr (4, [.ref q_characters, .ref q_firsts, .ref q_seconds, .ref q_thirds, .ref q_looses, .int v_count, .ref q_slots, .ref q_waiting, .ref q_seen, .int v_waitingCount])), (q_characters, .inl (cI, 120, .inl v_characters)), (q_firsts, .inl (cI, 120, .inl v_firsts)), (q_seconds, .inl (cI, 120, .inl v_seconds)), (q_thirds, .inl (cI, 120, .inl v_thirds)), (q_looses, .inl (cZ, 120, .inl v_looses)), (q_slots, .inl (cI, 256, .inl v_slots)), (q_waiting, .inl (cI, 120, .inl v_waiting)), (q_seen, .inl (cZ, 120, .inl v_seen))] s.heap.size = A at hD ⊢
  have hA : ∀ q : Nat, s.heap.size ≤ q → A q := fun q h => by rw [← hAe]; exact Or.inr h
  have hS : va_S A s.heap s.heap [] := va_S.rf
  have hl := lv_entry ([.ref q_this, .int a1, .int a2]) (n := 4) (Nat.le_of_ble_eq_true rfl)
  rw [lg_entry_eq]
  generalize (lg_sl ([.ref q_this, .int a1, .int a2]) ++ List.replicate (4 - (lg_sl ([.ref q_this, .int a1, .int a2])).length) Slot.unset).toArray = ls at hl ⊢
  have hl : lv_has ls 4 [(0, .ref q_this), (1, .int a1), (2, .int a2)] := hl
  obtain ⟨QQ, hQQ⟩ : ∃ z, z = MQ below (va_Qi (fun (r : Int32) (u : Int32 × (Nat → Int32) × (Nat → Int32)) => post r u.1 u.2.1 u.2.2) (fun (u : Int32 × (Nat → Int32) × (Nat → Int32)) (t : State) => va_P (dC, dI) vwC [(q_this, .inr (4, [.ref q_characters, .ref q_firsts, .ref q_seconds, .ref q_thirds, .ref q_looses, .int v_count, .ref q_slots, .ref q_waiting, .ref q_seen, .int u.1])), (q_characters, .inl (cI, 120, .inl v_characters)), (q_firsts, .inl (cI, 120, .inl v_firsts)), (q_seconds, .inl (cI, 120, .inl v_seconds)), (q_thirds, .inl (cI, 120, .inl v_thirds)), (q_looses, .inl (cZ, 120, .inl v_looses)), (q_slots, .inl (cI, 256, .inl v_slots)), (q_waiting, .inl (cI, 120, .inl u.2.1)), (q_seen, .inl (cZ, 120, .inl u.2.2))] t.heap ∧ va_D A [(q_this, .inr (4, [.ref q_characters, .ref q_firsts, .ref q_seconds, .ref q_thirds, .ref q_looses, .int v_count, .ref q_slots, .ref q_waiting, .ref q_seen, .int u.1])), (q_characters, .inl (cI, 120, .inl v_characters)), (q_firsts, .inl (cI, 120, .inl v_firsts)), (q_seconds, .inl (cI, 120, .inl v_seconds)), (q_thirds, .inl (cI, 120, .inl v_thirds)), (q_looses, .inl (cZ, 120, .inl v_looses)), (q_slots, .inl (cI, 256, .inl v_slots)), (q_waiting, .inl (cI, 120, .inl u.2.1)), (q_seen, .inl (cZ, 120, .inl u.2.2))]) A) (List.toArray [.ref q_this, .int a1, .int a2]) s 0 0 A := ⟨_, rfl⟩
  rw [← hQQ]
  refine lv_iload_n hx hb dX4_meet_0 rfl (lv_at hl 2 rfl) ?_
  refine lv_iload_n hx hb dX4_meet_1 rfl (lv_at hl 1 rfl) ?_
  refine lv_icmp_ne (tgt := 7) hx hb dX4_meet_2 (by decide) (fun c9 => ?_) (fun c9 => ?_)
  · replace h := h.1 c9
    refine lv_aload_n hx hb dX4_meet_7 rfl (lv_at hl 0 rfl) ?_
    refine lv_iload_n hx hb dX4_meet_8 rfl (lv_at hl 2 rfl) ?_
    have hPc := hP.sub (ws' := [(q_this, .inr (4, [.ref q_characters, .ref q_firsts, .ref q_seconds, .ref q_thirds, .ref q_looses, .int v_count, .ref q_slots, .ref q_waiting, .ref q_seen, .int v_waitingCount])), (q_characters, .inl (cI, 120, .inl v_characters)), (q_firsts, .inl (cI, 120, .inl v_firsts)), (q_seconds, .inl (cI, 120, .inl v_seconds)), (q_thirds, .inl (cI, 120, .inl v_thirds)), (q_looses, .inl (cZ, 120, .inl v_looses)), (q_slots, .inl (cI, 256, .inl v_slots)), (q_waiting, .inl (cI, 120, .inl v_waiting)), (q_seen, .inl (cZ, 120, .inl v_seen))]) [0, 1, 2, 3, 4, 5, 6, 7, 8] rfl
    refine na_calls (va_runV (As := [.int a2]) (rest := []) ⟨hx, hb, hml, hown, hts⟩ (m_X4_find l dC dI cI cZ cJ q_this q_characters q_firsts q_seconds q_thirds q_looses q_slots q_waiting q_seen v_count v_waitingCount v_characters v_firsts v_seconds v_thirds v_looses v_slots v_waiting v_seen a2 _ h) (cwV 1 hts (na_gV tw341 tw343 tp9 tw3 tw344 rfl) rfl rfl rfl (by decide +kernel) ⟨Nat.le_of_ble_eq_true rfl, Nat.le_of_ble_eq_true rfl⟩) ⟨fun a U g mk q => by obtain ⟨q0, qP, qK⟩ := q; exact ⟨q0, qP, qK.same rfl⟩, va_recv hK hPc (ci := 4) (q0 := 0) rfl rfl, fun U hU hW => ⟨rfl, by rw [hU]; exact hPc, hKK.warm hW⟩⟩ rfl rfl hl.1 rfl (lv_room (Nat.le_of_ble_eq_true rfl)) dX4_meet_9 ⟨Nat.zero_le _, Nat.zero_le _⟩) (fun r_9 h => ?_)
    refine lv_istore_n (lv' := [(3, .int r_9), (0, .ref q_this), (1, .int a1), (2, .int a2)]) hx hb dX4_meet_12 rfl hl (by decide) rfl (fun ls hl => ?_)
    refine lv_iload_n hx hb dX4_meet_13 rfl (lv_at hl 0 rfl) ?_
    refine lv_if_lt (tgt := 62) hx hb dX4_meet_14 (by decide) (fun c9 => ?_) (fun c9 => ?_)
    · replace h := h.1 c9
      refine lv_iconst (v := (0 : Int32)) hx hb dX4_meet_62 (by decide) ?_
      rw [hQQ]
      exact W.zret (ty := .boolean) hx hb hr (by decide) (fun t ht hW => ⟨⟨_, (v_waitingCount, v_waiting, v_seen), rfl, h, by rw [ht]; exact hP, hD⟩, hS.F ht⟩) hS.2.2 dX4_meet_63
    · replace h := h.2 c9
      refine lv_aload_n hx hb dX4_meet_17 rfl (lv_at hl 1 rfl) ?_
      refine va_get (D := (dC, dI)) (ci := 4) (v := .ref q_seen) (C := RX4) (T := TX4) (N := 10) hx hb hts inX4 hown hK hP 0 rfl rfl 8 (by decide) (hts _ tw58) (fun _ h9 => h9) rfl dX4_meet_18 ?_
      refine lv_iload_n hx hb dX4_meet_21 rfl (lv_at hl 0 rfl) ?_
      obtain ⟨hin, h⟩ := h
      refine va_zald hx hb hK hP 8 1 rfl rfl hin dX4_meet_22 ?_
      refine lv_if_ne (tgt := 62) hx hb dX4_meet_23 (by decide) (fun c9 => ?_) (fun c9 => ?_)
      · replace h := h.1 c9
        refine lv_iconst (v := (0 : Int32)) hx hb dX4_meet_62 (by decide) ?_
        rw [hQQ]
        exact W.zret (ty := .boolean) hx hb hr (by decide) (fun t ht hW => ⟨⟨_, (v_waitingCount, v_waiting, v_seen), rfl, h, by rw [ht]; exact hP, hD⟩, hS.F ht⟩) hS.2.2 dX4_meet_63
      · replace h := h.2 c9
        refine lv_aload_n hx hb dX4_meet_26 rfl (lv_at hl 1 rfl) ?_
        refine va_get (D := (dC, dI)) (ci := 4) (v := .int v_waitingCount) (C := RX4) (T := TX4) (N := 10) hx hb hts inX4 hown hK hP 0 rfl rfl 9 (by decide) (hts _ tw59) (fun _ h9 => h9) rfl dX4_meet_27 ?_
        refine lv_bipush (v := (120 : Int32)) hx hb dX4_meet_30 (by decide) ?_
        refine lv_icmp_ge (tgt := 62) hx hb dX4_meet_32 (by decide) (fun c9 => ?_) (fun c9 => ?_)
        · replace h := h.1 c9
          refine lv_iconst (v := (0 : Int32)) hx hb dX4_meet_62 (by decide) ?_
          rw [hQQ]
          exact W.zret (ty := .boolean) hx hb hr (by decide) (fun t ht hW => ⟨⟨_, (v_waitingCount, v_waiting, v_seen), rfl, h, by rw [ht]; exact hP, hD⟩, hS.F ht⟩) hS.2.2 dX4_meet_63
        · replace h := h.2 c9
          refine lv_aload_n hx hb dX4_meet_35 rfl (lv_at hl 1 rfl) ?_
          refine va_get (D := (dC, dI)) (ci := 4) (v := .ref q_seen) (C := RX4) (T := TX4) (N := 10) hx hb hts inX4 hown hK hP 0 rfl rfl 8 (by decide) (hts _ tw58) (fun _ h9 => h9) rfl dX4_meet_36 ?_
          refine lv_iload_n hx hb dX4_meet_39 rfl (lv_at hl 0 rfl) ?_
          refine lv_iconst (v := (1 : Int32)) hx hb dX4_meet_40 (by decide) ?_
          obtain ⟨hin, h⟩ := h
          refine va_zast hx hb hK hP hD hS 8 1 rfl rfl hin dX4_meet_41 (fun H locs hP hD hS => ?_)
          have hP : va_P (dC, dI) vwC [(q_this, .inr (4, [.ref q_characters, .ref q_firsts, .ref q_seconds, .ref q_thirds, .ref q_looses, .int v_count, .ref q_slots, .ref q_waiting, .ref q_seen, .int v_waitingCount])), (q_characters, .inl (cI, 120, .inl v_characters)), (q_firsts, .inl (cI, 120, .inl v_firsts)), (q_seconds, .inl (cI, 120, .inl v_seconds)), (q_thirds, .inl (cI, 120, .inl v_thirds)), (q_looses, .inl (cZ, 120, .inl v_looses)), (q_slots, .inl (cI, 256, .inl v_slots)), (q_waiting, .inl (cI, 120, .inl v_waiting)), (q_seen, .inl (cZ, 120, .inl (upd v_seen r_9.toNatClampNeg (vp_nar .boolean (1 : Int32)))))] H := hP
          have hD : va_D A [(q_this, .inr (4, [.ref q_characters, .ref q_firsts, .ref q_seconds, .ref q_thirds, .ref q_looses, .int v_count, .ref q_slots, .ref q_waiting, .ref q_seen, .int v_waitingCount])), (q_characters, .inl (cI, 120, .inl v_characters)), (q_firsts, .inl (cI, 120, .inl v_firsts)), (q_seconds, .inl (cI, 120, .inl v_seconds)), (q_thirds, .inl (cI, 120, .inl v_thirds)), (q_looses, .inl (cZ, 120, .inl v_looses)), (q_slots, .inl (cI, 256, .inl v_slots)), (q_waiting, .inl (cI, 120, .inl v_waiting)), (q_seen, .inl (cZ, 120, .inl (upd v_seen r_9.toNatClampNeg (vp_nar .boolean (1 : Int32)))))] := hD
          refine lv_aload_n hx hb dX4_meet_42 rfl (lv_at hl 1 rfl) ?_
          refine va_get (D := (dC, dI)) (ci := 4) (v := .ref q_waiting) (C := RX4) (T := TX4) (N := 10) hx hb hts inX4 hown hK hP 0 rfl rfl 7 (by decide) (hts _ tw57) (fun _ h9 => h9) rfl dX4_meet_43 ?_
          refine lv_aload_n hx hb dX4_meet_46 rfl (lv_at hl 1 rfl) ?_
          refine va_get (D := (dC, dI)) (ci := 4) (v := .int v_waitingCount) (C := RX4) (T := TX4) (N := 10) hx hb hts inX4 hown hK hP 0 rfl rfl 9 (by decide) (hts _ tw59) (fun _ h9 => h9) rfl dX4_meet_47 ?_
          refine lv_iload_n hx hb dX4_meet_50 rfl (lv_at hl 0 rfl) ?_
          obtain ⟨hin, h⟩ := h
          refine va_iast hx hb hK hP hD hS 7 0 rfl rfl hin dX4_meet_51 (fun H locs hP hD hS => ?_)
          have hP : va_P (dC, dI) vwC [(q_this, .inr (4, [.ref q_characters, .ref q_firsts, .ref q_seconds, .ref q_thirds, .ref q_looses, .int v_count, .ref q_slots, .ref q_waiting, .ref q_seen, .int v_waitingCount])), (q_characters, .inl (cI, 120, .inl v_characters)), (q_firsts, .inl (cI, 120, .inl v_firsts)), (q_seconds, .inl (cI, 120, .inl v_seconds)), (q_thirds, .inl (cI, 120, .inl v_thirds)), (q_looses, .inl (cZ, 120, .inl v_looses)), (q_slots, .inl (cI, 256, .inl v_slots)), (q_waiting, .inl (cI, 120, .inl (upd v_waiting v_waitingCount.toNatClampNeg r_9))), (q_seen, .inl (cZ, 120, .inl (upd v_seen r_9.toNatClampNeg (vp_nar .boolean (1 : Int32)))))] H := hP
          have hD : va_D A [(q_this, .inr (4, [.ref q_characters, .ref q_firsts, .ref q_seconds, .ref q_thirds, .ref q_looses, .int v_count, .ref q_slots, .ref q_waiting, .ref q_seen, .int v_waitingCount])), (q_characters, .inl (cI, 120, .inl v_characters)), (q_firsts, .inl (cI, 120, .inl v_firsts)), (q_seconds, .inl (cI, 120, .inl v_seconds)), (q_thirds, .inl (cI, 120, .inl v_thirds)), (q_looses, .inl (cZ, 120, .inl v_looses)), (q_slots, .inl (cI, 256, .inl v_slots)), (q_waiting, .inl (cI, 120, .inl (upd v_waiting v_waitingCount.toNatClampNeg r_9))), (q_seen, .inl (cZ, 120, .inl (upd v_seen r_9.toNatClampNeg (vp_nar .boolean (1 : Int32)))))] := hD
          refine lv_aload_n hx hb dX4_meet_52 rfl (lv_at hl 1 rfl) ?_
          refine lv_dup hx hb dX4_meet_53 rfl ?_
          refine va_get (D := (dC, dI)) (ci := 4) (v := .int v_waitingCount) (C := RX4) (T := TX4) (N := 10) hx hb hts inX4 hown hK hP 0 rfl rfl 9 (by decide) (hts _ tw59) (fun _ h9 => h9) rfl dX4_meet_54 ?_
          refine lv_iconst (v := (1 : Int32)) hx hb dX4_meet_57 (by decide) ?_
          refine lv_iadd hx hb dX4_meet_58 ?_
          refine va_put (D := (dC, dI)) (ci := 4) (v := .int (v_waitingCount + (1 : Int32))) (ty := .int) (C := RX4) (T := TX4) (N := 10) hx hb hts inX4 tyX4 tyX4_ok nmX4 hown hK hP hD hS 0 rfl rfl 9 (by decide) (hts _ tw59) (fun _ h9 => h9) rfl (by decide +kernel) rfl rfl (Nat.le_of_ble_eq_true rfl) dX4_meet_59 (fun H locs hP hD hS => ?_)
          have hP : va_P (dC, dI) vwC [(q_this, .inr (4, [.ref q_characters, .ref q_firsts, .ref q_seconds, .ref q_thirds, .ref q_looses, .int v_count, .ref q_slots, .ref q_waiting, .ref q_seen, .int (v_waitingCount + (1 : Int32))])), (q_characters, .inl (cI, 120, .inl v_characters)), (q_firsts, .inl (cI, 120, .inl v_firsts)), (q_seconds, .inl (cI, 120, .inl v_seconds)), (q_thirds, .inl (cI, 120, .inl v_thirds)), (q_looses, .inl (cZ, 120, .inl v_looses)), (q_slots, .inl (cI, 256, .inl v_slots)), (q_waiting, .inl (cI, 120, .inl (upd v_waiting v_waitingCount.toNatClampNeg r_9))), (q_seen, .inl (cZ, 120, .inl (upd v_seen r_9.toNatClampNeg (vp_nar .boolean (1 : Int32)))))] H := hP
          have hD : va_D A [(q_this, .inr (4, [.ref q_characters, .ref q_firsts, .ref q_seconds, .ref q_thirds, .ref q_looses, .int v_count, .ref q_slots, .ref q_waiting, .ref q_seen, .int (v_waitingCount + (1 : Int32))])), (q_characters, .inl (cI, 120, .inl v_characters)), (q_firsts, .inl (cI, 120, .inl v_firsts)), (q_seconds, .inl (cI, 120, .inl v_seconds)), (q_thirds, .inl (cI, 120, .inl v_thirds)), (q_looses, .inl (cZ, 120, .inl v_looses)), (q_slots, .inl (cI, 256, .inl v_slots)), (q_waiting, .inl (cI, 120, .inl (upd v_waiting v_waitingCount.toNatClampNeg r_9))), (q_seen, .inl (cZ, 120, .inl (upd v_seen r_9.toNatClampNeg (vp_nar .boolean (1 : Int32)))))] := hD
          refine lv_iconst (v := (0 : Int32)) hx hb dX4_meet_62 (by decide) ?_
          rw [hQQ]
          exact W.zret (ty := .boolean) hx hb hr (by decide) (fun t ht hW => ⟨⟨_, ((v_waitingCount + (1 : Int32)), (upd v_waiting v_waitingCount.toNatClampNeg r_9), (upd v_seen r_9.toNatClampNeg (vp_nar .boolean (1 : Int32)))), rfl, h, by rw [ht]; exact hP, hD⟩, hS.F ht⟩) hS.2.2 dX4_meet_63
  · replace h := h.2 c9
    refine lv_iconst (v := (1 : Int32)) hx hb dX4_meet_5 (by decide) ?_
    rw [hQQ]
    exact W.zret (ty := .boolean) hx hb hr (by decide) (fun t ht hW => ⟨⟨_, (v_waitingCount, v_waiting, v_seen), rfl, h, by rw [ht]; exact hP, hD⟩, hS.F ht⟩) hS.2.2 dX4_meet_6
set_option maxHeartbeats 4000000 in
set_option maxRecDepth 100000 in
theorem m_X4_follow (l : Launch) (dC : Nat → ClassId) (dI : Nat → Nat → Nat) (cI cZ cJ : ClassId) (q_this : Nat) (q_characters : Nat) (q_firsts : Nat) (q_seconds : Nat) (q_thirds : Nat) (q_looses : Nat) (q_slots : Nat) (q_waiting : Nat) (q_seen : Nat) (v_count : Int32) (v_waitingCount : Int32) (v_characters : Nat → Int32) (v_firsts : Nat → Int32) (v_seconds : Nat → Int32) (v_thirds : Nat → Int32) (v_looses : Nat → Int32) (v_slots : Nat → Int32) (v_waiting : Nat → Int32) (v_seen : Nat → Int32) (a1 : Int32) (a2 : Int32) (sz : Nat) (post : Int32 → Int32 → (Nat → Int32) → (Nat → Int32) → Prop) (h : w_X4_follow post v_waitingCount v_characters v_slots v_waiting v_seen a1 a2) : Met l yX4_follow [.code yX4_follow cX4_follow 3 (some .boolean)] ({ frames := 3, cells := 0, slots := 0, locals := 68 } : Room) (va_Pc [.ref q_this, .int a1, .int a2] (fun U => U.heap.size = sz ∧ va_P (dC, dI) vwC [(q_this, .inr (4, [.ref q_characters, .ref q_firsts, .ref q_seconds, .ref q_thirds, .ref q_looses, .int v_count, .ref q_slots, .ref q_waiting, .ref q_seen, .int v_waitingCount])), (q_characters, .inl (cI, 120, .inl v_characters)), (q_firsts, .inl (cI, 120, .inl v_firsts)), (q_seconds, .inl (cI, 120, .inl v_seconds)), (q_thirds, .inl (cI, 120, .inl v_thirds)), (q_looses, .inl (cZ, 120, .inl v_looses)), (q_slots, .inl (cI, 256, .inl v_slots)), (q_waiting, .inl (cI, 120, .inl v_waiting)), (q_seen, .inl (cZ, 120, .inl v_seen))] U.heap ∧ KK dC dI cI cZ cJ U ∧ va_D (fun _ => True) [(q_this, .inr (4, [.ref q_characters, .ref q_firsts, .ref q_seconds, .ref q_thirds, .ref q_looses, .int v_count, .ref q_slots, .ref q_waiting, .ref q_seen, .int v_waitingCount])), (q_characters, .inl (cI, 120, .inl v_characters)), (q_firsts, .inl (cI, 120, .inl v_firsts)), (q_seconds, .inl (cI, 120, .inl v_seconds)), (q_thirds, .inl (cI, 120, .inl v_thirds)), (q_looses, .inl (cZ, 120, .inl v_looses)), (q_slots, .inl (cI, 256, .inl v_slots)), (q_waiting, .inl (cI, 120, .inl v_waiting)), (q_seen, .inl (cZ, 120, .inl v_seen))])) (va_Qi (fun (r : Int32) (u : Int32 × (Nat → Int32) × (Nat → Int32)) => post r u.1 u.2.1 u.2.2) (fun (u : Int32 × (Nat → Int32) × (Nat → Int32)) (t : State) => va_P (dC, dI) vwC [(q_this, .inr (4, [.ref q_characters, .ref q_firsts, .ref q_seconds, .ref q_thirds, .ref q_looses, .int v_count, .ref q_slots, .ref q_waiting, .ref q_seen, .int u.1])), (q_characters, .inl (cI, 120, .inl v_characters)), (q_firsts, .inl (cI, 120, .inl v_firsts)), (q_seconds, .inl (cI, 120, .inl v_seconds)), (q_thirds, .inl (cI, 120, .inl v_thirds)), (q_looses, .inl (cZ, 120, .inl v_looses)), (q_slots, .inl (cI, 256, .inl v_slots)), (q_waiting, .inl (cI, 120, .inl u.2.1)), (q_seen, .inl (cZ, 120, .inl u.2.2))] t.heap ∧ va_D (va_A [(q_this, .inr (4, [.ref q_characters, .ref q_firsts, .ref q_seconds, .ref q_thirds, .ref q_looses, .int v_count, .ref q_slots, .ref q_waiting, .ref q_seen, .int v_waitingCount])), (q_characters, .inl (cI, 120, .inl v_characters)), (q_firsts, .inl (cI, 120, .inl v_firsts)), (q_seconds, .inl (cI, 120, .inl v_seconds)), (q_thirds, .inl (cI, 120, .inl v_thirds)), (q_looses, .inl (cZ, 120, .inl v_looses)), (q_slots, .inl (cI, 256, .inl v_slots)), (q_waiting, .inl (cI, 120, .inl v_waiting)), (q_seen, .inl (cZ, 120, .inl v_seen))] sz) [(q_this, .inr (4, [.ref q_characters, .ref q_firsts, .ref q_seconds, .ref q_thirds, .ref q_looses, .int v_count, .ref q_slots, .ref q_waiting, .ref q_seen, .int u.1])), (q_characters, .inl (cI, 120, .inl v_characters)), (q_firsts, .inl (cI, 120, .inl v_firsts)), (q_seconds, .inl (cI, 120, .inl v_seconds)), (q_thirds, .inl (cI, 120, .inl v_thirds)), (q_looses, .inl (cZ, 120, .inl v_looses)), (q_slots, .inl (cI, 256, .inl v_slots)), (q_waiting, .inl (cI, 120, .inl u.2.1)), (q_seen, .inl (cZ, 120, .inl u.2.2))]) (va_A [(q_this, .inr (4, [.ref q_characters, .ref q_firsts, .ref q_seconds, .ref q_thirds, .ref q_looses, .int v_count, .ref q_slots, .ref q_waiting, .ref q_seen, .int v_waitingCount])), (q_characters, .inl (cI, 120, .inl v_characters)), (q_firsts, .inl (cI, 120, .inl v_firsts)), (q_seconds, .inl (cI, 120, .inl v_seconds)), (q_thirds, .inl (cI, 120, .inl v_thirds)), (q_looses, .inl (cZ, 120, .inl v_looses)), (q_slots, .inl (cI, 256, .inl v_slots)), (q_waiting, .inl (cI, 120, .inl v_waiting)), (q_seen, .inl (cZ, 120, .inl v_seen))] sz)) 0 0 (va_A [(q_this, .inr (4, [.ref q_characters, .ref q_firsts, .ref q_seconds, .ref q_thirds, .ref q_looses, .int v_count, .ref q_slots, .ref q_waiting, .ref q_seen, .int v_waitingCount])), (q_characters, .inl (cI, 120, .inl v_characters)), (q_firsts, .inl (cI, 120, .inl v_firsts)), (q_seconds, .inl (cI, 120, .inl v_seconds)), (q_thirds, .inl (cI, 120, .inl v_thirds)), (q_looses, .inl (cZ, 120, .inl v_looses)), (q_slots, .inl (cI, 256, .inl v_slots)), (q_waiting, .inl (cI, 120, .inl v_waiting)), (q_seen, .inl (cZ, 120, .inl v_seen))] sz) := by
  refine Met.ofW (cc := cX4_follow) (maxL := 3) (ret := (some .boolean)) (by decide) rfl ?_
  intro p e s m args below meth c s₁ B hml hv
  obtain ⟨rfl, hsz, hP, hKK, hD0⟩ := hv
  have hK := hKK.1
  have hx := B.exec
  have hb := B.bytes
  have hr := B.returns
  have hts : ∀ w ∈ TG, w.before (List.toArray [.ref q_this, .int a1, .int a2]) s = true := hKK.ts
  have hown : s.vm.findClass RX4 = some m.cls := findClass_of_methodNamed B.named
  have hlocks := B.notSynchronized
  subst hsz
  have hD := hD0.self (sz := s.heap.size)
  generalize hAe : va_A [(q_this, .inr (4, [.ref q_characters, .ref q_firsts, .ref q_seconds, .ref q_thirds, .ref q_looses, .int v_count, .ref q_slots, .ref q_waiting, .ref q_seen, .int v_waitingCount])), (q_characters, .inl (cI, 120, .inl v_characters)), (q_firsts, .inl (cI, 120, .inl v_firsts)), (q_seconds, .inl (cI, 120, .inl v_seconds)), (q_thirds, .inl (cI, 120, .inl v_thirds)), (q_looses, .inl (cZ, 120, .inl v_looses)), (q_slots, .inl (cI, 256, .inl v_slots)), (q_waiting, .inl (cI, 120, .inl v_waiting)), (q_seen, .inl (cZ, 120, .inl v_seen))] s.heap.size = A at hD ⊢
  have hA : ∀ q : Nat, s.heap.size ≤ q → A q := fun q h => by rw [← hAe]; exact Or.inr h
  have hS : va_S A s.heap s.heap [] := va_S.rf
  have hl := lv_entry ([.ref q_this, .int a1, .int a2]) (n := 3) (Nat.le_of_ble_eq_true rfl)
  rw [lg_entry_eq]
  generalize (lg_sl ([.ref q_this, .int a1, .int a2]) ++ List.replicate (3 - (lg_sl ([.ref q_this, .int a1, .int a2])).length) Slot.unset).toArray = ls at hl ⊢
  have hl : lv_has ls 3 [(0, .ref q_this), (1, .int a1), (2, .int a2)] := hl
  obtain ⟨QQ, hQQ⟩ : ∃ z, z = MQ below (va_Qi (fun (r : Int32) (u : Int32 × (Nat → Int32) × (Nat → Int32)) => post r u.1 u.2.1 u.2.2) (fun (u : Int32 × (Nat → Int32) × (Nat → Int32)) (t : State) => va_P (dC, dI) vwC [(q_this, .inr (4, [.ref q_characters, .ref q_firsts, .ref q_seconds, .ref q_thirds, .ref q_looses, .int v_count, .ref q_slots, .ref q_waiting, .ref q_seen, .int u.1])), (q_characters, .inl (cI, 120, .inl v_characters)), (q_firsts, .inl (cI, 120, .inl v_firsts)), (q_seconds, .inl (cI, 120, .inl v_seconds)), (q_thirds, .inl (cI, 120, .inl v_thirds)), (q_looses, .inl (cZ, 120, .inl v_looses)), (q_slots, .inl (cI, 256, .inl v_slots)), (q_waiting, .inl (cI, 120, .inl u.2.1)), (q_seen, .inl (cZ, 120, .inl u.2.2))] t.heap ∧ va_D A [(q_this, .inr (4, [.ref q_characters, .ref q_firsts, .ref q_seconds, .ref q_thirds, .ref q_looses, .int v_count, .ref q_slots, .ref q_waiting, .ref q_seen, .int u.1])), (q_characters, .inl (cI, 120, .inl v_characters)), (q_firsts, .inl (cI, 120, .inl v_firsts)), (q_seconds, .inl (cI, 120, .inl v_seconds)), (q_thirds, .inl (cI, 120, .inl v_thirds)), (q_looses, .inl (cZ, 120, .inl v_looses)), (q_slots, .inl (cI, 256, .inl v_slots)), (q_waiting, .inl (cI, 120, .inl u.2.1)), (q_seen, .inl (cZ, 120, .inl u.2.2))]) A) (List.toArray [.ref q_this, .int a1, .int a2]) s 0 0 A := ⟨_, rfl⟩
  rw [← hQQ]
  refine lv_iload_n hx hb dX4_follow_0 rfl (lv_at hl 2 rfl) ?_
  have hPc := hP.sub (ws' := []) [] rfl
  refine na_calls (va_runSN (As := [.int a2]) (rest := []) ⟨hx, hb, hml, hown, hts⟩ (m_X5_has l dC dI cI cZ cJ a2 _ h) ⟨va_cnB 1 hts (na_gC tw334 rfl) rfl rfl rfl (hKK.2.1 _ tw373) (hts _ tw13) (by decide +kernel) ⟨Nat.le_of_ble_eq_true rfl, Nat.le_of_ble_eq_true rfl⟩, hts _ tw333, trivial⟩ ⟨fun a U g mk q => by obtain ⟨q0, qP, qK⟩ := q; exact ⟨q0, qP, qK.same rfl⟩, fun U hU hW => ⟨rfl, by rw [hU]; exact hPc, hKK.warm hW⟩⟩ rfl rfl hl.1 rfl (lv_room (Nat.le_of_ble_eq_true rfl)) dX4_follow_1 ⟨Nat.zero_le _, Nat.zero_le _⟩) (fun r_1 h => ?_)
  refine lv_if_ne (tgt := 14) hx hb dX4_follow_4 (by decide) (fun c9 => ?_) (fun c9 => ?_)
  · replace h := h.1 c9
    refine lv_aload_n hx hb dX4_follow_14 rfl (lv_at hl 0 rfl) ?_
    refine lv_iload_n hx hb dX4_follow_15 rfl (lv_at hl 1 rfl) ?_
    refine lv_iload_n hx hb dX4_follow_16 rfl (lv_at hl 2 rfl) ?_
    have hPc := hP.sub (ws' := []) [] rfl
    refine na_calls (va_runSN (As := [.int a2]) (rest := [.int a1, .ref q_this]) ⟨hx, hb, hml, hown, hts⟩ (m_X5_lead l dC dI cI cZ cJ a2 _ h) ⟨va_cnB 1 hts (na_gC tw380 rfl) rfl rfl rfl (hKK.2.1 _ tw378) (hts _ tw13) (by decide +kernel) ⟨Nat.le_of_ble_eq_true rfl, Nat.le_of_ble_eq_true rfl⟩, hts _ tw379, trivial⟩ ⟨fun a U g mk q => by obtain ⟨q0, qP, qK⟩ := q; exact ⟨q0, qP, qK.same rfl⟩, fun U hU hW => ⟨rfl, by rw [hU]; exact hPc, hKK.warm hW⟩⟩ rfl rfl hl.1 rfl (lv_room (Nat.le_of_ble_eq_true rfl)) dX4_follow_17 ⟨Nat.zero_le _, Nat.zero_le _⟩) (fun r_17 h => ?_)
    have hPc := hP.sub (ws' := [(q_this, .inr (4, [.ref q_characters, .ref q_firsts, .ref q_seconds, .ref q_thirds, .ref q_looses, .int v_count, .ref q_slots, .ref q_waiting, .ref q_seen, .int v_waitingCount])), (q_characters, .inl (cI, 120, .inl v_characters)), (q_firsts, .inl (cI, 120, .inl v_firsts)), (q_seconds, .inl (cI, 120, .inl v_seconds)), (q_thirds, .inl (cI, 120, .inl v_thirds)), (q_looses, .inl (cZ, 120, .inl v_looses)), (q_slots, .inl (cI, 256, .inl v_slots)), (q_waiting, .inl (cI, 120, .inl v_waiting)), (q_seen, .inl (cZ, 120, .inl v_seen))]) [0, 1, 2, 3, 4, 5, 6, 7, 8] rfl
    have hDc := hD.sub (ws' := [(q_this, .inr (4, [.ref q_characters, .ref q_firsts, .ref q_seconds, .ref q_thirds, .ref q_looses, .int v_count, .ref q_slots, .ref q_waiting, .ref q_seen, .int v_waitingCount])), (q_characters, .inl (cI, 120, .inl v_characters)), (q_firsts, .inl (cI, 120, .inl v_firsts)), (q_seconds, .inl (cI, 120, .inl v_seconds)), (q_thirds, .inl (cI, 120, .inl v_thirds)), (q_looses, .inl (cZ, 120, .inl v_looses)), (q_slots, .inl (cI, 256, .inl v_slots)), (q_waiting, .inl (cI, 120, .inl v_waiting)), (q_seen, .inl (cZ, 120, .inl v_seen))]) [0, 1, 2, 3, 4, 5, 6, 7, 8] (by decide) rfl
    have hFc := va_free (wc := [(q_this, .inr (4, [.ref q_characters, .ref q_firsts, .ref q_seconds, .ref q_thirds, .ref q_looses, .int v_count, .ref q_slots, .ref q_waiting, .ref q_seen, .int v_waitingCount])), (q_characters, .inl (cI, 120, .inl v_characters)), (q_firsts, .inl (cI, 120, .inl v_firsts)), (q_seconds, .inl (cI, 120, .inl v_seconds)), (q_thirds, .inl (cI, 120, .inl v_thirds)), (q_looses, .inl (cZ, 120, .inl v_looses)), (q_slots, .inl (cI, 256, .inl v_slots)), (q_waiting, .inl (cI, 120, .inl v_waiting)), (q_seen, .inl (cZ, 120, .inl v_seen))]) hD hS hA [0, 1, 2, 3, 4, 5, 6, 7, 8] rfl
    refine va_calli (va_runV (As := [.int a1, .int r_17]) (rest := []) ⟨hx, hb, hml, hown, hts⟩ (m_X4_meet l dC dI cI cZ cJ q_this q_characters q_firsts q_seconds q_thirds q_looses q_slots q_waiting q_seen v_count v_waitingCount v_characters v_firsts v_seconds v_thirds v_looses v_slots v_waiting v_seen a1 r_17 s.heap.size _ h) (cwV 2 hts (na_gV tw374 tw376 tp14 tw3 tw377 rfl) rfl rfl rfl (by decide +kernel) ⟨Nat.le_of_ble_eq_true rfl, Nat.le_of_ble_eq_true rfl⟩) ⟨fun a U g mk q => by obtain ⟨q0, q1, qP, qK, qD⟩ := q; exact ⟨q0, q1, qP, qK.same rfl, qD⟩, va_recv hK hPc (ci := 4) (q0 := 0) rfl rfl, fun U hU hW => ⟨rfl, by rw [hU], by rw [hU]; exact hPc, hKK.warm hW, hDc.weaken (fun _ _ _ _ => trivial)⟩⟩ rfl rfl hl.1 rfl (lv_room (Nat.le_of_ble_eq_true rfl)) dX4_follow_20 ⟨Nat.zero_le _, Nat.zero_le _⟩) hS (fun q _ h => hFc q h) hFc (fun r_20 u t H1 locs ht hvm h hB hz1 hk1 hS => ?_)
    obtain ⟨v_waitingCount_20, v_waiting_20, v_seen_20⟩ := u
    obtain ⟨hP1, hD1⟩ := hB
    rw [ht] at hP1
    try dsimp only at h hP1 hD1
    obtain ⟨hP, hD⟩ := va_join (wr := []) (w1 := [(q_this, .inr (4, [.ref q_characters, .ref q_firsts, .ref q_seconds, .ref q_thirds, .ref q_looses, .int v_count, .ref q_slots, .ref q_waiting, .ref q_seen, .int v_waitingCount_20])), (q_characters, .inl (cI, 120, .inl v_characters)), (q_firsts, .inl (cI, 120, .inl v_firsts)), (q_seconds, .inl (cI, 120, .inl v_seconds)), (q_thirds, .inl (cI, 120, .inl v_thirds)), (q_looses, .inl (cZ, 120, .inl v_looses)), (q_slots, .inl (cI, 256, .inl v_slots)), (q_waiting, .inl (cI, 120, .inl v_waiting_20)), (q_seen, .inl (cZ, 120, .inl v_seen_20))]) hP hD [0, 1, 2, 3, 4, 5, 6, 7, 8] [] rfl rfl (by decide) (by decide) hk1 hFc hP1 hD1
    generalize H1 = H at hP hS ⊢
    have hP : va_P (dC, dI) vwC [(q_this, .inr (4, [.ref q_characters, .ref q_firsts, .ref q_seconds, .ref q_thirds, .ref q_looses, .int v_count, .ref q_slots, .ref q_waiting, .ref q_seen, .int v_waitingCount_20])), (q_characters, .inl (cI, 120, .inl v_characters)), (q_firsts, .inl (cI, 120, .inl v_firsts)), (q_seconds, .inl (cI, 120, .inl v_seconds)), (q_thirds, .inl (cI, 120, .inl v_thirds)), (q_looses, .inl (cZ, 120, .inl v_looses)), (q_slots, .inl (cI, 256, .inl v_slots)), (q_waiting, .inl (cI, 120, .inl v_waiting_20)), (q_seen, .inl (cZ, 120, .inl v_seen_20))] H := hP.sub [0, 1, 2, 3, 4, 5, 6, 7, 8] rfl
    have hD : va_D A [(q_this, .inr (4, [.ref q_characters, .ref q_firsts, .ref q_seconds, .ref q_thirds, .ref q_looses, .int v_count, .ref q_slots, .ref q_waiting, .ref q_seen, .int v_waitingCount_20])), (q_characters, .inl (cI, 120, .inl v_characters)), (q_firsts, .inl (cI, 120, .inl v_firsts)), (q_seconds, .inl (cI, 120, .inl v_seconds)), (q_thirds, .inl (cI, 120, .inl v_thirds)), (q_looses, .inl (cZ, 120, .inl v_looses)), (q_slots, .inl (cI, 256, .inl v_slots)), (q_waiting, .inl (cI, 120, .inl v_waiting_20)), (q_seen, .inl (cZ, 120, .inl v_seen_20))] := hD.sub [0, 1, 2, 3, 4, 5, 6, 7, 8] (by decide) rfl
    refine lv_if_ne (tgt := 57) hx hb dX4_follow_23 (by decide) (fun c9 => ?_) (fun c9 => ?_)
    · replace h := h.1 c9
      refine lv_iconst (v := (1 : Int32)) hx hb dX4_follow_57 (by decide) ?_
      refine lv_goto (tgt := 62) hx hb dX4_follow_58 (by decide) ?_
      rw [hQQ]
      exact W.zret (ty := .boolean) hx hb hr (by decide) (fun t ht hW => ⟨⟨_, (v_waitingCount_20, v_waiting_20, v_seen_20), rfl, h, by rw [ht]; exact hP, hD⟩, hS.F ht⟩) hS.2.2 dX4_follow_62
    · replace h := h.2 c9
      refine lv_aload_n hx hb dX4_follow_26 rfl (lv_at hl 0 rfl) ?_
      refine lv_iload_n hx hb dX4_follow_27 rfl (lv_at hl 1 rfl) ?_
      refine lv_iload_n hx hb dX4_follow_28 rfl (lv_at hl 2 rfl) ?_
      have hPc := hP.sub (ws' := []) [] rfl
      refine na_calls (va_runSN (As := [.int a2]) (rest := [.int a1, .ref q_this]) ⟨hx, hb, hml, hown, hts⟩ (m_X5_vowel l dC dI cI cZ cJ a2 _ h) ⟨va_cnB 1 hts (na_gC tw383 rfl) rfl rfl rfl (hKK.2.1 _ tw381) (hts _ tw13) (by decide +kernel) ⟨Nat.le_of_ble_eq_true rfl, Nat.le_of_ble_eq_true rfl⟩, hts _ tw382, trivial⟩ ⟨fun a U g mk q => by obtain ⟨q0, qP, qK⟩ := q; exact ⟨q0, qP, qK.same rfl⟩, fun U hU hW => ⟨rfl, by rw [hU]; exact hPc, hKK.warm hW⟩⟩ rfl rfl hl.1 rfl (lv_room (Nat.le_of_ble_eq_true rfl)) dX4_follow_29 ⟨Nat.zero_le _, Nat.zero_le _⟩) (fun r_29 h => ?_)
      have hPc := hP.sub (ws' := [(q_this, .inr (4, [.ref q_characters, .ref q_firsts, .ref q_seconds, .ref q_thirds, .ref q_looses, .int v_count, .ref q_slots, .ref q_waiting, .ref q_seen, .int v_waitingCount_20])), (q_characters, .inl (cI, 120, .inl v_characters)), (q_firsts, .inl (cI, 120, .inl v_firsts)), (q_seconds, .inl (cI, 120, .inl v_seconds)), (q_thirds, .inl (cI, 120, .inl v_thirds)), (q_looses, .inl (cZ, 120, .inl v_looses)), (q_slots, .inl (cI, 256, .inl v_slots)), (q_waiting, .inl (cI, 120, .inl v_waiting_20)), (q_seen, .inl (cZ, 120, .inl v_seen_20))]) [0, 1, 2, 3, 4, 5, 6, 7, 8] rfl
      have hDc := hD.sub (ws' := [(q_this, .inr (4, [.ref q_characters, .ref q_firsts, .ref q_seconds, .ref q_thirds, .ref q_looses, .int v_count, .ref q_slots, .ref q_waiting, .ref q_seen, .int v_waitingCount_20])), (q_characters, .inl (cI, 120, .inl v_characters)), (q_firsts, .inl (cI, 120, .inl v_firsts)), (q_seconds, .inl (cI, 120, .inl v_seconds)), (q_thirds, .inl (cI, 120, .inl v_thirds)), (q_looses, .inl (cZ, 120, .inl v_looses)), (q_slots, .inl (cI, 256, .inl v_slots)), (q_waiting, .inl (cI, 120, .inl v_waiting_20)), (q_seen, .inl (cZ, 120, .inl v_seen_20))]) [0, 1, 2, 3, 4, 5, 6, 7, 8] (by decide) rfl
      have hFc := va_free (wc := [(q_this, .inr (4, [.ref q_characters, .ref q_firsts, .ref q_seconds, .ref q_thirds, .ref q_looses, .int v_count, .ref q_slots, .ref q_waiting, .ref q_seen, .int v_waitingCount_20])), (q_characters, .inl (cI, 120, .inl v_characters)), (q_firsts, .inl (cI, 120, .inl v_firsts)), (q_seconds, .inl (cI, 120, .inl v_seconds)), (q_thirds, .inl (cI, 120, .inl v_thirds)), (q_looses, .inl (cZ, 120, .inl v_looses)), (q_slots, .inl (cI, 256, .inl v_slots)), (q_waiting, .inl (cI, 120, .inl v_waiting_20)), (q_seen, .inl (cZ, 120, .inl v_seen_20))]) hD hS hA [0, 1, 2, 3, 4, 5, 6, 7, 8] rfl
      refine va_calli (va_runV (As := [.int a1, .int r_29]) (rest := []) ⟨hx, hb, hml, hown, hts⟩ (m_X4_meet l dC dI cI cZ cJ q_this q_characters q_firsts q_seconds q_thirds q_looses q_slots q_waiting q_seen v_count v_waitingCount_20 v_characters v_firsts v_seconds v_thirds v_looses v_slots v_waiting_20 v_seen_20 a1 r_29 H.size _ h) (cwV 2 hts (na_gV tw374 tw376 tp14 tw3 tw377 rfl) rfl rfl rfl (by decide +kernel) ⟨Nat.le_of_ble_eq_true rfl, Nat.le_of_ble_eq_true rfl⟩) ⟨fun a U g mk q => by obtain ⟨q0, q1, qP, qK, qD⟩ := q; exact ⟨q0, q1, qP, qK.same rfl, qD⟩, va_recv hK hPc (ci := 4) (q0 := 0) rfl rfl, fun U hU hW => ⟨rfl, by rw [hU], by rw [hU]; exact hPc, hKK.warm hW, hDc.weaken (fun _ _ _ _ => trivial)⟩⟩ rfl rfl hl.1 rfl (lv_room (Nat.le_of_ble_eq_true rfl)) dX4_follow_32 ⟨Nat.zero_le _, Nat.zero_le _⟩) hS (fun q _ h => hFc q h) hFc (fun r_32 u t H1 locs ht hvm h hB hz1 hk1 hS => ?_)
      obtain ⟨v_waitingCount_32, v_waiting_32, v_seen_32⟩ := u
      obtain ⟨hP1, hD1⟩ := hB
      rw [ht] at hP1
      try dsimp only at h hP1 hD1
      obtain ⟨hP, hD⟩ := va_join (wr := []) (w1 := [(q_this, .inr (4, [.ref q_characters, .ref q_firsts, .ref q_seconds, .ref q_thirds, .ref q_looses, .int v_count, .ref q_slots, .ref q_waiting, .ref q_seen, .int v_waitingCount_32])), (q_characters, .inl (cI, 120, .inl v_characters)), (q_firsts, .inl (cI, 120, .inl v_firsts)), (q_seconds, .inl (cI, 120, .inl v_seconds)), (q_thirds, .inl (cI, 120, .inl v_thirds)), (q_looses, .inl (cZ, 120, .inl v_looses)), (q_slots, .inl (cI, 256, .inl v_slots)), (q_waiting, .inl (cI, 120, .inl v_waiting_32)), (q_seen, .inl (cZ, 120, .inl v_seen_32))]) hP hD [0, 1, 2, 3, 4, 5, 6, 7, 8] [] rfl rfl (by decide) (by decide) hk1 hFc hP1 hD1
      generalize H1 = H at hP hS ⊢
      have hP : va_P (dC, dI) vwC [(q_this, .inr (4, [.ref q_characters, .ref q_firsts, .ref q_seconds, .ref q_thirds, .ref q_looses, .int v_count, .ref q_slots, .ref q_waiting, .ref q_seen, .int v_waitingCount_32])), (q_characters, .inl (cI, 120, .inl v_characters)), (q_firsts, .inl (cI, 120, .inl v_firsts)), (q_seconds, .inl (cI, 120, .inl v_seconds)), (q_thirds, .inl (cI, 120, .inl v_thirds)), (q_looses, .inl (cZ, 120, .inl v_looses)), (q_slots, .inl (cI, 256, .inl v_slots)), (q_waiting, .inl (cI, 120, .inl v_waiting_32)), (q_seen, .inl (cZ, 120, .inl v_seen_32))] H := hP.sub [0, 1, 2, 3, 4, 5, 6, 7, 8] rfl
      have hD : va_D A [(q_this, .inr (4, [.ref q_characters, .ref q_firsts, .ref q_seconds, .ref q_thirds, .ref q_looses, .int v_count, .ref q_slots, .ref q_waiting, .ref q_seen, .int v_waitingCount_32])), (q_characters, .inl (cI, 120, .inl v_characters)), (q_firsts, .inl (cI, 120, .inl v_firsts)), (q_seconds, .inl (cI, 120, .inl v_seconds)), (q_thirds, .inl (cI, 120, .inl v_thirds)), (q_looses, .inl (cZ, 120, .inl v_looses)), (q_slots, .inl (cI, 256, .inl v_slots)), (q_waiting, .inl (cI, 120, .inl v_waiting_32)), (q_seen, .inl (cZ, 120, .inl v_seen_32))] := hD.sub [0, 1, 2, 3, 4, 5, 6, 7, 8] (by decide) rfl
      refine lv_if_ne (tgt := 57) hx hb dX4_follow_35 (by decide) (fun c9 => ?_) (fun c9 => ?_)
      · replace h := h.1 c9
        refine lv_iconst (v := (1 : Int32)) hx hb dX4_follow_57 (by decide) ?_
        refine lv_goto (tgt := 62) hx hb dX4_follow_58 (by decide) ?_
        rw [hQQ]
        exact W.zret (ty := .boolean) hx hb hr (by decide) (fun t ht hW => ⟨⟨_, (v_waitingCount_32, v_waiting_32, v_seen_32), rfl, h, by rw [ht]; exact hP, hD⟩, hS.F ht⟩) hS.2.2 dX4_follow_62
      · replace h := h.2 c9
        refine lv_iload_n hx hb dX4_follow_38 rfl (lv_at hl 2 rfl) ?_
        have hPc := hP.sub (ws' := []) [] rfl
        refine na_calls (va_runSN (As := [.int a2]) (rest := []) ⟨hx, hb, hml, hown, hts⟩ (m_X5_hasTail l dC dI cI cZ cJ a2 _ h) ⟨va_cnB 1 hts (na_gC tw363 rfl) rfl rfl rfl (hKK.2.1 _ tw384) (hts _ tw13) (by decide +kernel) ⟨Nat.le_of_ble_eq_true rfl, Nat.le_of_ble_eq_true rfl⟩, hts _ tw362, trivial⟩ ⟨fun a U g mk q => by obtain ⟨q0, qP, qK⟩ := q; exact ⟨q0, qP, qK.same rfl⟩, fun U hU hW => ⟨rfl, by rw [hU]; exact hPc, hKK.warm hW⟩⟩ rfl rfl hl.1 rfl (lv_room (Nat.le_of_ble_eq_true rfl)) dX4_follow_39 ⟨Nat.zero_le _, Nat.zero_le _⟩) (fun r_39 h => ?_)
        refine lv_if_eq (tgt := 61) hx hb dX4_follow_42 (by decide) (fun c9 => ?_) (fun c9 => ?_)
        · replace h := h.1 c9
          refine lv_iconst (v := (0 : Int32)) hx hb dX4_follow_61 (by decide) ?_
          rw [hQQ]
          exact W.zret (ty := .boolean) hx hb hr (by decide) (fun t ht hW => ⟨⟨_, (v_waitingCount_32, v_waiting_32, v_seen_32), rfl, h, by rw [ht]; exact hP, hD⟩, hS.F ht⟩) hS.2.2 dX4_follow_62
        · replace h := h.2 c9
          refine lv_aload_n hx hb dX4_follow_45 rfl (lv_at hl 0 rfl) ?_
          refine lv_iload_n hx hb dX4_follow_46 rfl (lv_at hl 1 rfl) ?_
          refine lv_iload_n hx hb dX4_follow_47 rfl (lv_at hl 2 rfl) ?_
          have hPc := hP.sub (ws' := []) [] rfl
          refine na_calls (va_runSN (As := [.int a2]) (rest := [.int a1, .ref q_this]) ⟨hx, hb, hml, hown, hts⟩ (m_X5_tail l dC dI cI cZ cJ a2 _ h) ⟨va_cnB 1 hts (na_gC tw387 rfl) rfl rfl rfl (hKK.2.1 _ tw385) (hts _ tw13) (by decide +kernel) ⟨Nat.le_of_ble_eq_true rfl, Nat.le_of_ble_eq_true rfl⟩, hts _ tw386, trivial⟩ ⟨fun a U g mk q => by obtain ⟨q0, qP, qK⟩ := q; exact ⟨q0, qP, qK.same rfl⟩, fun U hU hW => ⟨rfl, by rw [hU]; exact hPc, hKK.warm hW⟩⟩ rfl rfl hl.1 rfl (lv_room (Nat.le_of_ble_eq_true rfl)) dX4_follow_48 ⟨Nat.zero_le _, Nat.zero_le _⟩) (fun r_48 h => ?_)
          have hPc := hP.sub (ws' := [(q_this, .inr (4, [.ref q_characters, .ref q_firsts, .ref q_seconds, .ref q_thirds, .ref q_looses, .int v_count, .ref q_slots, .ref q_waiting, .ref q_seen, .int v_waitingCount_32])), (q_characters, .inl (cI, 120, .inl v_characters)), (q_firsts, .inl (cI, 120, .inl v_firsts)), (q_seconds, .inl (cI, 120, .inl v_seconds)), (q_thirds, .inl (cI, 120, .inl v_thirds)), (q_looses, .inl (cZ, 120, .inl v_looses)), (q_slots, .inl (cI, 256, .inl v_slots)), (q_waiting, .inl (cI, 120, .inl v_waiting_32)), (q_seen, .inl (cZ, 120, .inl v_seen_32))]) [0, 1, 2, 3, 4, 5, 6, 7, 8] rfl
          have hDc := hD.sub (ws' := [(q_this, .inr (4, [.ref q_characters, .ref q_firsts, .ref q_seconds, .ref q_thirds, .ref q_looses, .int v_count, .ref q_slots, .ref q_waiting, .ref q_seen, .int v_waitingCount_32])), (q_characters, .inl (cI, 120, .inl v_characters)), (q_firsts, .inl (cI, 120, .inl v_firsts)), (q_seconds, .inl (cI, 120, .inl v_seconds)), (q_thirds, .inl (cI, 120, .inl v_thirds)), (q_looses, .inl (cZ, 120, .inl v_looses)), (q_slots, .inl (cI, 256, .inl v_slots)), (q_waiting, .inl (cI, 120, .inl v_waiting_32)), (q_seen, .inl (cZ, 120, .inl v_seen_32))]) [0, 1, 2, 3, 4, 5, 6, 7, 8] (by decide) rfl
          have hFc := va_free (wc := [(q_this, .inr (4, [.ref q_characters, .ref q_firsts, .ref q_seconds, .ref q_thirds, .ref q_looses, .int v_count, .ref q_slots, .ref q_waiting, .ref q_seen, .int v_waitingCount_32])), (q_characters, .inl (cI, 120, .inl v_characters)), (q_firsts, .inl (cI, 120, .inl v_firsts)), (q_seconds, .inl (cI, 120, .inl v_seconds)), (q_thirds, .inl (cI, 120, .inl v_thirds)), (q_looses, .inl (cZ, 120, .inl v_looses)), (q_slots, .inl (cI, 256, .inl v_slots)), (q_waiting, .inl (cI, 120, .inl v_waiting_32)), (q_seen, .inl (cZ, 120, .inl v_seen_32))]) hD hS hA [0, 1, 2, 3, 4, 5, 6, 7, 8] rfl
          refine va_calli (va_runV (As := [.int a1, .int r_48]) (rest := []) ⟨hx, hb, hml, hown, hts⟩ (m_X4_meet l dC dI cI cZ cJ q_this q_characters q_firsts q_seconds q_thirds q_looses q_slots q_waiting q_seen v_count v_waitingCount_32 v_characters v_firsts v_seconds v_thirds v_looses v_slots v_waiting_32 v_seen_32 a1 r_48 H.size _ h) (cwV 2 hts (na_gV tw374 tw376 tp14 tw3 tw377 rfl) rfl rfl rfl (by decide +kernel) ⟨Nat.le_of_ble_eq_true rfl, Nat.le_of_ble_eq_true rfl⟩) ⟨fun a U g mk q => by obtain ⟨q0, q1, qP, qK, qD⟩ := q; exact ⟨q0, q1, qP, qK.same rfl, qD⟩, va_recv hK hPc (ci := 4) (q0 := 0) rfl rfl, fun U hU hW => ⟨rfl, by rw [hU], by rw [hU]; exact hPc, hKK.warm hW, hDc.weaken (fun _ _ _ _ => trivial)⟩⟩ rfl rfl hl.1 rfl (lv_room (Nat.le_of_ble_eq_true rfl)) dX4_follow_51 ⟨Nat.zero_le _, Nat.zero_le _⟩) hS (fun q _ h => hFc q h) hFc (fun r_51 u t H1 locs ht hvm h hB hz1 hk1 hS => ?_)
          obtain ⟨v_waitingCount_51, v_waiting_51, v_seen_51⟩ := u
          obtain ⟨hP1, hD1⟩ := hB
          rw [ht] at hP1
          try dsimp only at h hP1 hD1
          obtain ⟨hP, hD⟩ := va_join (wr := []) (w1 := [(q_this, .inr (4, [.ref q_characters, .ref q_firsts, .ref q_seconds, .ref q_thirds, .ref q_looses, .int v_count, .ref q_slots, .ref q_waiting, .ref q_seen, .int v_waitingCount_51])), (q_characters, .inl (cI, 120, .inl v_characters)), (q_firsts, .inl (cI, 120, .inl v_firsts)), (q_seconds, .inl (cI, 120, .inl v_seconds)), (q_thirds, .inl (cI, 120, .inl v_thirds)), (q_looses, .inl (cZ, 120, .inl v_looses)), (q_slots, .inl (cI, 256, .inl v_slots)), (q_waiting, .inl (cI, 120, .inl v_waiting_51)), (q_seen, .inl (cZ, 120, .inl v_seen_51))]) hP hD [0, 1, 2, 3, 4, 5, 6, 7, 8] [] rfl rfl (by decide) (by decide) hk1 hFc hP1 hD1
          generalize H1 = H at hP hS ⊢
          have hP : va_P (dC, dI) vwC [(q_this, .inr (4, [.ref q_characters, .ref q_firsts, .ref q_seconds, .ref q_thirds, .ref q_looses, .int v_count, .ref q_slots, .ref q_waiting, .ref q_seen, .int v_waitingCount_51])), (q_characters, .inl (cI, 120, .inl v_characters)), (q_firsts, .inl (cI, 120, .inl v_firsts)), (q_seconds, .inl (cI, 120, .inl v_seconds)), (q_thirds, .inl (cI, 120, .inl v_thirds)), (q_looses, .inl (cZ, 120, .inl v_looses)), (q_slots, .inl (cI, 256, .inl v_slots)), (q_waiting, .inl (cI, 120, .inl v_waiting_51)), (q_seen, .inl (cZ, 120, .inl v_seen_51))] H := hP.sub [0, 1, 2, 3, 4, 5, 6, 7, 8] rfl
          have hD : va_D A [(q_this, .inr (4, [.ref q_characters, .ref q_firsts, .ref q_seconds, .ref q_thirds, .ref q_looses, .int v_count, .ref q_slots, .ref q_waiting, .ref q_seen, .int v_waitingCount_51])), (q_characters, .inl (cI, 120, .inl v_characters)), (q_firsts, .inl (cI, 120, .inl v_firsts)), (q_seconds, .inl (cI, 120, .inl v_seconds)), (q_thirds, .inl (cI, 120, .inl v_thirds)), (q_looses, .inl (cZ, 120, .inl v_looses)), (q_slots, .inl (cI, 256, .inl v_slots)), (q_waiting, .inl (cI, 120, .inl v_waiting_51)), (q_seen, .inl (cZ, 120, .inl v_seen_51))] := hD.sub [0, 1, 2, 3, 4, 5, 6, 7, 8] (by decide) rfl
          refine lv_if_eq (tgt := 61) hx hb dX4_follow_54 (by decide) (fun c9 => ?_) (fun c9 => ?_)
          · replace h := h.1 c9
            refine lv_iconst (v := (0 : Int32)) hx hb dX4_follow_61 (by decide) ?_
            rw [hQQ]
            exact W.zret (ty := .boolean) hx hb hr (by decide) (fun t ht hW => ⟨⟨_, (v_waitingCount_51, v_waiting_51, v_seen_51), rfl, h, by rw [ht]; exact hP, hD⟩, hS.F ht⟩) hS.2.2 dX4_follow_62
          · replace h := h.2 c9
            refine lv_iconst (v := (1 : Int32)) hx hb dX4_follow_57 (by decide) ?_
            refine lv_goto (tgt := 62) hx hb dX4_follow_58 (by decide) ?_
            rw [hQQ]
            exact W.zret (ty := .boolean) hx hb hr (by decide) (fun t ht hW => ⟨⟨_, (v_waitingCount_51, v_waiting_51, v_seen_51), rfl, h, by rw [ht]; exact hP, hD⟩, hS.F ht⟩) hS.2.2 dX4_follow_62
  · replace h := h.2 c9
    refine lv_aload_n hx hb dX4_follow_7 rfl (lv_at hl 0 rfl) ?_
    refine lv_iload_n hx hb dX4_follow_8 rfl (lv_at hl 1 rfl) ?_
    refine lv_iload_n hx hb dX4_follow_9 rfl (lv_at hl 2 rfl) ?_
    have hPc := hP.sub (ws' := [(q_this, .inr (4, [.ref q_characters, .ref q_firsts, .ref q_seconds, .ref q_thirds, .ref q_looses, .int v_count, .ref q_slots, .ref q_waiting, .ref q_seen, .int v_waitingCount])), (q_characters, .inl (cI, 120, .inl v_characters)), (q_firsts, .inl (cI, 120, .inl v_firsts)), (q_seconds, .inl (cI, 120, .inl v_seconds)), (q_thirds, .inl (cI, 120, .inl v_thirds)), (q_looses, .inl (cZ, 120, .inl v_looses)), (q_slots, .inl (cI, 256, .inl v_slots)), (q_waiting, .inl (cI, 120, .inl v_waiting)), (q_seen, .inl (cZ, 120, .inl v_seen))]) [0, 1, 2, 3, 4, 5, 6, 7, 8] rfl
    have hDc := hD.sub (ws' := [(q_this, .inr (4, [.ref q_characters, .ref q_firsts, .ref q_seconds, .ref q_thirds, .ref q_looses, .int v_count, .ref q_slots, .ref q_waiting, .ref q_seen, .int v_waitingCount])), (q_characters, .inl (cI, 120, .inl v_characters)), (q_firsts, .inl (cI, 120, .inl v_firsts)), (q_seconds, .inl (cI, 120, .inl v_seconds)), (q_thirds, .inl (cI, 120, .inl v_thirds)), (q_looses, .inl (cZ, 120, .inl v_looses)), (q_slots, .inl (cI, 256, .inl v_slots)), (q_waiting, .inl (cI, 120, .inl v_waiting)), (q_seen, .inl (cZ, 120, .inl v_seen))]) [0, 1, 2, 3, 4, 5, 6, 7, 8] (by decide) rfl
    have hFc := va_free (wc := [(q_this, .inr (4, [.ref q_characters, .ref q_firsts, .ref q_seconds, .ref q_thirds, .ref q_looses, .int v_count, .ref q_slots, .ref q_waiting, .ref q_seen, .int v_waitingCount])), (q_characters, .inl (cI, 120, .inl v_characters)), (q_firsts, .inl (cI, 120, .inl v_firsts)), (q_seconds, .inl (cI, 120, .inl v_seconds)), (q_thirds, .inl (cI, 120, .inl v_thirds)), (q_looses, .inl (cZ, 120, .inl v_looses)), (q_slots, .inl (cI, 256, .inl v_slots)), (q_waiting, .inl (cI, 120, .inl v_waiting)), (q_seen, .inl (cZ, 120, .inl v_seen))]) hD hS hA [0, 1, 2, 3, 4, 5, 6, 7, 8] rfl
    refine va_calli (va_runV (As := [.int a1, .int a2]) (rest := []) ⟨hx, hb, hml, hown, hts⟩ (m_X4_meet l dC dI cI cZ cJ q_this q_characters q_firsts q_seconds q_thirds q_looses q_slots q_waiting q_seen v_count v_waitingCount v_characters v_firsts v_seconds v_thirds v_looses v_slots v_waiting v_seen a1 a2 s.heap.size _ h) (cwV 2 hts (na_gV tw374 tw376 tp14 tw3 tw377 rfl) rfl rfl rfl (by decide +kernel) ⟨Nat.le_of_ble_eq_true rfl, Nat.le_of_ble_eq_true rfl⟩) ⟨fun a U g mk q => by obtain ⟨q0, q1, qP, qK, qD⟩ := q; exact ⟨q0, q1, qP, qK.same rfl, qD⟩, va_recv hK hPc (ci := 4) (q0 := 0) rfl rfl, fun U hU hW => ⟨rfl, by rw [hU], by rw [hU]; exact hPc, hKK.warm hW, hDc.weaken (fun _ _ _ _ => trivial)⟩⟩ rfl rfl hl.1 rfl (lv_room (Nat.le_of_ble_eq_true rfl)) dX4_follow_10 ⟨Nat.zero_le _, Nat.zero_le _⟩) hS (fun q _ h => hFc q h) hFc (fun r_10 u t H1 locs ht hvm h hB hz1 hk1 hS => ?_)
    obtain ⟨v_waitingCount_10, v_waiting_10, v_seen_10⟩ := u
    obtain ⟨hP1, hD1⟩ := hB
    rw [ht] at hP1
    try dsimp only at h hP1 hD1
    obtain ⟨hP, hD⟩ := va_join (wr := []) (w1 := [(q_this, .inr (4, [.ref q_characters, .ref q_firsts, .ref q_seconds, .ref q_thirds, .ref q_looses, .int v_count, .ref q_slots, .ref q_waiting, .ref q_seen, .int v_waitingCount_10])), (q_characters, .inl (cI, 120, .inl v_characters)), (q_firsts, .inl (cI, 120, .inl v_firsts)), (q_seconds, .inl (cI, 120, .inl v_seconds)), (q_thirds, .inl (cI, 120, .inl v_thirds)), (q_looses, .inl (cZ, 120, .inl v_looses)), (q_slots, .inl (cI, 256, .inl v_slots)), (q_waiting, .inl (cI, 120, .inl v_waiting_10)), (q_seen, .inl (cZ, 120, .inl v_seen_10))]) hP hD [0, 1, 2, 3, 4, 5, 6, 7, 8] [] rfl rfl (by decide) (by decide) hk1 hFc hP1 hD1
    generalize H1 = H at hP hS ⊢
    have hP : va_P (dC, dI) vwC [(q_this, .inr (4, [.ref q_characters, .ref q_firsts, .ref q_seconds, .ref q_thirds, .ref q_looses, .int v_count, .ref q_slots, .ref q_waiting, .ref q_seen, .int v_waitingCount_10])), (q_characters, .inl (cI, 120, .inl v_characters)), (q_firsts, .inl (cI, 120, .inl v_firsts)), (q_seconds, .inl (cI, 120, .inl v_seconds)), (q_thirds, .inl (cI, 120, .inl v_thirds)), (q_looses, .inl (cZ, 120, .inl v_looses)), (q_slots, .inl (cI, 256, .inl v_slots)), (q_waiting, .inl (cI, 120, .inl v_waiting_10)), (q_seen, .inl (cZ, 120, .inl v_seen_10))] H := hP.sub [0, 1, 2, 3, 4, 5, 6, 7, 8] rfl
    have hD : va_D A [(q_this, .inr (4, [.ref q_characters, .ref q_firsts, .ref q_seconds, .ref q_thirds, .ref q_looses, .int v_count, .ref q_slots, .ref q_waiting, .ref q_seen, .int v_waitingCount_10])), (q_characters, .inl (cI, 120, .inl v_characters)), (q_firsts, .inl (cI, 120, .inl v_firsts)), (q_seconds, .inl (cI, 120, .inl v_seconds)), (q_thirds, .inl (cI, 120, .inl v_thirds)), (q_looses, .inl (cZ, 120, .inl v_looses)), (q_slots, .inl (cI, 256, .inl v_slots)), (q_waiting, .inl (cI, 120, .inl v_waiting_10)), (q_seen, .inl (cZ, 120, .inl v_seen_10))] := hD.sub [0, 1, 2, 3, 4, 5, 6, 7, 8] (by decide) rfl
    obtain ⟨hz, h⟩ := h
    rw [hQQ]
    exact W.zret (ty := .boolean) hx hb hr hz.1 (fun t ht hW => ⟨⟨_, (v_waitingCount_10, v_waiting_10, v_seen_10), rfl, h, by rw [ht]; exact hP, hD⟩, hS.F ht⟩) hS.2.2 dX4_follow_13
set_option maxHeartbeats 4000000 in
set_option maxRecDepth 100000 in
theorem m_X4_wouldGive (l : Launch) (dC : Nat → ClassId) (dI : Nat → Nat → Nat) (cI cZ cJ : ClassId) (q_this : Nat) (q_characters : Nat) (q_firsts : Nat) (q_seconds : Nat) (q_thirds : Nat) (q_looses : Nat) (q_slots : Nat) (q_waiting : Nat) (q_seen : Nat) (v_count : Int32) (v_waitingCount : Int32) (v_characters : Nat → Int32) (v_firsts : Nat → Int32) (v_seconds : Nat → Int32) (v_thirds : Nat → Int32) (v_looses : Nat → Int32) (v_slots : Nat → Int32) (v_waiting : Nat → Int32) (v_seen : Nat → Int32) (a1 : Int32) (a2 : Int32) (a3 : Int32) (a4 : Int32) (sz : Nat) (post : Int32 → Int32 → (Nat → Int32) → (Nat → Int32) → Prop) (h : w_X4_wouldGive post v_count v_characters v_firsts v_seconds v_thirds v_slots v_waiting v_seen a1 a2 a3 a4) : Met l yX4_wouldGive [.code yX4_wouldGive cX4_wouldGive 7 (some .boolean)] ({ frames := 4, cells := 0, slots := 0, locals := 90 } : Room) (va_Pc [.ref q_this, .int a1, .int a2, .int a3, .int a4] (fun U => U.heap.size = sz ∧ va_P (dC, dI) vwC [(q_this, .inr (4, [.ref q_characters, .ref q_firsts, .ref q_seconds, .ref q_thirds, .ref q_looses, .int v_count, .ref q_slots, .ref q_waiting, .ref q_seen, .int v_waitingCount])), (q_characters, .inl (cI, 120, .inl v_characters)), (q_firsts, .inl (cI, 120, .inl v_firsts)), (q_seconds, .inl (cI, 120, .inl v_seconds)), (q_thirds, .inl (cI, 120, .inl v_thirds)), (q_looses, .inl (cZ, 120, .inl v_looses)), (q_slots, .inl (cI, 256, .inl v_slots)), (q_waiting, .inl (cI, 120, .inl v_waiting)), (q_seen, .inl (cZ, 120, .inl v_seen))] U.heap ∧ KK dC dI cI cZ cJ U ∧ va_D (fun _ => True) [(q_this, .inr (4, [.ref q_characters, .ref q_firsts, .ref q_seconds, .ref q_thirds, .ref q_looses, .int v_count, .ref q_slots, .ref q_waiting, .ref q_seen, .int v_waitingCount])), (q_characters, .inl (cI, 120, .inl v_characters)), (q_firsts, .inl (cI, 120, .inl v_firsts)), (q_seconds, .inl (cI, 120, .inl v_seconds)), (q_thirds, .inl (cI, 120, .inl v_thirds)), (q_looses, .inl (cZ, 120, .inl v_looses)), (q_slots, .inl (cI, 256, .inl v_slots)), (q_waiting, .inl (cI, 120, .inl v_waiting)), (q_seen, .inl (cZ, 120, .inl v_seen))])) (va_Qi (fun (r : Int32) (u : Int32 × (Nat → Int32) × (Nat → Int32)) => post r u.1 u.2.1 u.2.2) (fun (u : Int32 × (Nat → Int32) × (Nat → Int32)) (t : State) => va_P (dC, dI) vwC [(q_this, .inr (4, [.ref q_characters, .ref q_firsts, .ref q_seconds, .ref q_thirds, .ref q_looses, .int v_count, .ref q_slots, .ref q_waiting, .ref q_seen, .int u.1])), (q_characters, .inl (cI, 120, .inl v_characters)), (q_firsts, .inl (cI, 120, .inl v_firsts)), (q_seconds, .inl (cI, 120, .inl v_seconds)), (q_thirds, .inl (cI, 120, .inl v_thirds)), (q_looses, .inl (cZ, 120, .inl v_looses)), (q_slots, .inl (cI, 256, .inl v_slots)), (q_waiting, .inl (cI, 120, .inl u.2.1)), (q_seen, .inl (cZ, 120, .inl u.2.2))] t.heap ∧ va_D (va_A [(q_this, .inr (4, [.ref q_characters, .ref q_firsts, .ref q_seconds, .ref q_thirds, .ref q_looses, .int v_count, .ref q_slots, .ref q_waiting, .ref q_seen, .int v_waitingCount])), (q_characters, .inl (cI, 120, .inl v_characters)), (q_firsts, .inl (cI, 120, .inl v_firsts)), (q_seconds, .inl (cI, 120, .inl v_seconds)), (q_thirds, .inl (cI, 120, .inl v_thirds)), (q_looses, .inl (cZ, 120, .inl v_looses)), (q_slots, .inl (cI, 256, .inl v_slots)), (q_waiting, .inl (cI, 120, .inl v_waiting)), (q_seen, .inl (cZ, 120, .inl v_seen))] sz) [(q_this, .inr (4, [.ref q_characters, .ref q_firsts, .ref q_seconds, .ref q_thirds, .ref q_looses, .int v_count, .ref q_slots, .ref q_waiting, .ref q_seen, .int u.1])), (q_characters, .inl (cI, 120, .inl v_characters)), (q_firsts, .inl (cI, 120, .inl v_firsts)), (q_seconds, .inl (cI, 120, .inl v_seconds)), (q_thirds, .inl (cI, 120, .inl v_thirds)), (q_looses, .inl (cZ, 120, .inl v_looses)), (q_slots, .inl (cI, 256, .inl v_slots)), (q_waiting, .inl (cI, 120, .inl u.2.1)), (q_seen, .inl (cZ, 120, .inl u.2.2))]) (va_A [(q_this, .inr (4, [.ref q_characters, .ref q_firsts, .ref q_seconds, .ref q_thirds, .ref q_looses, .int v_count, .ref q_slots, .ref q_waiting, .ref q_seen, .int v_waitingCount])), (q_characters, .inl (cI, 120, .inl v_characters)), (q_firsts, .inl (cI, 120, .inl v_firsts)), (q_seconds, .inl (cI, 120, .inl v_seconds)), (q_thirds, .inl (cI, 120, .inl v_thirds)), (q_looses, .inl (cZ, 120, .inl v_looses)), (q_slots, .inl (cI, 256, .inl v_slots)), (q_waiting, .inl (cI, 120, .inl v_waiting)), (q_seen, .inl (cZ, 120, .inl v_seen))] sz)) 0 0 (va_A [(q_this, .inr (4, [.ref q_characters, .ref q_firsts, .ref q_seconds, .ref q_thirds, .ref q_looses, .int v_count, .ref q_slots, .ref q_waiting, .ref q_seen, .int v_waitingCount])), (q_characters, .inl (cI, 120, .inl v_characters)), (q_firsts, .inl (cI, 120, .inl v_firsts)), (q_seconds, .inl (cI, 120, .inl v_seconds)), (q_thirds, .inl (cI, 120, .inl v_thirds)), (q_looses, .inl (cZ, 120, .inl v_looses)), (q_slots, .inl (cI, 256, .inl v_slots)), (q_waiting, .inl (cI, 120, .inl v_waiting)), (q_seen, .inl (cZ, 120, .inl v_seen))] sz) := by
  refine Met.ofW (cc := cX4_wouldGive) (maxL := 7) (ret := (some .boolean)) (by decide) rfl ?_
  intro p e s m args below meth c s₁ B hml hv
  obtain ⟨rfl, hsz, hP, hKK, hD0⟩ := hv
  have hK := hKK.1
  have hx := B.exec
  have hb := B.bytes
  have hr := B.returns
  have hts : ∀ w ∈ TG, w.before (List.toArray [.ref q_this, .int a1, .int a2, .int a3, .int a4]) s = true := hKK.ts
  have hown : s.vm.findClass RX4 = some m.cls := findClass_of_methodNamed B.named
  have hlocks := B.notSynchronized
  subst hsz
  have hD := hD0.self (sz := s.heap.size)
  generalize hAe : va_A [(q_this, .inr (4, [.ref q_characters, .ref q_firsts, .ref q_seconds, .ref q_thirds, .ref q_looses, .int v_count, .ref q_slots, .ref q_waiting, .ref q_seen, .int v_waitingCount])), (q_characters, .inl (cI, 120, .inl v_characters)), (q_firsts, .inl (cI, 120, .inl v_firsts)), (q_seconds, .inl (cI, 120, .inl v_seconds)), (q_thirds, .inl (cI, 120, .inl v_thirds)), (q_looses, .inl (cZ, 120, .inl v_looses)), (q_slots, .inl (cI, 256, .inl v_slots)), (q_waiting, .inl (cI, 120, .inl v_waiting)), (q_seen, .inl (cZ, 120, .inl v_seen))] s.heap.size = A at hD ⊢
  have hA : ∀ q : Nat, s.heap.size ≤ q → A q := fun q h => by rw [← hAe]; exact Or.inr h
  have hS : va_S A s.heap s.heap [] := va_S.rf
  have hl := lv_entry ([.ref q_this, .int a1, .int a2, .int a3, .int a4]) (n := 7) (Nat.le_of_ble_eq_true rfl)
  rw [lg_entry_eq]
  generalize (lg_sl ([.ref q_this, .int a1, .int a2, .int a3, .int a4]) ++ List.replicate (7 - (lg_sl ([.ref q_this, .int a1, .int a2, .int a3, .int a4])).length) Slot.unset).toArray = ls at hl ⊢
  have hl : lv_has ls 7 [(0, .ref q_this), (1, .int a1), (2, .int a2), (3, .int a3), (4, .int a4)] := hl
  obtain ⟨QQ, hQQ⟩ : ∃ z, z = MQ below (va_Qi (fun (r : Int32) (u : Int32 × (Nat → Int32) × (Nat → Int32)) => post r u.1 u.2.1 u.2.2) (fun (u : Int32 × (Nat → Int32) × (Nat → Int32)) (t : State) => va_P (dC, dI) vwC [(q_this, .inr (4, [.ref q_characters, .ref q_firsts, .ref q_seconds, .ref q_thirds, .ref q_looses, .int v_count, .ref q_slots, .ref q_waiting, .ref q_seen, .int u.1])), (q_characters, .inl (cI, 120, .inl v_characters)), (q_firsts, .inl (cI, 120, .inl v_firsts)), (q_seconds, .inl (cI, 120, .inl v_seconds)), (q_thirds, .inl (cI, 120, .inl v_thirds)), (q_looses, .inl (cZ, 120, .inl v_looses)), (q_slots, .inl (cI, 256, .inl v_slots)), (q_waiting, .inl (cI, 120, .inl u.2.1)), (q_seen, .inl (cZ, 120, .inl u.2.2))] t.heap ∧ va_D A [(q_this, .inr (4, [.ref q_characters, .ref q_firsts, .ref q_seconds, .ref q_thirds, .ref q_looses, .int v_count, .ref q_slots, .ref q_waiting, .ref q_seen, .int u.1])), (q_characters, .inl (cI, 120, .inl v_characters)), (q_firsts, .inl (cI, 120, .inl v_firsts)), (q_seconds, .inl (cI, 120, .inl v_seconds)), (q_thirds, .inl (cI, 120, .inl v_thirds)), (q_looses, .inl (cZ, 120, .inl v_looses)), (q_slots, .inl (cI, 256, .inl v_slots)), (q_waiting, .inl (cI, 120, .inl u.2.1)), (q_seen, .inl (cZ, 120, .inl u.2.2))]) A) (List.toArray [.ref q_this, .int a1, .int a2, .int a3, .int a4]) s 0 0 A := ⟨_, rfl⟩
  rw [← hQQ]
  have P3 : ∀ (v_waitingCount : Int32) (v_waiting : Nat → Int32) (C26 : (Nat → Int32) → Prop) (hC26 : ∀ (v_seen_c : Nat → Int32) , C26 v_seen_c → ∀ (H : Heap) (locs : List Loc), va_P (dC, dI) vwC [(q_this, .inr (4, [.ref q_characters, .ref q_firsts, .ref q_seconds, .ref q_thirds, .ref q_looses, .int v_count, .ref q_slots, .ref q_waiting, .ref q_seen, .int v_waitingCount])), (q_characters, .inl (cI, 120, .inl v_characters)), (q_firsts, .inl (cI, 120, .inl v_firsts)), (q_seconds, .inl (cI, 120, .inl v_seconds)), (q_thirds, .inl (cI, 120, .inl v_thirds)), (q_looses, .inl (cZ, 120, .inl v_looses)), (q_slots, .inl (cI, 256, .inl v_slots)), (q_waiting, .inl (cI, 120, .inl v_waiting)), (q_seen, .inl (cZ, 120, .inl v_seen_c))] H → va_D A [(q_this, .inr (4, [.ref q_characters, .ref q_firsts, .ref q_seconds, .ref q_thirds, .ref q_looses, .int v_count, .ref q_slots, .ref q_waiting, .ref q_seen, .int v_waitingCount])), (q_characters, .inl (cI, 120, .inl v_characters)), (q_firsts, .inl (cI, 120, .inl v_firsts)), (q_seconds, .inl (cI, 120, .inl v_seconds)), (q_thirds, .inl (cI, 120, .inl v_thirds)), (q_looses, .inl (cZ, 120, .inl v_looses)), (q_slots, .inl (cI, 256, .inl v_slots)), (q_waiting, .inl (cI, 120, .inl v_waiting)), (q_seen, .inl (cZ, 120, .inl v_seen_c))] → va_S A s.heap H locs → ∀ (ls : Array Slot), lv_has ls 7 [(0, .ref q_this), (1, .int a1), (2, .int a2), (3, .int a3), (4, .int a4)] → W p l e (headSpec [.code yX4_wouldGive cX4_wouldGive 7 (some .boolean)] ({ frames := 4, cells := 0, slots := 0, locals := 90 } : Room)).room s m (List.toArray [.ref q_this, .int a1, .int a2, .int a3, .int a4]) below meth c H locs 0 0 QQ (F0 m 26 ls [])) (n : Nat) (x5 : Int32) (v_seen : Nat → Int32) , w_X4_wouldGive_3 post C26 v_count n x5 v_seen → ∀ (H : Heap) (locs : List Loc), va_P (dC, dI) vwC [(q_this, .inr (4, [.ref q_characters, .ref q_firsts, .ref q_seconds, .ref q_thirds, .ref q_looses, .int v_count, .ref q_slots, .ref q_waiting, .ref q_seen, .int v_waitingCount])), (q_characters, .inl (cI, 120, .inl v_characters)), (q_firsts, .inl (cI, 120, .inl v_firsts)), (q_seconds, .inl (cI, 120, .inl v_seconds)), (q_thirds, .inl (cI, 120, .inl v_thirds)), (q_looses, .inl (cZ, 120, .inl v_looses)), (q_slots, .inl (cI, 256, .inl v_slots)), (q_waiting, .inl (cI, 120, .inl v_waiting)), (q_seen, .inl (cZ, 120, .inl v_seen))] H → va_D A [(q_this, .inr (4, [.ref q_characters, .ref q_firsts, .ref q_seconds, .ref q_thirds, .ref q_looses, .int v_count, .ref q_slots, .ref q_waiting, .ref q_seen, .int v_waitingCount])), (q_characters, .inl (cI, 120, .inl v_characters)), (q_firsts, .inl (cI, 120, .inl v_firsts)), (q_seconds, .inl (cI, 120, .inl v_seconds)), (q_thirds, .inl (cI, 120, .inl v_thirds)), (q_looses, .inl (cZ, 120, .inl v_looses)), (q_slots, .inl (cI, 256, .inl v_slots)), (q_waiting, .inl (cI, 120, .inl v_waiting)), (q_seen, .inl (cZ, 120, .inl v_seen))] → va_S A s.heap H locs → ∀ (ls : Array Slot), lv_has ls 7 [(0, .ref q_this), (1, .int a1), (2, .int a2), (3, .int a3), (4, .int a4), (5, .int x5)] → W p l e (headSpec [.code yX4_wouldGive cX4_wouldGive 7 (some .boolean)] ({ frames := 4, cells := 0, slots := 0, locals := 90 } : Room)).room s m (List.toArray [.ref q_this, .int a1, .int a2, .int a3, .int a4]) below meth c H locs 0 0 QQ (F0 m 3 ls []) := by
    intro v_waitingCount v_waiting C26 hC26 n
    induction n with
    | zero => intro x5 v_seen h; exact h.elim
    | succ n ih =>
      intro x5 v_seen h H locs hP hD hS ls hl
      refine lv_iload hx hb dX4_wouldGive_3 (lv_at hl 5 rfl) ?_
      refine lv_aload_n hx hb dX4_wouldGive_5 rfl (lv_at hl 0 rfl) ?_
      refine va_get (D := (dC, dI)) (ci := 4) (v := .int v_count) (C := RX4) (T := TX4) (N := 10) hx hb hts inX4 hown hK hP 0 rfl rfl 5 (by decide) (hts _ tw55) (fun _ h9 => h9) rfl dX4_wouldGive_6 ?_
      refine lv_icmp_ge (tgt := 26) hx hb dX4_wouldGive_9 (by decide) (fun c9 => ?_) (fun c9 => ?_)
      · replace h := h.1 c9
        exact hC26 v_seen h _ _ hP hD hS ls (lv_sub hl [0, 1, 2, 3, 4] rfl)
      · replace h := h.2 c9
        refine lv_aload_n hx hb dX4_wouldGive_12 rfl (lv_at hl 0 rfl) ?_
        refine va_get (D := (dC, dI)) (ci := 4) (v := .ref q_seen) (C := RX4) (T := TX4) (N := 10) hx hb hts inX4 hown hK hP 0 rfl rfl 8 (by decide) (hts _ tw58) (fun _ h9 => h9) rfl dX4_wouldGive_13 ?_
        refine lv_iload hx hb dX4_wouldGive_16 (lv_at hl 5 rfl) ?_
        refine lv_iconst (v := (0 : Int32)) hx hb dX4_wouldGive_18 (by decide) ?_
        obtain ⟨hin, h⟩ := h
        refine va_zast hx hb hK hP hD hS 8 1 rfl rfl hin dX4_wouldGive_19 (fun H locs hP hD hS => ?_)
        have hP : va_P (dC, dI) vwC [(q_this, .inr (4, [.ref q_characters, .ref q_firsts, .ref q_seconds, .ref q_thirds, .ref q_looses, .int v_count, .ref q_slots, .ref q_waiting, .ref q_seen, .int v_waitingCount])), (q_characters, .inl (cI, 120, .inl v_characters)), (q_firsts, .inl (cI, 120, .inl v_firsts)), (q_seconds, .inl (cI, 120, .inl v_seconds)), (q_thirds, .inl (cI, 120, .inl v_thirds)), (q_looses, .inl (cZ, 120, .inl v_looses)), (q_slots, .inl (cI, 256, .inl v_slots)), (q_waiting, .inl (cI, 120, .inl v_waiting)), (q_seen, .inl (cZ, 120, .inl (upd v_seen x5.toNatClampNeg (vp_nar .boolean (0 : Int32)))))] H := hP
        have hD : va_D A [(q_this, .inr (4, [.ref q_characters, .ref q_firsts, .ref q_seconds, .ref q_thirds, .ref q_looses, .int v_count, .ref q_slots, .ref q_waiting, .ref q_seen, .int v_waitingCount])), (q_characters, .inl (cI, 120, .inl v_characters)), (q_firsts, .inl (cI, 120, .inl v_firsts)), (q_seconds, .inl (cI, 120, .inl v_seconds)), (q_thirds, .inl (cI, 120, .inl v_thirds)), (q_looses, .inl (cZ, 120, .inl v_looses)), (q_slots, .inl (cI, 256, .inl v_slots)), (q_waiting, .inl (cI, 120, .inl v_waiting)), (q_seen, .inl (cZ, 120, .inl (upd v_seen x5.toNatClampNeg (vp_nar .boolean (0 : Int32)))))] := hD
        refine lv_iinc (v := x5 + (1 : Int32)) (lv' := [(5, .int (x5 + (1 : Int32))), (0, .ref q_this), (1, .int a1), (2, .int a2), (3, .int a3), (4, .int a4)]) hx hb dX4_wouldGive_20 hl (k := 5) rfl rfl (by decide) rfl (fun ls hl => ?_)
        refine lv_goto (tgt := 3) hx hb dX4_wouldGive_23 (by decide) ?_
        exact ih (x5 + (1 : Int32)) (upd v_seen x5.toNatClampNeg (vp_nar .boolean (0 : Int32))) h _ _ hP hD hS ls (lv_sub hl [1, 2, 3, 4, 5, 0] rfl)
  have P64 : ∀ (n : Nat) (x5 : Int32) (v_waitingCount : Int32) (v_waiting : Nat → Int32) (v_seen : Nat → Int32) , w_X4_wouldGive_64 post v_characters v_firsts v_seconds v_thirds v_slots a1 n x5 v_waitingCount v_waiting v_seen → ∀ (H : Heap) (locs : List Loc), va_P (dC, dI) vwC [(q_this, .inr (4, [.ref q_characters, .ref q_firsts, .ref q_seconds, .ref q_thirds, .ref q_looses, .int v_count, .ref q_slots, .ref q_waiting, .ref q_seen, .int v_waitingCount])), (q_characters, .inl (cI, 120, .inl v_characters)), (q_firsts, .inl (cI, 120, .inl v_firsts)), (q_seconds, .inl (cI, 120, .inl v_seconds)), (q_thirds, .inl (cI, 120, .inl v_thirds)), (q_looses, .inl (cZ, 120, .inl v_looses)), (q_slots, .inl (cI, 256, .inl v_slots)), (q_waiting, .inl (cI, 120, .inl v_waiting)), (q_seen, .inl (cZ, 120, .inl v_seen))] H → va_D A [(q_this, .inr (4, [.ref q_characters, .ref q_firsts, .ref q_seconds, .ref q_thirds, .ref q_looses, .int v_count, .ref q_slots, .ref q_waiting, .ref q_seen, .int v_waitingCount])), (q_characters, .inl (cI, 120, .inl v_characters)), (q_firsts, .inl (cI, 120, .inl v_firsts)), (q_seconds, .inl (cI, 120, .inl v_seconds)), (q_thirds, .inl (cI, 120, .inl v_thirds)), (q_looses, .inl (cZ, 120, .inl v_looses)), (q_slots, .inl (cI, 256, .inl v_slots)), (q_waiting, .inl (cI, 120, .inl v_waiting)), (q_seen, .inl (cZ, 120, .inl v_seen))] → va_S A s.heap H locs → ∀ (ls : Array Slot), lv_has ls 7 [(0, .ref q_this), (1, .int a1), (5, .int x5)] → W p l e (headSpec [.code yX4_wouldGive cX4_wouldGive 7 (some .boolean)] ({ frames := 4, cells := 0, slots := 0, locals := 90 } : Room)).room s m (List.toArray [.ref q_this, .int a1, .int a2, .int a3, .int a4]) below meth c H locs 0 0 QQ (F0 m 64 ls []) := by
    intro  n
    induction n with
    | zero => intro x5 v_waitingCount v_waiting v_seen h; exact h.elim
    | succ n ih =>
      intro x5 v_waitingCount v_waiting v_seen h H locs hP hD hS ls hl
      refine lv_iload hx hb dX4_wouldGive_64 (lv_at hl 2 rfl) ?_
      refine lv_aload_n hx hb dX4_wouldGive_66 rfl (lv_at hl 0 rfl) ?_
      refine va_get (D := (dC, dI)) (ci := 4) (v := .int v_waitingCount) (C := RX4) (T := TX4) (N := 10) hx hb hts inX4 hown hK hP 0 rfl rfl 9 (by decide) (hts _ tw59) (fun _ h9 => h9) rfl dX4_wouldGive_67 ?_
      refine lv_icmp_ge (tgt := 142) hx hb dX4_wouldGive_70 (by decide) (fun c9 => ?_) (fun c9 => ?_)
      · replace h := h.1 c9
        refine lv_iconst (v := (0 : Int32)) hx hb dX4_wouldGive_142 (by decide) ?_
        rw [hQQ]
        exact W.zret (ty := .boolean) hx hb hr (by decide) (fun t ht hW => ⟨⟨_, (v_waitingCount, v_waiting, v_seen), rfl, h, by rw [ht]; exact hP, hD⟩, hS.F ht⟩) hS.2.2 dX4_wouldGive_143
      · replace h := h.2 c9
        refine lv_iload hx hb dX4_wouldGive_73 (lv_at hl 2 rfl) ?_
        refine lv_bipush (v := (120 : Int32)) hx hb dX4_wouldGive_75 (by decide) ?_
        refine lv_icmp_ge (tgt := 142) hx hb dX4_wouldGive_77 (by decide) (fun c9 => ?_) (fun c9 => ?_)
        · replace h := h.1 c9
          refine lv_iconst (v := (0 : Int32)) hx hb dX4_wouldGive_142 (by decide) ?_
          rw [hQQ]
          exact W.zret (ty := .boolean) hx hb hr (by decide) (fun t ht hW => ⟨⟨_, (v_waitingCount, v_waiting, v_seen), rfl, h, by rw [ht]; exact hP, hD⟩, hS.F ht⟩) hS.2.2 dX4_wouldGive_143
        · replace h := h.2 c9
          refine lv_aload_n hx hb dX4_wouldGive_80 rfl (lv_at hl 0 rfl) ?_
          refine va_get (D := (dC, dI)) (ci := 4) (v := .ref q_waiting) (C := RX4) (T := TX4) (N := 10) hx hb hts inX4 hown hK hP 0 rfl rfl 7 (by decide) (hts _ tw57) (fun _ h9 => h9) rfl dX4_wouldGive_81 ?_
          refine lv_iload hx hb dX4_wouldGive_84 (lv_at hl 2 rfl) ?_
          obtain ⟨hin, h⟩ := h
          refine va_iald hx hb hK hP 7 0 rfl rfl hin dX4_wouldGive_86 ?_
          refine lv_istore (lv' := [(6, .int (v_waiting x5.toNatClampNeg)), (0, .ref q_this), (1, .int a1), (5, .int x5)]) hx hb dX4_wouldGive_87 hl (by decide) rfl (fun ls hl => ?_)
          refine lv_aload_n hx hb dX4_wouldGive_89 rfl (lv_at hl 1 rfl) ?_
          refine lv_iload_n hx hb dX4_wouldGive_90 rfl (lv_at hl 2 rfl) ?_
          refine lv_aload_n hx hb dX4_wouldGive_91 rfl (lv_at hl 1 rfl) ?_
          refine va_get (D := (dC, dI)) (ci := 4) (v := .ref q_firsts) (C := RX4) (T := TX4) (N := 10) hx hb hts inX4 hown hK hP 0 rfl rfl 1 (by decide) (hts _ tw51) (fun _ h9 => h9) rfl dX4_wouldGive_92 ?_
          refine lv_iload hx hb dX4_wouldGive_95 (lv_at hl 0 rfl) ?_
          obtain ⟨hin, h⟩ := h
          refine va_iald hx hb hK hP 2 0 rfl rfl hin dX4_wouldGive_97 ?_
          have hPc := hP.sub (ws' := [(q_this, .inr (4, [.ref q_characters, .ref q_firsts, .ref q_seconds, .ref q_thirds, .ref q_looses, .int v_count, .ref q_slots, .ref q_waiting, .ref q_seen, .int v_waitingCount])), (q_characters, .inl (cI, 120, .inl v_characters)), (q_firsts, .inl (cI, 120, .inl v_firsts)), (q_seconds, .inl (cI, 120, .inl v_seconds)), (q_thirds, .inl (cI, 120, .inl v_thirds)), (q_looses, .inl (cZ, 120, .inl v_looses)), (q_slots, .inl (cI, 256, .inl v_slots)), (q_waiting, .inl (cI, 120, .inl v_waiting)), (q_seen, .inl (cZ, 120, .inl v_seen))]) [0, 1, 2, 3, 4, 5, 6, 7, 8] rfl
          have hDc := hD.sub (ws' := [(q_this, .inr (4, [.ref q_characters, .ref q_firsts, .ref q_seconds, .ref q_thirds, .ref q_looses, .int v_count, .ref q_slots, .ref q_waiting, .ref q_seen, .int v_waitingCount])), (q_characters, .inl (cI, 120, .inl v_characters)), (q_firsts, .inl (cI, 120, .inl v_firsts)), (q_seconds, .inl (cI, 120, .inl v_seconds)), (q_thirds, .inl (cI, 120, .inl v_thirds)), (q_looses, .inl (cZ, 120, .inl v_looses)), (q_slots, .inl (cI, 256, .inl v_slots)), (q_waiting, .inl (cI, 120, .inl v_waiting)), (q_seen, .inl (cZ, 120, .inl v_seen))]) [0, 1, 2, 3, 4, 5, 6, 7, 8] (by decide) rfl
          have hFc := va_free (wc := [(q_this, .inr (4, [.ref q_characters, .ref q_firsts, .ref q_seconds, .ref q_thirds, .ref q_looses, .int v_count, .ref q_slots, .ref q_waiting, .ref q_seen, .int v_waitingCount])), (q_characters, .inl (cI, 120, .inl v_characters)), (q_firsts, .inl (cI, 120, .inl v_firsts)), (q_seconds, .inl (cI, 120, .inl v_seconds)), (q_thirds, .inl (cI, 120, .inl v_thirds)), (q_looses, .inl (cZ, 120, .inl v_looses)), (q_slots, .inl (cI, 256, .inl v_slots)), (q_waiting, .inl (cI, 120, .inl v_waiting)), (q_seen, .inl (cZ, 120, .inl v_seen))]) hD hS hA [0, 1, 2, 3, 4, 5, 6, 7, 8] rfl
          refine va_calli (va_runV (As := [.int a1, .int (v_firsts (v_waiting x5.toNatClampNeg).toNatClampNeg)]) (rest := []) ⟨hx, hb, hml, hown, hts⟩ (m_X4_follow l dC dI cI cZ cJ q_this q_characters q_firsts q_seconds q_thirds q_looses q_slots q_waiting q_seen v_count v_waitingCount v_characters v_firsts v_seconds v_thirds v_looses v_slots v_waiting v_seen a1 (v_firsts (v_waiting x5.toNatClampNeg).toNatClampNeg) H.size _ h) (cwV 2 hts (na_gV tw369 tw371 tp13 tw3 tw372 rfl) rfl rfl rfl (by decide +kernel) ⟨Nat.le_of_ble_eq_true rfl, Nat.le_of_ble_eq_true rfl⟩) ⟨fun a U g mk q => by obtain ⟨q0, q1, qP, qK, qD⟩ := q; exact ⟨q0, q1, qP, qK.same rfl, qD⟩, va_recv hK hPc (ci := 4) (q0 := 0) rfl rfl, fun U hU hW => ⟨rfl, by rw [hU], by rw [hU]; exact hPc, hKK.warm hW, hDc.weaken (fun _ _ _ _ => trivial)⟩⟩ rfl rfl hl.1 rfl (lv_room (Nat.le_of_ble_eq_true rfl)) dX4_wouldGive_98 ⟨Nat.zero_le _, Nat.zero_le _⟩) hS (fun q _ h => hFc q h) hFc (fun r_98 u t H1 locs ht hvm h hB hz1 hk1 hS => ?_)
          obtain ⟨v_waitingCount_98, v_waiting_98, v_seen_98⟩ := u
          obtain ⟨hP1, hD1⟩ := hB
          rw [ht] at hP1
          try dsimp only at h hP1 hD1
          obtain ⟨hP, hD⟩ := va_join (wr := []) (w1 := [(q_this, .inr (4, [.ref q_characters, .ref q_firsts, .ref q_seconds, .ref q_thirds, .ref q_looses, .int v_count, .ref q_slots, .ref q_waiting, .ref q_seen, .int v_waitingCount_98])), (q_characters, .inl (cI, 120, .inl v_characters)), (q_firsts, .inl (cI, 120, .inl v_firsts)), (q_seconds, .inl (cI, 120, .inl v_seconds)), (q_thirds, .inl (cI, 120, .inl v_thirds)), (q_looses, .inl (cZ, 120, .inl v_looses)), (q_slots, .inl (cI, 256, .inl v_slots)), (q_waiting, .inl (cI, 120, .inl v_waiting_98)), (q_seen, .inl (cZ, 120, .inl v_seen_98))]) hP hD [0, 1, 2, 3, 4, 5, 6, 7, 8] [] rfl rfl (by decide) (by decide) hk1 hFc hP1 hD1
          generalize H1 = H at hP hS ⊢
          have hP : va_P (dC, dI) vwC [(q_this, .inr (4, [.ref q_characters, .ref q_firsts, .ref q_seconds, .ref q_thirds, .ref q_looses, .int v_count, .ref q_slots, .ref q_waiting, .ref q_seen, .int v_waitingCount_98])), (q_characters, .inl (cI, 120, .inl v_characters)), (q_firsts, .inl (cI, 120, .inl v_firsts)), (q_seconds, .inl (cI, 120, .inl v_seconds)), (q_thirds, .inl (cI, 120, .inl v_thirds)), (q_looses, .inl (cZ, 120, .inl v_looses)), (q_slots, .inl (cI, 256, .inl v_slots)), (q_waiting, .inl (cI, 120, .inl v_waiting_98)), (q_seen, .inl (cZ, 120, .inl v_seen_98))] H := hP.sub [0, 1, 2, 3, 4, 5, 6, 7, 8] rfl
          have hD : va_D A [(q_this, .inr (4, [.ref q_characters, .ref q_firsts, .ref q_seconds, .ref q_thirds, .ref q_looses, .int v_count, .ref q_slots, .ref q_waiting, .ref q_seen, .int v_waitingCount_98])), (q_characters, .inl (cI, 120, .inl v_characters)), (q_firsts, .inl (cI, 120, .inl v_firsts)), (q_seconds, .inl (cI, 120, .inl v_seconds)), (q_thirds, .inl (cI, 120, .inl v_thirds)), (q_looses, .inl (cZ, 120, .inl v_looses)), (q_slots, .inl (cI, 256, .inl v_slots)), (q_waiting, .inl (cI, 120, .inl v_waiting_98)), (q_seen, .inl (cZ, 120, .inl v_seen_98))] := hD.sub [0, 1, 2, 3, 4, 5, 6, 7, 8] (by decide) rfl
          refine lv_if_ne (tgt := 134) hx hb dX4_wouldGive_101 (by decide) (fun c9 => ?_) (fun c9 => ?_)
          · replace h := h.1 c9
            refine lv_iconst (v := (1 : Int32)) hx hb dX4_wouldGive_134 (by decide) ?_
            rw [hQQ]
            exact W.zret (ty := .boolean) hx hb hr (by decide) (fun t ht hW => ⟨⟨_, (v_waitingCount_98, v_waiting_98, v_seen_98), rfl, h, by rw [ht]; exact hP, hD⟩, hS.F ht⟩) hS.2.2 dX4_wouldGive_135
          · replace h := h.2 c9
            refine lv_aload_n hx hb dX4_wouldGive_104 rfl (lv_at hl 1 rfl) ?_
            refine lv_iload_n hx hb dX4_wouldGive_105 rfl (lv_at hl 2 rfl) ?_
            refine lv_aload_n hx hb dX4_wouldGive_106 rfl (lv_at hl 1 rfl) ?_
            refine va_get (D := (dC, dI)) (ci := 4) (v := .ref q_seconds) (C := RX4) (T := TX4) (N := 10) hx hb hts inX4 hown hK hP 0 rfl rfl 2 (by decide) (hts _ tw52) (fun _ h9 => h9) rfl dX4_wouldGive_107 ?_
            refine lv_iload hx hb dX4_wouldGive_110 (lv_at hl 0 rfl) ?_
            obtain ⟨hin, h⟩ := h
            refine va_iald hx hb hK hP 3 0 rfl rfl hin dX4_wouldGive_112 ?_
            have hPc := hP.sub (ws' := [(q_this, .inr (4, [.ref q_characters, .ref q_firsts, .ref q_seconds, .ref q_thirds, .ref q_looses, .int v_count, .ref q_slots, .ref q_waiting, .ref q_seen, .int v_waitingCount_98])), (q_characters, .inl (cI, 120, .inl v_characters)), (q_firsts, .inl (cI, 120, .inl v_firsts)), (q_seconds, .inl (cI, 120, .inl v_seconds)), (q_thirds, .inl (cI, 120, .inl v_thirds)), (q_looses, .inl (cZ, 120, .inl v_looses)), (q_slots, .inl (cI, 256, .inl v_slots)), (q_waiting, .inl (cI, 120, .inl v_waiting_98)), (q_seen, .inl (cZ, 120, .inl v_seen_98))]) [0, 1, 2, 3, 4, 5, 6, 7, 8] rfl
            have hDc := hD.sub (ws' := [(q_this, .inr (4, [.ref q_characters, .ref q_firsts, .ref q_seconds, .ref q_thirds, .ref q_looses, .int v_count, .ref q_slots, .ref q_waiting, .ref q_seen, .int v_waitingCount_98])), (q_characters, .inl (cI, 120, .inl v_characters)), (q_firsts, .inl (cI, 120, .inl v_firsts)), (q_seconds, .inl (cI, 120, .inl v_seconds)), (q_thirds, .inl (cI, 120, .inl v_thirds)), (q_looses, .inl (cZ, 120, .inl v_looses)), (q_slots, .inl (cI, 256, .inl v_slots)), (q_waiting, .inl (cI, 120, .inl v_waiting_98)), (q_seen, .inl (cZ, 120, .inl v_seen_98))]) [0, 1, 2, 3, 4, 5, 6, 7, 8] (by decide) rfl
            have hFc := va_free (wc := [(q_this, .inr (4, [.ref q_characters, .ref q_firsts, .ref q_seconds, .ref q_thirds, .ref q_looses, .int v_count, .ref q_slots, .ref q_waiting, .ref q_seen, .int v_waitingCount_98])), (q_characters, .inl (cI, 120, .inl v_characters)), (q_firsts, .inl (cI, 120, .inl v_firsts)), (q_seconds, .inl (cI, 120, .inl v_seconds)), (q_thirds, .inl (cI, 120, .inl v_thirds)), (q_looses, .inl (cZ, 120, .inl v_looses)), (q_slots, .inl (cI, 256, .inl v_slots)), (q_waiting, .inl (cI, 120, .inl v_waiting_98)), (q_seen, .inl (cZ, 120, .inl v_seen_98))]) hD hS hA [0, 1, 2, 3, 4, 5, 6, 7, 8] rfl
            refine va_calli (va_runV (As := [.int a1, .int (v_seconds (v_waiting x5.toNatClampNeg).toNatClampNeg)]) (rest := []) ⟨hx, hb, hml, hown, hts⟩ (m_X4_follow l dC dI cI cZ cJ q_this q_characters q_firsts q_seconds q_thirds q_looses q_slots q_waiting q_seen v_count v_waitingCount_98 v_characters v_firsts v_seconds v_thirds v_looses v_slots v_waiting_98 v_seen_98 a1 (v_seconds (v_waiting x5.toNatClampNeg).toNatClampNeg) H.size _ h) (cwV 2 hts (na_gV tw369 tw371 tp13 tw3 tw372 rfl) rfl rfl rfl (by decide +kernel) ⟨Nat.le_of_ble_eq_true rfl, Nat.le_of_ble_eq_true rfl⟩) ⟨fun a U g mk q => by obtain ⟨q0, q1, qP, qK, qD⟩ := q; exact ⟨q0, q1, qP, qK.same rfl, qD⟩, va_recv hK hPc (ci := 4) (q0 := 0) rfl rfl, fun U hU hW => ⟨rfl, by rw [hU], by rw [hU]; exact hPc, hKK.warm hW, hDc.weaken (fun _ _ _ _ => trivial)⟩⟩ rfl rfl hl.1 rfl (lv_room (Nat.le_of_ble_eq_true rfl)) dX4_wouldGive_113 ⟨Nat.zero_le _, Nat.zero_le _⟩) hS (fun q _ h => hFc q h) hFc (fun r_113 u t H1 locs ht hvm h hB hz1 hk1 hS => ?_)
            obtain ⟨v_waitingCount_113, v_waiting_113, v_seen_113⟩ := u
            obtain ⟨hP1, hD1⟩ := hB
            rw [ht] at hP1
            try dsimp only at h hP1 hD1
            obtain ⟨hP, hD⟩ := va_join (wr := []) (w1 := [(q_this, .inr (4, [.ref q_characters, .ref q_firsts, .ref q_seconds, .ref q_thirds, .ref q_looses, .int v_count, .ref q_slots, .ref q_waiting, .ref q_seen, .int v_waitingCount_113])), (q_characters, .inl (cI, 120, .inl v_characters)), (q_firsts, .inl (cI, 120, .inl v_firsts)), (q_seconds, .inl (cI, 120, .inl v_seconds)), (q_thirds, .inl (cI, 120, .inl v_thirds)), (q_looses, .inl (cZ, 120, .inl v_looses)), (q_slots, .inl (cI, 256, .inl v_slots)), (q_waiting, .inl (cI, 120, .inl v_waiting_113)), (q_seen, .inl (cZ, 120, .inl v_seen_113))]) hP hD [0, 1, 2, 3, 4, 5, 6, 7, 8] [] rfl rfl (by decide) (by decide) hk1 hFc hP1 hD1
            generalize H1 = H at hP hS ⊢
            have hP : va_P (dC, dI) vwC [(q_this, .inr (4, [.ref q_characters, .ref q_firsts, .ref q_seconds, .ref q_thirds, .ref q_looses, .int v_count, .ref q_slots, .ref q_waiting, .ref q_seen, .int v_waitingCount_113])), (q_characters, .inl (cI, 120, .inl v_characters)), (q_firsts, .inl (cI, 120, .inl v_firsts)), (q_seconds, .inl (cI, 120, .inl v_seconds)), (q_thirds, .inl (cI, 120, .inl v_thirds)), (q_looses, .inl (cZ, 120, .inl v_looses)), (q_slots, .inl (cI, 256, .inl v_slots)), (q_waiting, .inl (cI, 120, .inl v_waiting_113)), (q_seen, .inl (cZ, 120, .inl v_seen_113))] H := hP.sub [0, 1, 2, 3, 4, 5, 6, 7, 8] rfl
            have hD : va_D A [(q_this, .inr (4, [.ref q_characters, .ref q_firsts, .ref q_seconds, .ref q_thirds, .ref q_looses, .int v_count, .ref q_slots, .ref q_waiting, .ref q_seen, .int v_waitingCount_113])), (q_characters, .inl (cI, 120, .inl v_characters)), (q_firsts, .inl (cI, 120, .inl v_firsts)), (q_seconds, .inl (cI, 120, .inl v_seconds)), (q_thirds, .inl (cI, 120, .inl v_thirds)), (q_looses, .inl (cZ, 120, .inl v_looses)), (q_slots, .inl (cI, 256, .inl v_slots)), (q_waiting, .inl (cI, 120, .inl v_waiting_113)), (q_seen, .inl (cZ, 120, .inl v_seen_113))] := hD.sub [0, 1, 2, 3, 4, 5, 6, 7, 8] (by decide) rfl
            refine lv_if_ne (tgt := 134) hx hb dX4_wouldGive_116 (by decide) (fun c9 => ?_) (fun c9 => ?_)
            · replace h := h.1 c9
              refine lv_iconst (v := (1 : Int32)) hx hb dX4_wouldGive_134 (by decide) ?_
              rw [hQQ]
              exact W.zret (ty := .boolean) hx hb hr (by decide) (fun t ht hW => ⟨⟨_, (v_waitingCount_113, v_waiting_113, v_seen_113), rfl, h, by rw [ht]; exact hP, hD⟩, hS.F ht⟩) hS.2.2 dX4_wouldGive_135
            · replace h := h.2 c9
              refine lv_aload_n hx hb dX4_wouldGive_119 rfl (lv_at hl 1 rfl) ?_
              refine lv_iload_n hx hb dX4_wouldGive_120 rfl (lv_at hl 2 rfl) ?_
              refine lv_aload_n hx hb dX4_wouldGive_121 rfl (lv_at hl 1 rfl) ?_
              refine va_get (D := (dC, dI)) (ci := 4) (v := .ref q_thirds) (C := RX4) (T := TX4) (N := 10) hx hb hts inX4 hown hK hP 0 rfl rfl 3 (by decide) (hts _ tw53) (fun _ h9 => h9) rfl dX4_wouldGive_122 ?_
              refine lv_iload hx hb dX4_wouldGive_125 (lv_at hl 0 rfl) ?_
              obtain ⟨hin, h⟩ := h
              refine va_iald hx hb hK hP 4 0 rfl rfl hin dX4_wouldGive_127 ?_
              have hPc := hP.sub (ws' := [(q_this, .inr (4, [.ref q_characters, .ref q_firsts, .ref q_seconds, .ref q_thirds, .ref q_looses, .int v_count, .ref q_slots, .ref q_waiting, .ref q_seen, .int v_waitingCount_113])), (q_characters, .inl (cI, 120, .inl v_characters)), (q_firsts, .inl (cI, 120, .inl v_firsts)), (q_seconds, .inl (cI, 120, .inl v_seconds)), (q_thirds, .inl (cI, 120, .inl v_thirds)), (q_looses, .inl (cZ, 120, .inl v_looses)), (q_slots, .inl (cI, 256, .inl v_slots)), (q_waiting, .inl (cI, 120, .inl v_waiting_113)), (q_seen, .inl (cZ, 120, .inl v_seen_113))]) [0, 1, 2, 3, 4, 5, 6, 7, 8] rfl
              have hDc := hD.sub (ws' := [(q_this, .inr (4, [.ref q_characters, .ref q_firsts, .ref q_seconds, .ref q_thirds, .ref q_looses, .int v_count, .ref q_slots, .ref q_waiting, .ref q_seen, .int v_waitingCount_113])), (q_characters, .inl (cI, 120, .inl v_characters)), (q_firsts, .inl (cI, 120, .inl v_firsts)), (q_seconds, .inl (cI, 120, .inl v_seconds)), (q_thirds, .inl (cI, 120, .inl v_thirds)), (q_looses, .inl (cZ, 120, .inl v_looses)), (q_slots, .inl (cI, 256, .inl v_slots)), (q_waiting, .inl (cI, 120, .inl v_waiting_113)), (q_seen, .inl (cZ, 120, .inl v_seen_113))]) [0, 1, 2, 3, 4, 5, 6, 7, 8] (by decide) rfl
              have hFc := va_free (wc := [(q_this, .inr (4, [.ref q_characters, .ref q_firsts, .ref q_seconds, .ref q_thirds, .ref q_looses, .int v_count, .ref q_slots, .ref q_waiting, .ref q_seen, .int v_waitingCount_113])), (q_characters, .inl (cI, 120, .inl v_characters)), (q_firsts, .inl (cI, 120, .inl v_firsts)), (q_seconds, .inl (cI, 120, .inl v_seconds)), (q_thirds, .inl (cI, 120, .inl v_thirds)), (q_looses, .inl (cZ, 120, .inl v_looses)), (q_slots, .inl (cI, 256, .inl v_slots)), (q_waiting, .inl (cI, 120, .inl v_waiting_113)), (q_seen, .inl (cZ, 120, .inl v_seen_113))]) hD hS hA [0, 1, 2, 3, 4, 5, 6, 7, 8] rfl
              refine va_calli (va_runV (As := [.int a1, .int (v_thirds (v_waiting x5.toNatClampNeg).toNatClampNeg)]) (rest := []) ⟨hx, hb, hml, hown, hts⟩ (m_X4_follow l dC dI cI cZ cJ q_this q_characters q_firsts q_seconds q_thirds q_looses q_slots q_waiting q_seen v_count v_waitingCount_113 v_characters v_firsts v_seconds v_thirds v_looses v_slots v_waiting_113 v_seen_113 a1 (v_thirds (v_waiting x5.toNatClampNeg).toNatClampNeg) H.size _ h) (cwV 2 hts (na_gV tw369 tw371 tp13 tw3 tw372 rfl) rfl rfl rfl (by decide +kernel) ⟨Nat.le_of_ble_eq_true rfl, Nat.le_of_ble_eq_true rfl⟩) ⟨fun a U g mk q => by obtain ⟨q0, q1, qP, qK, qD⟩ := q; exact ⟨q0, q1, qP, qK.same rfl, qD⟩, va_recv hK hPc (ci := 4) (q0 := 0) rfl rfl, fun U hU hW => ⟨rfl, by rw [hU], by rw [hU]; exact hPc, hKK.warm hW, hDc.weaken (fun _ _ _ _ => trivial)⟩⟩ rfl rfl hl.1 rfl (lv_room (Nat.le_of_ble_eq_true rfl)) dX4_wouldGive_128 ⟨Nat.zero_le _, Nat.zero_le _⟩) hS (fun q _ h => hFc q h) hFc (fun r_128 u t H1 locs ht hvm h hB hz1 hk1 hS => ?_)
              obtain ⟨v_waitingCount_128, v_waiting_128, v_seen_128⟩ := u
              obtain ⟨hP1, hD1⟩ := hB
              rw [ht] at hP1
              try dsimp only at h hP1 hD1
              obtain ⟨hP, hD⟩ := va_join (wr := []) (w1 := [(q_this, .inr (4, [.ref q_characters, .ref q_firsts, .ref q_seconds, .ref q_thirds, .ref q_looses, .int v_count, .ref q_slots, .ref q_waiting, .ref q_seen, .int v_waitingCount_128])), (q_characters, .inl (cI, 120, .inl v_characters)), (q_firsts, .inl (cI, 120, .inl v_firsts)), (q_seconds, .inl (cI, 120, .inl v_seconds)), (q_thirds, .inl (cI, 120, .inl v_thirds)), (q_looses, .inl (cZ, 120, .inl v_looses)), (q_slots, .inl (cI, 256, .inl v_slots)), (q_waiting, .inl (cI, 120, .inl v_waiting_128)), (q_seen, .inl (cZ, 120, .inl v_seen_128))]) hP hD [0, 1, 2, 3, 4, 5, 6, 7, 8] [] rfl rfl (by decide) (by decide) hk1 hFc hP1 hD1
              generalize H1 = H at hP hS ⊢
              have hP : va_P (dC, dI) vwC [(q_this, .inr (4, [.ref q_characters, .ref q_firsts, .ref q_seconds, .ref q_thirds, .ref q_looses, .int v_count, .ref q_slots, .ref q_waiting, .ref q_seen, .int v_waitingCount_128])), (q_characters, .inl (cI, 120, .inl v_characters)), (q_firsts, .inl (cI, 120, .inl v_firsts)), (q_seconds, .inl (cI, 120, .inl v_seconds)), (q_thirds, .inl (cI, 120, .inl v_thirds)), (q_looses, .inl (cZ, 120, .inl v_looses)), (q_slots, .inl (cI, 256, .inl v_slots)), (q_waiting, .inl (cI, 120, .inl v_waiting_128)), (q_seen, .inl (cZ, 120, .inl v_seen_128))] H := hP.sub [0, 1, 2, 3, 4, 5, 6, 7, 8] rfl
              have hD : va_D A [(q_this, .inr (4, [.ref q_characters, .ref q_firsts, .ref q_seconds, .ref q_thirds, .ref q_looses, .int v_count, .ref q_slots, .ref q_waiting, .ref q_seen, .int v_waitingCount_128])), (q_characters, .inl (cI, 120, .inl v_characters)), (q_firsts, .inl (cI, 120, .inl v_firsts)), (q_seconds, .inl (cI, 120, .inl v_seconds)), (q_thirds, .inl (cI, 120, .inl v_thirds)), (q_looses, .inl (cZ, 120, .inl v_looses)), (q_slots, .inl (cI, 256, .inl v_slots)), (q_waiting, .inl (cI, 120, .inl v_waiting_128)), (q_seen, .inl (cZ, 120, .inl v_seen_128))] := hD.sub [0, 1, 2, 3, 4, 5, 6, 7, 8] (by decide) rfl
              refine lv_if_eq (tgt := 136) hx hb dX4_wouldGive_131 (by decide) (fun c9 => ?_) (fun c9 => ?_)
              · replace h := h.1 c9
                refine lv_iinc (v := x5 + (1 : Int32)) (lv' := [(5, .int (x5 + (1 : Int32))), (6, .int (v_waiting x5.toNatClampNeg)), (0, .ref q_this), (1, .int a1)]) hx hb dX4_wouldGive_136 hl (k := 3) rfl rfl (by decide) rfl (fun ls hl => ?_)
                refine lv_goto (tgt := 64) hx hb dX4_wouldGive_139 (by decide) ?_
                exact ih (x5 + (1 : Int32)) v_waitingCount_128 v_waiting_128 v_seen_128 h _ _ hP hD hS ls (lv_sub hl [2, 3, 0] rfl)
              · replace h := h.2 c9
                refine lv_iconst (v := (1 : Int32)) hx hb dX4_wouldGive_134 (by decide) ?_
                rw [hQQ]
                exact W.zret (ty := .boolean) hx hb hr (by decide) (fun t ht hW => ⟨⟨_, (v_waitingCount_128, v_waiting_128, v_seen_128), rfl, h, by rw [ht]; exact hP, hD⟩, hS.F ht⟩) hS.2.2 dX4_wouldGive_135
  refine lv_iconst (v := (0 : Int32)) hx hb dX4_wouldGive_0 (by decide) ?_
  refine lv_istore (lv' := [(5, .int (0 : Int32)), (0, .ref q_this), (1, .int a1), (2, .int a2), (3, .int a3), (4, .int a4)]) hx hb dX4_wouldGive_1 hl (by decide) rfl (fun ls hl => ?_)
  obtain ⟨k3, h⟩ := h
  refine P3 v_waitingCount v_waiting _ ?_ k3 (0 : Int32) v_seen h _ _ hP hD hS ls (lv_sub hl [1, 2, 3, 4, 5, 0] rfl)
  · intro v_seen_26k2 h H locs hP hD hS ls hl
    refine lv_aload_n hx hb dX4_wouldGive_26 rfl (lv_at hl 0 rfl) ?_
    refine lv_iconst (v := (0 : Int32)) hx hb dX4_wouldGive_27 (by decide) ?_
    refine va_put (D := (dC, dI)) (ci := 4) (v := .int (0 : Int32)) (ty := .int) (C := RX4) (T := TX4) (N := 10) hx hb hts inX4 tyX4 tyX4_ok nmX4 hown hK hP hD hS 0 rfl rfl 9 (by decide) (hts _ tw59) (fun _ h9 => h9) rfl (by decide +kernel) rfl rfl (Nat.le_of_ble_eq_true rfl) dX4_wouldGive_28 (fun H locs hP hD hS => ?_)
    have hP : va_P (dC, dI) vwC [(q_this, .inr (4, [.ref q_characters, .ref q_firsts, .ref q_seconds, .ref q_thirds, .ref q_looses, .int v_count, .ref q_slots, .ref q_waiting, .ref q_seen, .int (0 : Int32)])), (q_characters, .inl (cI, 120, .inl v_characters)), (q_firsts, .inl (cI, 120, .inl v_firsts)), (q_seconds, .inl (cI, 120, .inl v_seconds)), (q_thirds, .inl (cI, 120, .inl v_thirds)), (q_looses, .inl (cZ, 120, .inl v_looses)), (q_slots, .inl (cI, 256, .inl v_slots)), (q_waiting, .inl (cI, 120, .inl v_waiting)), (q_seen, .inl (cZ, 120, .inl v_seen_26k2))] H := hP
    have hD : va_D A [(q_this, .inr (4, [.ref q_characters, .ref q_firsts, .ref q_seconds, .ref q_thirds, .ref q_looses, .int v_count, .ref q_slots, .ref q_waiting, .ref q_seen, .int (0 : Int32)])), (q_characters, .inl (cI, 120, .inl v_characters)), (q_firsts, .inl (cI, 120, .inl v_firsts)), (q_seconds, .inl (cI, 120, .inl v_seconds)), (q_thirds, .inl (cI, 120, .inl v_thirds)), (q_looses, .inl (cZ, 120, .inl v_looses)), (q_slots, .inl (cI, 256, .inl v_slots)), (q_waiting, .inl (cI, 120, .inl v_waiting)), (q_seen, .inl (cZ, 120, .inl v_seen_26k2))] := hD
    refine lv_aload_n hx hb dX4_wouldGive_31 rfl (lv_at hl 0 rfl) ?_
    refine lv_iload_n hx hb dX4_wouldGive_32 rfl (lv_at hl 1 rfl) ?_
    refine lv_iload_n hx hb dX4_wouldGive_33 rfl (lv_at hl 2 rfl) ?_
    have hPc := hP.sub (ws' := [(q_this, .inr (4, [.ref q_characters, .ref q_firsts, .ref q_seconds, .ref q_thirds, .ref q_looses, .int v_count, .ref q_slots, .ref q_waiting, .ref q_seen, .int (0 : Int32)])), (q_characters, .inl (cI, 120, .inl v_characters)), (q_firsts, .inl (cI, 120, .inl v_firsts)), (q_seconds, .inl (cI, 120, .inl v_seconds)), (q_thirds, .inl (cI, 120, .inl v_thirds)), (q_looses, .inl (cZ, 120, .inl v_looses)), (q_slots, .inl (cI, 256, .inl v_slots)), (q_waiting, .inl (cI, 120, .inl v_waiting)), (q_seen, .inl (cZ, 120, .inl v_seen_26k2))]) [0, 1, 2, 3, 4, 5, 6, 7, 8] rfl
    have hDc := hD.sub (ws' := [(q_this, .inr (4, [.ref q_characters, .ref q_firsts, .ref q_seconds, .ref q_thirds, .ref q_looses, .int v_count, .ref q_slots, .ref q_waiting, .ref q_seen, .int (0 : Int32)])), (q_characters, .inl (cI, 120, .inl v_characters)), (q_firsts, .inl (cI, 120, .inl v_firsts)), (q_seconds, .inl (cI, 120, .inl v_seconds)), (q_thirds, .inl (cI, 120, .inl v_thirds)), (q_looses, .inl (cZ, 120, .inl v_looses)), (q_slots, .inl (cI, 256, .inl v_slots)), (q_waiting, .inl (cI, 120, .inl v_waiting)), (q_seen, .inl (cZ, 120, .inl v_seen_26k2))]) [0, 1, 2, 3, 4, 5, 6, 7, 8] (by decide) rfl
    have hFc := va_free (wc := [(q_this, .inr (4, [.ref q_characters, .ref q_firsts, .ref q_seconds, .ref q_thirds, .ref q_looses, .int v_count, .ref q_slots, .ref q_waiting, .ref q_seen, .int (0 : Int32)])), (q_characters, .inl (cI, 120, .inl v_characters)), (q_firsts, .inl (cI, 120, .inl v_firsts)), (q_seconds, .inl (cI, 120, .inl v_seconds)), (q_thirds, .inl (cI, 120, .inl v_thirds)), (q_looses, .inl (cZ, 120, .inl v_looses)), (q_slots, .inl (cI, 256, .inl v_slots)), (q_waiting, .inl (cI, 120, .inl v_waiting)), (q_seen, .inl (cZ, 120, .inl v_seen_26k2))]) hD hS hA [0, 1, 2, 3, 4, 5, 6, 7, 8] rfl
    refine va_calli (va_runV (As := [.int a1, .int a2]) (rest := []) ⟨hx, hb, hml, hown, hts⟩ (m_X4_follow l dC dI cI cZ cJ q_this q_characters q_firsts q_seconds q_thirds q_looses q_slots q_waiting q_seen v_count (0 : Int32) v_characters v_firsts v_seconds v_thirds v_looses v_slots v_waiting v_seen_26k2 a1 a2 H.size _ h) (cwV 2 hts (na_gV tw369 tw371 tp13 tw3 tw372 rfl) rfl rfl rfl (by decide +kernel) ⟨Nat.le_of_ble_eq_true rfl, Nat.le_of_ble_eq_true rfl⟩) ⟨fun a U g mk q => by obtain ⟨q0, q1, qP, qK, qD⟩ := q; exact ⟨q0, q1, qP, qK.same rfl, qD⟩, va_recv hK hPc (ci := 4) (q0 := 0) rfl rfl, fun U hU hW => ⟨rfl, by rw [hU], by rw [hU]; exact hPc, hKK.warm hW, hDc.weaken (fun _ _ _ _ => trivial)⟩⟩ rfl rfl hl.1 rfl (lv_room (Nat.le_of_ble_eq_true rfl)) dX4_wouldGive_34 ⟨Nat.zero_le _, Nat.zero_le _⟩) hS (fun q _ h => hFc q h) hFc (fun r_34 u t H1 locs ht hvm h hB hz1 hk1 hS => ?_)
    obtain ⟨v_waitingCount_34, v_waiting_34, v_seen_34⟩ := u
    obtain ⟨hP1, hD1⟩ := hB
    rw [ht] at hP1
    try dsimp only at h hP1 hD1
    obtain ⟨hP, hD⟩ := va_join (wr := []) (w1 := [(q_this, .inr (4, [.ref q_characters, .ref q_firsts, .ref q_seconds, .ref q_thirds, .ref q_looses, .int v_count, .ref q_slots, .ref q_waiting, .ref q_seen, .int v_waitingCount_34])), (q_characters, .inl (cI, 120, .inl v_characters)), (q_firsts, .inl (cI, 120, .inl v_firsts)), (q_seconds, .inl (cI, 120, .inl v_seconds)), (q_thirds, .inl (cI, 120, .inl v_thirds)), (q_looses, .inl (cZ, 120, .inl v_looses)), (q_slots, .inl (cI, 256, .inl v_slots)), (q_waiting, .inl (cI, 120, .inl v_waiting_34)), (q_seen, .inl (cZ, 120, .inl v_seen_34))]) hP hD [0, 1, 2, 3, 4, 5, 6, 7, 8] [] rfl rfl (by decide) (by decide) hk1 hFc hP1 hD1
    generalize H1 = H at hP hS ⊢
    have hP : va_P (dC, dI) vwC [(q_this, .inr (4, [.ref q_characters, .ref q_firsts, .ref q_seconds, .ref q_thirds, .ref q_looses, .int v_count, .ref q_slots, .ref q_waiting, .ref q_seen, .int v_waitingCount_34])), (q_characters, .inl (cI, 120, .inl v_characters)), (q_firsts, .inl (cI, 120, .inl v_firsts)), (q_seconds, .inl (cI, 120, .inl v_seconds)), (q_thirds, .inl (cI, 120, .inl v_thirds)), (q_looses, .inl (cZ, 120, .inl v_looses)), (q_slots, .inl (cI, 256, .inl v_slots)), (q_waiting, .inl (cI, 120, .inl v_waiting_34)), (q_seen, .inl (cZ, 120, .inl v_seen_34))] H := hP.sub [0, 1, 2, 3, 4, 5, 6, 7, 8] rfl
    have hD : va_D A [(q_this, .inr (4, [.ref q_characters, .ref q_firsts, .ref q_seconds, .ref q_thirds, .ref q_looses, .int v_count, .ref q_slots, .ref q_waiting, .ref q_seen, .int v_waitingCount_34])), (q_characters, .inl (cI, 120, .inl v_characters)), (q_firsts, .inl (cI, 120, .inl v_firsts)), (q_seconds, .inl (cI, 120, .inl v_seconds)), (q_thirds, .inl (cI, 120, .inl v_thirds)), (q_looses, .inl (cZ, 120, .inl v_looses)), (q_slots, .inl (cI, 256, .inl v_slots)), (q_waiting, .inl (cI, 120, .inl v_waiting_34)), (q_seen, .inl (cZ, 120, .inl v_seen_34))] := hD.sub [0, 1, 2, 3, 4, 5, 6, 7, 8] (by decide) rfl
    refine lv_if_ne (tgt := 59) hx hb dX4_wouldGive_37 (by decide) (fun c9 => ?_) (fun c9 => ?_)
    · replace h := h.1 c9
      refine lv_iconst (v := (1 : Int32)) hx hb dX4_wouldGive_59 (by decide) ?_
      rw [hQQ]
      exact W.zret (ty := .boolean) hx hb hr (by decide) (fun t ht hW => ⟨⟨_, (v_waitingCount_34, v_waiting_34, v_seen_34), rfl, h, by rw [ht]; exact hP, hD⟩, hS.F ht⟩) hS.2.2 dX4_wouldGive_60
    · replace h := h.2 c9
      refine lv_aload_n hx hb dX4_wouldGive_40 rfl (lv_at hl 0 rfl) ?_
      refine lv_iload_n hx hb dX4_wouldGive_41 rfl (lv_at hl 1 rfl) ?_
      refine lv_iload_n hx hb dX4_wouldGive_42 rfl (lv_at hl 3 rfl) ?_
      have hPc := hP.sub (ws' := [(q_this, .inr (4, [.ref q_characters, .ref q_firsts, .ref q_seconds, .ref q_thirds, .ref q_looses, .int v_count, .ref q_slots, .ref q_waiting, .ref q_seen, .int v_waitingCount_34])), (q_characters, .inl (cI, 120, .inl v_characters)), (q_firsts, .inl (cI, 120, .inl v_firsts)), (q_seconds, .inl (cI, 120, .inl v_seconds)), (q_thirds, .inl (cI, 120, .inl v_thirds)), (q_looses, .inl (cZ, 120, .inl v_looses)), (q_slots, .inl (cI, 256, .inl v_slots)), (q_waiting, .inl (cI, 120, .inl v_waiting_34)), (q_seen, .inl (cZ, 120, .inl v_seen_34))]) [0, 1, 2, 3, 4, 5, 6, 7, 8] rfl
      have hDc := hD.sub (ws' := [(q_this, .inr (4, [.ref q_characters, .ref q_firsts, .ref q_seconds, .ref q_thirds, .ref q_looses, .int v_count, .ref q_slots, .ref q_waiting, .ref q_seen, .int v_waitingCount_34])), (q_characters, .inl (cI, 120, .inl v_characters)), (q_firsts, .inl (cI, 120, .inl v_firsts)), (q_seconds, .inl (cI, 120, .inl v_seconds)), (q_thirds, .inl (cI, 120, .inl v_thirds)), (q_looses, .inl (cZ, 120, .inl v_looses)), (q_slots, .inl (cI, 256, .inl v_slots)), (q_waiting, .inl (cI, 120, .inl v_waiting_34)), (q_seen, .inl (cZ, 120, .inl v_seen_34))]) [0, 1, 2, 3, 4, 5, 6, 7, 8] (by decide) rfl
      have hFc := va_free (wc := [(q_this, .inr (4, [.ref q_characters, .ref q_firsts, .ref q_seconds, .ref q_thirds, .ref q_looses, .int v_count, .ref q_slots, .ref q_waiting, .ref q_seen, .int v_waitingCount_34])), (q_characters, .inl (cI, 120, .inl v_characters)), (q_firsts, .inl (cI, 120, .inl v_firsts)), (q_seconds, .inl (cI, 120, .inl v_seconds)), (q_thirds, .inl (cI, 120, .inl v_thirds)), (q_looses, .inl (cZ, 120, .inl v_looses)), (q_slots, .inl (cI, 256, .inl v_slots)), (q_waiting, .inl (cI, 120, .inl v_waiting_34)), (q_seen, .inl (cZ, 120, .inl v_seen_34))]) hD hS hA [0, 1, 2, 3, 4, 5, 6, 7, 8] rfl
      refine va_calli (va_runV (As := [.int a1, .int a3]) (rest := []) ⟨hx, hb, hml, hown, hts⟩ (m_X4_follow l dC dI cI cZ cJ q_this q_characters q_firsts q_seconds q_thirds q_looses q_slots q_waiting q_seen v_count v_waitingCount_34 v_characters v_firsts v_seconds v_thirds v_looses v_slots v_waiting_34 v_seen_34 a1 a3 H.size _ h) (cwV 2 hts (na_gV tw369 tw371 tp13 tw3 tw372 rfl) rfl rfl rfl (by decide +kernel) ⟨Nat.le_of_ble_eq_true rfl, Nat.le_of_ble_eq_true rfl⟩) ⟨fun a U g mk q => by obtain ⟨q0, q1, qP, qK, qD⟩ := q; exact ⟨q0, q1, qP, qK.same rfl, qD⟩, va_recv hK hPc (ci := 4) (q0 := 0) rfl rfl, fun U hU hW => ⟨rfl, by rw [hU], by rw [hU]; exact hPc, hKK.warm hW, hDc.weaken (fun _ _ _ _ => trivial)⟩⟩ rfl rfl hl.1 rfl (lv_room (Nat.le_of_ble_eq_true rfl)) dX4_wouldGive_43 ⟨Nat.zero_le _, Nat.zero_le _⟩) hS (fun q _ h => hFc q h) hFc (fun r_43 u t H1 locs ht hvm h hB hz1 hk1 hS => ?_)
      obtain ⟨v_waitingCount_43, v_waiting_43, v_seen_43⟩ := u
      obtain ⟨hP1, hD1⟩ := hB
      rw [ht] at hP1
      try dsimp only at h hP1 hD1
      obtain ⟨hP, hD⟩ := va_join (wr := []) (w1 := [(q_this, .inr (4, [.ref q_characters, .ref q_firsts, .ref q_seconds, .ref q_thirds, .ref q_looses, .int v_count, .ref q_slots, .ref q_waiting, .ref q_seen, .int v_waitingCount_43])), (q_characters, .inl (cI, 120, .inl v_characters)), (q_firsts, .inl (cI, 120, .inl v_firsts)), (q_seconds, .inl (cI, 120, .inl v_seconds)), (q_thirds, .inl (cI, 120, .inl v_thirds)), (q_looses, .inl (cZ, 120, .inl v_looses)), (q_slots, .inl (cI, 256, .inl v_slots)), (q_waiting, .inl (cI, 120, .inl v_waiting_43)), (q_seen, .inl (cZ, 120, .inl v_seen_43))]) hP hD [0, 1, 2, 3, 4, 5, 6, 7, 8] [] rfl rfl (by decide) (by decide) hk1 hFc hP1 hD1
      generalize H1 = H at hP hS ⊢
      have hP : va_P (dC, dI) vwC [(q_this, .inr (4, [.ref q_characters, .ref q_firsts, .ref q_seconds, .ref q_thirds, .ref q_looses, .int v_count, .ref q_slots, .ref q_waiting, .ref q_seen, .int v_waitingCount_43])), (q_characters, .inl (cI, 120, .inl v_characters)), (q_firsts, .inl (cI, 120, .inl v_firsts)), (q_seconds, .inl (cI, 120, .inl v_seconds)), (q_thirds, .inl (cI, 120, .inl v_thirds)), (q_looses, .inl (cZ, 120, .inl v_looses)), (q_slots, .inl (cI, 256, .inl v_slots)), (q_waiting, .inl (cI, 120, .inl v_waiting_43)), (q_seen, .inl (cZ, 120, .inl v_seen_43))] H := hP.sub [0, 1, 2, 3, 4, 5, 6, 7, 8] rfl
      have hD : va_D A [(q_this, .inr (4, [.ref q_characters, .ref q_firsts, .ref q_seconds, .ref q_thirds, .ref q_looses, .int v_count, .ref q_slots, .ref q_waiting, .ref q_seen, .int v_waitingCount_43])), (q_characters, .inl (cI, 120, .inl v_characters)), (q_firsts, .inl (cI, 120, .inl v_firsts)), (q_seconds, .inl (cI, 120, .inl v_seconds)), (q_thirds, .inl (cI, 120, .inl v_thirds)), (q_looses, .inl (cZ, 120, .inl v_looses)), (q_slots, .inl (cI, 256, .inl v_slots)), (q_waiting, .inl (cI, 120, .inl v_waiting_43)), (q_seen, .inl (cZ, 120, .inl v_seen_43))] := hD.sub [0, 1, 2, 3, 4, 5, 6, 7, 8] (by decide) rfl
      refine lv_if_ne (tgt := 59) hx hb dX4_wouldGive_46 (by decide) (fun c9 => ?_) (fun c9 => ?_)
      · replace h := h.1 c9
        refine lv_iconst (v := (1 : Int32)) hx hb dX4_wouldGive_59 (by decide) ?_
        rw [hQQ]
        exact W.zret (ty := .boolean) hx hb hr (by decide) (fun t ht hW => ⟨⟨_, (v_waitingCount_43, v_waiting_43, v_seen_43), rfl, h, by rw [ht]; exact hP, hD⟩, hS.F ht⟩) hS.2.2 dX4_wouldGive_60
      · replace h := h.2 c9
        refine lv_aload_n hx hb dX4_wouldGive_49 rfl (lv_at hl 0 rfl) ?_
        refine lv_iload_n hx hb dX4_wouldGive_50 rfl (lv_at hl 1 rfl) ?_
        refine lv_iload hx hb dX4_wouldGive_51 (lv_at hl 4 rfl) ?_
        have hPc := hP.sub (ws' := [(q_this, .inr (4, [.ref q_characters, .ref q_firsts, .ref q_seconds, .ref q_thirds, .ref q_looses, .int v_count, .ref q_slots, .ref q_waiting, .ref q_seen, .int v_waitingCount_43])), (q_characters, .inl (cI, 120, .inl v_characters)), (q_firsts, .inl (cI, 120, .inl v_firsts)), (q_seconds, .inl (cI, 120, .inl v_seconds)), (q_thirds, .inl (cI, 120, .inl v_thirds)), (q_looses, .inl (cZ, 120, .inl v_looses)), (q_slots, .inl (cI, 256, .inl v_slots)), (q_waiting, .inl (cI, 120, .inl v_waiting_43)), (q_seen, .inl (cZ, 120, .inl v_seen_43))]) [0, 1, 2, 3, 4, 5, 6, 7, 8] rfl
        have hDc := hD.sub (ws' := [(q_this, .inr (4, [.ref q_characters, .ref q_firsts, .ref q_seconds, .ref q_thirds, .ref q_looses, .int v_count, .ref q_slots, .ref q_waiting, .ref q_seen, .int v_waitingCount_43])), (q_characters, .inl (cI, 120, .inl v_characters)), (q_firsts, .inl (cI, 120, .inl v_firsts)), (q_seconds, .inl (cI, 120, .inl v_seconds)), (q_thirds, .inl (cI, 120, .inl v_thirds)), (q_looses, .inl (cZ, 120, .inl v_looses)), (q_slots, .inl (cI, 256, .inl v_slots)), (q_waiting, .inl (cI, 120, .inl v_waiting_43)), (q_seen, .inl (cZ, 120, .inl v_seen_43))]) [0, 1, 2, 3, 4, 5, 6, 7, 8] (by decide) rfl
        have hFc := va_free (wc := [(q_this, .inr (4, [.ref q_characters, .ref q_firsts, .ref q_seconds, .ref q_thirds, .ref q_looses, .int v_count, .ref q_slots, .ref q_waiting, .ref q_seen, .int v_waitingCount_43])), (q_characters, .inl (cI, 120, .inl v_characters)), (q_firsts, .inl (cI, 120, .inl v_firsts)), (q_seconds, .inl (cI, 120, .inl v_seconds)), (q_thirds, .inl (cI, 120, .inl v_thirds)), (q_looses, .inl (cZ, 120, .inl v_looses)), (q_slots, .inl (cI, 256, .inl v_slots)), (q_waiting, .inl (cI, 120, .inl v_waiting_43)), (q_seen, .inl (cZ, 120, .inl v_seen_43))]) hD hS hA [0, 1, 2, 3, 4, 5, 6, 7, 8] rfl
        refine va_calli (va_runV (As := [.int a1, .int a4]) (rest := []) ⟨hx, hb, hml, hown, hts⟩ (m_X4_follow l dC dI cI cZ cJ q_this q_characters q_firsts q_seconds q_thirds q_looses q_slots q_waiting q_seen v_count v_waitingCount_43 v_characters v_firsts v_seconds v_thirds v_looses v_slots v_waiting_43 v_seen_43 a1 a4 H.size _ h) (cwV 2 hts (na_gV tw369 tw371 tp13 tw3 tw372 rfl) rfl rfl rfl (by decide +kernel) ⟨Nat.le_of_ble_eq_true rfl, Nat.le_of_ble_eq_true rfl⟩) ⟨fun a U g mk q => by obtain ⟨q0, q1, qP, qK, qD⟩ := q; exact ⟨q0, q1, qP, qK.same rfl, qD⟩, va_recv hK hPc (ci := 4) (q0 := 0) rfl rfl, fun U hU hW => ⟨rfl, by rw [hU], by rw [hU]; exact hPc, hKK.warm hW, hDc.weaken (fun _ _ _ _ => trivial)⟩⟩ rfl rfl hl.1 rfl (lv_room (Nat.le_of_ble_eq_true rfl)) dX4_wouldGive_53 ⟨Nat.zero_le _, Nat.zero_le _⟩) hS (fun q _ h => hFc q h) hFc (fun r_53 u t H1 locs ht hvm h hB hz1 hk1 hS => ?_)
        obtain ⟨v_waitingCount_53, v_waiting_53, v_seen_53⟩ := u
        obtain ⟨hP1, hD1⟩ := hB
        rw [ht] at hP1
        try dsimp only at h hP1 hD1
        obtain ⟨hP, hD⟩ := va_join (wr := []) (w1 := [(q_this, .inr (4, [.ref q_characters, .ref q_firsts, .ref q_seconds, .ref q_thirds, .ref q_looses, .int v_count, .ref q_slots, .ref q_waiting, .ref q_seen, .int v_waitingCount_53])), (q_characters, .inl (cI, 120, .inl v_characters)), (q_firsts, .inl (cI, 120, .inl v_firsts)), (q_seconds, .inl (cI, 120, .inl v_seconds)), (q_thirds, .inl (cI, 120, .inl v_thirds)), (q_looses, .inl (cZ, 120, .inl v_looses)), (q_slots, .inl (cI, 256, .inl v_slots)), (q_waiting, .inl (cI, 120, .inl v_waiting_53)), (q_seen, .inl (cZ, 120, .inl v_seen_53))]) hP hD [0, 1, 2, 3, 4, 5, 6, 7, 8] [] rfl rfl (by decide) (by decide) hk1 hFc hP1 hD1
        generalize H1 = H at hP hS ⊢
        have hP : va_P (dC, dI) vwC [(q_this, .inr (4, [.ref q_characters, .ref q_firsts, .ref q_seconds, .ref q_thirds, .ref q_looses, .int v_count, .ref q_slots, .ref q_waiting, .ref q_seen, .int v_waitingCount_53])), (q_characters, .inl (cI, 120, .inl v_characters)), (q_firsts, .inl (cI, 120, .inl v_firsts)), (q_seconds, .inl (cI, 120, .inl v_seconds)), (q_thirds, .inl (cI, 120, .inl v_thirds)), (q_looses, .inl (cZ, 120, .inl v_looses)), (q_slots, .inl (cI, 256, .inl v_slots)), (q_waiting, .inl (cI, 120, .inl v_waiting_53)), (q_seen, .inl (cZ, 120, .inl v_seen_53))] H := hP.sub [0, 1, 2, 3, 4, 5, 6, 7, 8] rfl
        have hD : va_D A [(q_this, .inr (4, [.ref q_characters, .ref q_firsts, .ref q_seconds, .ref q_thirds, .ref q_looses, .int v_count, .ref q_slots, .ref q_waiting, .ref q_seen, .int v_waitingCount_53])), (q_characters, .inl (cI, 120, .inl v_characters)), (q_firsts, .inl (cI, 120, .inl v_firsts)), (q_seconds, .inl (cI, 120, .inl v_seconds)), (q_thirds, .inl (cI, 120, .inl v_thirds)), (q_looses, .inl (cZ, 120, .inl v_looses)), (q_slots, .inl (cI, 256, .inl v_slots)), (q_waiting, .inl (cI, 120, .inl v_waiting_53)), (q_seen, .inl (cZ, 120, .inl v_seen_53))] := hD.sub [0, 1, 2, 3, 4, 5, 6, 7, 8] (by decide) rfl
        refine lv_if_eq (tgt := 61) hx hb dX4_wouldGive_56 (by decide) (fun c9 => ?_) (fun c9 => ?_)
        · replace h := h.1 c9
          refine lv_iconst (v := (0 : Int32)) hx hb dX4_wouldGive_61 (by decide) ?_
          refine lv_istore (lv' := [(5, .int (0 : Int32)), (0, .ref q_this), (1, .int a1), (2, .int a2), (3, .int a3), (4, .int a4)]) hx hb dX4_wouldGive_62 hl (by decide) rfl (fun ls hl => ?_)
          obtain ⟨k64, h⟩ := h
          refine P64 k64 (0 : Int32) v_waitingCount_53 v_waiting_53 v_seen_53 h _ _ hP hD hS ls (lv_sub hl [1, 2, 0] rfl)
        · replace h := h.2 c9
          refine lv_iconst (v := (1 : Int32)) hx hb dX4_wouldGive_59 (by decide) ?_
          rw [hQQ]
          exact W.zret (ty := .boolean) hx hb hr (by decide) (fun t ht hW => ⟨⟨_, (v_waitingCount_53, v_waiting_53, v_seen_53), rfl, h, by rw [ht]; exact hP, hD⟩, hS.F ht⟩) hS.2.2 dX4_wouldGive_60
