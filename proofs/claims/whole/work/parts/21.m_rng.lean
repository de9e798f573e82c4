set_option maxHeartbeats 4000000 in
set_option maxRecDepth 100000 in
theorem m_X2_valueOf (l : Launch) (dC : Nat → ClassId) (dI : Nat → Nat → Nat) (cI cZ cJ : ClassId) (q_this : Nat) (q_firsts : Nat) (q_lasts : Nat) (q_values : Nat) (v_count : Int32) (v_firsts : Nat → Int32) (v_lasts : Nat → Int32) (v_values : Nat → Int32) (a1 : Int32) (post : Int32 → Prop) (h : w_X2_valueOf post v_count v_firsts v_lasts v_values a1) : Met l yX2_valueOf [.code yX2_valueOf cX2_valueOf 3 (some .int)] ({ frames := 0, cells := 0, slots := 0, locals := 0 } : Room) (va_Pc [.ref q_this, .int a1] (fun U => va_P (dC, dI) vwC [(q_this, .inr (2, [.ref q_firsts, .ref q_lasts, .ref q_values, .int v_count])), (q_firsts, .inl (cI, 60, .inl v_firsts)), (q_lasts, .inl (cI, 60, .inl v_lasts)), (q_values, .inl (cI, 60, .inl v_values))] U.heap ∧ KK dC dI cI cZ cJ U)) (vp_Si post) 0 0 (fun _ => False) := by
  refine Met.ofW (cc := cX2_valueOf) (maxL := 3) (ret := (some .int)) (by decide) rfl ?_
  intro p e s m args below meth c s₁ B hml hv
  obtain ⟨rfl, hP, hKK⟩ := hv
  have hK := hKK.1
  have hx := B.exec
  have hb := B.bytes
  have hr := B.returns
  have hts : ∀ w ∈ TG, w.before (List.toArray [.ref q_this, .int a1]) s = true := hKK.ts
  have hown : s.vm.findClass RX2 = some m.cls := findClass_of_methodNamed B.named
  have hlocks := B.notSynchronized
  have hl := lv_entry ([.ref q_this, .int a1]) (n := 3) (Nat.le_of_ble_eq_true rfl)
  rw [lg_entry_eq]
  generalize (lg_sl ([.ref q_this, .int a1]) ++ List.replicate (3 - (lg_sl ([.ref q_this, .int a1])).length) Slot.unset).toArray = ls at hl ⊢
  have hl : lv_has ls 3 [(0, .ref q_this), (1, .int a1)] := hl
  obtain ⟨QQ, hQQ⟩ : ∃ z, z = MQ below (vp_Si post) (List.toArray [.ref q_this, .int a1]) s 0 0 (fun _ => False) := ⟨_, rfl⟩
  rw [← hQQ]
  have P7 : ∀ (n : Nat) (x2 : Int32) , w_X2_valueOf_7 post v_firsts v_lasts v_values a1 n x2 → ∀ (ls : Array Slot), lv_has ls 3 [(0, .ref q_this), (1, .int a1), (2, .int x2)] → W p l e (headSpec [.code yX2_valueOf cX2_valueOf 3 (some .int)] ({ frames := 0, cells := 0, slots := 0, locals := 0 } : Room)).room s m (List.toArray [.ref q_this, .int a1]) below meth c s.heap [] 0 0 QQ (F0 m 7 ls []) := by
    intro  n
    induction n with
    | zero => intro x2 h; exact h.elim
    | succ n ih =>
      intro x2 h ls hl
      refine lv_iload_n hx hb dX2_valueOf_7 rfl (lv_at hl 2 rfl) ?_
      refine lv_if_lt (tgt := 44) hx hb dX2_valueOf_8 (by decide) (fun c9 => ?_) (fun c9 => ?_)
      · replace h := h.1 c9
        refine lv_iconst (v := (0 : Int32)) hx hb dX2_valueOf_44 (by decide) ?_
        rw [hQQ]
        exact W.iret hx hb hr (fun t ht hW => ⟨_, rfl, h, ht⟩) t_nil dX2_valueOf_45
      · replace h := h.2 c9
        refine lv_aload_n hx hb dX2_valueOf_11 rfl (lv_at hl 0 rfl) ?_
        refine va_get (D := (dC, dI)) (ci := 2) (v := .ref q_firsts) (C := RX2) (T := TX2) (N := 4) hx hb hts inX2 hown hK hP 0 rfl rfl 0 (by decide) (hts _ tw30) (fun _ h9 => h9) rfl dX2_valueOf_12 ?_
        refine lv_iload_n hx hb dX2_valueOf_15 rfl (lv_at hl 2 rfl) ?_
        obtain ⟨hin, h⟩ := h
        refine va_iald hx hb hK hP 1 0 rfl rfl hin dX2_valueOf_16 ?_
        refine lv_iload_n hx hb dX2_valueOf_17 rfl (lv_at hl 1 rfl) ?_
        refine lv_icmp_gt (tgt := 38) hx hb dX2_valueOf_18 (by decide) (fun c9 => ?_) (fun c9 => ?_)
        · replace h := h.1 c9
          refine lv_iinc (v := x2 + (-1 : Int32)) (lv' := [(2, .int (x2 + (-1 : Int32))), (0, .ref q_this), (1, .int a1)]) hx hb dX2_valueOf_38 hl (k := 2) rfl rfl (by decide) rfl (fun ls hl => ?_)
          refine lv_goto (tgt := 7) hx hb dX2_valueOf_41 (by decide) ?_
          exact ih (x2 + (-1 : Int32)) h ls (lv_sub hl [1, 2, 0] rfl)
        · replace h := h.2 c9
          refine lv_iload_n hx hb dX2_valueOf_21 rfl (lv_at hl 1 rfl) ?_
          refine lv_aload_n hx hb dX2_valueOf_22 rfl (lv_at hl 0 rfl) ?_
          refine va_get (D := (dC, dI)) (ci := 2) (v := .ref q_lasts) (C := RX2) (T := TX2) (N := 4) hx hb hts inX2 hown hK hP 0 rfl rfl 1 (by decide) (hts _ tw31) (fun _ h9 => h9) rfl dX2_valueOf_23 ?_
          refine lv_iload_n hx hb dX2_valueOf_26 rfl (lv_at hl 2 rfl) ?_
          obtain ⟨hin, h⟩ := h
          refine va_iald hx hb hK hP 2 0 rfl rfl hin dX2_valueOf_27 ?_
          refine lv_icmp_gt (tgt := 38) hx hb dX2_valueOf_28 (by decide) (fun c9 => ?_) (fun c9 => ?_)
          · replace h := h.1 c9
            refine lv_iinc (v := x2 + (-1 : Int32)) (lv' := [(2, .int (x2 + (-1 : Int32))), (0, .ref q_this), (1, .int a1)]) hx hb dX2_valueOf_38 hl (k := 2) rfl rfl (by decide) rfl (fun ls hl => ?_)
            refine lv_goto (tgt := 7) hx hb dX2_valueOf_41 (by decide) ?_
            exact ih (x2 + (-1 : Int32)) h ls (lv_sub hl [1, 2, 0] rfl)
          · replace h := h.2 c9
            refine lv_aload_n hx hb dX2_valueOf_31 rfl (lv_at hl 0 rfl) ?_
            refine va_get (D := (dC, dI)) (ci := 2) (v := .ref q_values) (C := RX2) (T := TX2) (N := 4) hx hb hts inX2 hown hK hP 0 rfl rfl 2 (by decide) (hts _ tw32) (fun _ h9 => h9) rfl dX2_valueOf_32 ?_
            refine lv_iload_n hx hb dX2_valueOf_35 rfl (lv_at hl 2 rfl) ?_
            obtain ⟨hin, h⟩ := h
            refine va_iald hx hb hK hP 3 0 rfl rfl hin dX2_valueOf_36 ?_
            rw [hQQ]
            exact W.iret hx hb hr (fun t ht hW => ⟨_, rfl, h, ht⟩) t_nil dX2_valueOf_37
  refine lv_aload_n hx hb dX2_valueOf_0 rfl (lv_at hl 0 rfl) ?_
  refine va_get (D := (dC, dI)) (ci := 2) (v := .int v_count) (C := RX2) (T := TX2) (N := 4) hx hb hts inX2 hown hK hP 0 rfl rfl 3 (by decide) (hts _ tw33) (fun _ h9 => h9) rfl dX2_valueOf_1 ?_
  refine lv_iconst (v := (1 : Int32)) hx hb dX2_valueOf_4 (by decide) ?_
  refine lv_isub hx hb dX2_valueOf_5 ?_
  refine lv_istore_n (lv' := [(2, .int (v_count - (1 : Int32))), (0, .ref q_this), (1, .int a1)]) hx hb dX2_valueOf_6 rfl hl (by decide) rfl (fun ls hl => ?_)
  obtain ⟨k7, h⟩ := h
  refine P7 k7 (v_count - (1 : Int32)) h ls (lv_sub hl [1, 2, 0] rfl)
set_option maxHeartbeats 4000000 in
set_option maxRecDepth 100000 in
theorem m_X1_find (l : Launch) (dC : Nat → ClassId) (dI : Nat → Nat → Nat) (cI cZ cJ : ClassId) (q_this : Nat) (q_characters : Nat) (v_count : Int32) (v_characters : Nat → Int32) (a1 : Int32) (post : Int32 → Prop) (h : w_X1_find post v_count v_characters a1) : Met l yX1_find [.code yX1_find cX1_find 3 (some .int)] ({ frames := 0, cells := 0, slots := 0, locals := 0 } : Room) (va_Pc [.ref q_this, .int a1] (fun U => va_P (dC, dI) vwC [(q_this, .inr (1, [.ref q_characters, .int v_count])), (q_characters, .inl (cI, 60, .inl v_characters))] U.heap ∧ KK dC dI cI cZ cJ U)) (vp_Si post) 0 0 (fun _ => False) := by
  refine Met.ofW (cc := cX1_find) (maxL := 3) (ret := (some .int)) (by decide) rfl ?_
  intro p e s m args below meth c s₁ B hml hv
  obtain ⟨rfl, hP, hKK⟩ := hv
  have hK := hKK.1
  have hx := B.exec
  have hb := B.bytes
  have hr := B.returns
  have hts : ∀ w ∈ TG, w.before (List.toArray [.ref q_this, .int a1]) s = true := hKK.ts
  have hown : s.vm.findClass RX1 = some m.cls := findClass_of_methodNamed B.named
  have hlocks := B.notSynchronized
  have hl := lv_entry ([.ref q_this, .int a1]) (n := 3) (Nat.le_of_ble_eq_true rfl)
  rw [lg_entry_eq]
  generalize (lg_sl ([.ref q_this, .int a1]) ++ List.replicate (3 - (lg_sl ([.ref q_this, .int a1])).length) Slot.unset).toArray = ls at hl ⊢
  have hl : lv_has ls 3 [(0, .ref q_this), (1, .int a1)] := hl
  obtain ⟨QQ, hQQ⟩ : ∃ z, z = MQ below (vp_Si post) (List.toArray [.ref q_this, .int a1]) s 0 0 (fun _ => False) := ⟨_, rfl⟩
  rw [← hQQ]
  have P2 : ∀ (n : Nat) (x2 : Int32) , w_X1_find_2 post v_count v_characters a1 n x2 → ∀ (ls : Array Slot), lv_has ls 3 [(0, .ref q_this), (1, .int a1), (2, .int x2)] → W p l e (headSpec [.code yX1_find cX1_find 3 (some .int)] ({ frames := 0, cells := 0, slots := 0, locals := 0 } : Room)).room s m (List.toArray [.ref q_this, .int a1]) below meth c s.heap [] 0 0 QQ (F0 m 2 ls []) := by
    intro  n
    induction n with
    | zero => intro x2 h; exact h.elim
    | succ n ih =>
      intro x2 h ls hl
      refine lv_iload_n hx hb dX1_find_2 rfl (lv_at hl 2 rfl) ?_
      refine lv_aload_n hx hb dX1_find_3 rfl (lv_at hl 0 rfl) ?_
      refine va_get (D := (dC, dI)) (ci := 1) (v := .int v_count) (C := RX1) (T := TX1) (N := 2) hx hb hts inX1 hown hK hP 0 rfl rfl 1 (by decide) (hts _ tw89) (fun _ h9 => h9) rfl dX1_find_4 ?_
      refine lv_icmp_ge (tgt := 28) hx hb dX1_find_7 (by decide) (fun c9 => ?_) (fun c9 => ?_)
      · replace h := h.1 c9
        refine lv_iconst (v := (-1 : Int32)) hx hb dX1_find_28 (by decide) ?_
        rw [hQQ]
        exact W.iret hx hb hr (fun t ht hW => ⟨_, rfl, h, ht⟩) t_nil dX1_find_29
      · replace h := h.2 c9
        refine lv_aload_n hx hb dX1_find_10 rfl (lv_at hl 0 rfl) ?_
        refine va_get (D := (dC, dI)) (ci := 1) (v := .ref q_characters) (C := RX1) (T := TX1) (N := 2) hx hb hts inX1 hown hK hP 0 rfl rfl 0 (by decide) (hts _ tw88) (fun _ h9 => h9) rfl dX1_find_11 ?_
        refine lv_iload_n hx hb dX1_find_14 rfl (lv_at hl 2 rfl) ?_
        obtain ⟨hin, h⟩ := h
        refine va_iald hx hb hK hP 1 0 rfl rfl hin dX1_find_15 ?_
        refine lv_iload_n hx hb dX1_find_16 rfl (lv_at hl 1 rfl) ?_
        refine lv_icmp_ne (tgt := 22) hx hb dX1_find_17 (by decide) (fun c9 => ?_) (fun c9 => ?_)
        · replace h := h.1 c9
          refine lv_iinc (v := x2 + (1 : Int32)) (lv' := [(2, .int (x2 + (1 : Int32))), (0, .ref q_this), (1, .int a1)]) hx hb dX1_find_22 hl (k := 2) rfl rfl (by decide) rfl (fun ls hl => ?_)
          refine lv_goto (tgt := 2) hx hb dX1_find_25 (by decide) ?_
          exact ih (x2 + (1 : Int32)) h ls (lv_sub hl [1, 2, 0] rfl)
        · replace h := h.2 c9
          refine lv_iload_n hx hb dX1_find_20 rfl (lv_at hl 2 rfl) ?_
          rw [hQQ]
          exact W.iret hx hb hr (fun t ht hW => ⟨_, rfl, h, ht⟩) t_nil dX1_find_21
  refine lv_iconst (v := (0 : Int32)) hx hb dX1_find_0 (by decide) ?_
  refine lv_istore_n (lv' := [(2, .int (0 : Int32)), (0, .ref q_this), (1, .int a1)]) hx hb dX1_find_1 rfl hl (by decide) rfl (fun ls hl => ?_)
  obtain ⟨k2, h⟩ := h
  refine P2 k2 (0 : Int32) h ls (lv_sub hl [1, 2, 0] rfl)
set_option maxHeartbeats 4000000 in
set_option maxRecDepth 100000 in
theorem m_X1_has (l : Launch) (dC : Nat → ClassId) (dI : Nat → Nat → Nat) (cI cZ cJ : ClassId) (q_this : Nat) (q_characters : Nat) (v_count : Int32) (v_characters : Nat → Int32) (a1 : Int32) (post : Int32 → Prop) (h : w_X1_has post v_count v_characters a1) : Met l yX1_has [.code yX1_has cX1_has 2 (some .boolean)] ({ frames := 1, cells := 0, slots := 0, locals := 22 } : Room) (va_Pc [.ref q_this, .int a1] (fun U => va_P (dC, dI) vwC [(q_this, .inr (1, [.ref q_characters, .int v_count])), (q_characters, .inl (cI, 60, .inl v_characters))] U.heap ∧ KK dC dI cI cZ cJ U)) (vp_Si post) 0 0 (fun _ => False) := by
  refine Met.ofW (cc := cX1_has) (maxL := 2) (ret := (some .boolean)) (by decide) rfl ?_
  intro p e s m args below meth c s₁ B hml hv
  obtain ⟨rfl, hP, hKK⟩ := hv
  have hK := hKK.1
  have hx := B.exec
  have hb := B.bytes
  have hr := B.returns
  have hts : ∀ w ∈ TG, w.before (List.toArray [.ref q_this, .int a1]) s = true := hKK.ts
  have hown : s.vm.findClass RX1 = some m.cls := findClass_of_methodNamed B.named
  have hlocks := B.notSynchronized
  have hl := lv_entry ([.ref q_this, .int a1]) (n := 2) (Nat.le_of_ble_eq_true rfl)
  rw [lg_entry_eq]
  generalize (lg_sl ([.ref q_this, .int a1]) ++ List.replicate (2 - (lg_sl ([.ref q_this, .int a1])).length) Slot.unset).toArray = ls at hl ⊢
  have hl : lv_has ls 2 [(0, .ref q_this), (1, .int a1)] := hl
  obtain ⟨QQ, hQQ⟩ : ∃ z, z = MQ below (vp_Si post) (List.toArray [.ref q_this, .int a1]) s 0 0 (fun _ => False) := ⟨_, rfl⟩
  rw [← hQQ]
  refine lv_aload_n hx hb dX1_has_0 rfl (lv_at hl 0 rfl) ?_
  refine lv_iload_n hx hb dX1_has_1 rfl (lv_at hl 1 rfl) ?_
  have hPc := hP.sub (ws' := [(q_this, .inr (1, [.ref q_characters, .int v_count])), (q_characters, .inl (cI, 60, .inl v_characters))]) [0, 1] rfl
  refine na_calls (va_runV (As := [.int a1]) (rest := []) ⟨hx, hb, hml, hown, hts⟩ (m_X1_find l dC dI cI cZ cJ q_this q_characters v_count v_characters a1 _ h) (cwV 1 hts (na_gV tw419 tw421 tp18 tw4 tw422 rfl) rfl rfl rfl (by decide +kernel) ⟨Nat.le_of_ble_eq_true rfl, Nat.le_of_ble_eq_true rfl⟩) ⟨fun a U g mk q => by obtain ⟨q0, qP, qK⟩ := q; exact ⟨q0, qP, qK.same rfl⟩, va_recv hK hPc (ci := 1) (q0 := 0) rfl rfl, fun U hU hW => ⟨rfl, by rw [hU]; exact hPc, hKK.warm hW⟩⟩ rfl rfl hl.1 rfl (lv_room (Nat.le_of_ble_eq_true rfl)) dX1_has_2 ⟨Nat.zero_le _, Nat.zero_le _⟩) (fun r_2 h => ?_)
  refine lv_iconst (v := (-1 : Int32)) hx hb dX1_has_5 (by decide) ?_
  refine lv_icmp_eq (tgt := 13) hx hb dX1_has_6 (by decide) (fun c9 => ?_) (fun c9 => ?_)
  · replace h := h.1 c9
    refine lv_iconst (v := (0 : Int32)) hx hb dX1_has_13 (by decide) ?_
    rw [hQQ]
    exact W.zret (ty := .boolean) hx hb hr (by decide) (fun t ht hW => ⟨_, rfl, h, ht⟩) t_nil dX1_has_14
  · replace h := h.2 c9
    refine lv_iconst (v := (1 : Int32)) hx hb dX1_has_9 (by decide) ?_
    refine lv_goto (tgt := 14) hx hb dX1_has_10 (by decide) ?_
    rw [hQQ]
    exact W.zret (ty := .boolean) hx hb hr (by decide) (fun t ht hW => ⟨_, rfl, h, ht⟩) t_nil dX1_has_14
set_option maxHeartbeats 4000000 in
set_option maxRecDepth 100000 in
theorem m_X1_isFull (l : Launch) (dC : Nat → ClassId) (dI : Nat → Nat → Nat) (cI cZ cJ : ClassId) (q_this : Nat) (q_characters : Nat) (v_count : Int32) (v_characters : Nat → Int32) (post : Int32 → Prop) (h : w_X1_isFull post v_count) : Met l yX1_isFull [.code yX1_isFull cX1_isFull 1 (some .boolean)] ({ frames := 0, cells := 0, slots := 0, locals := 0 } : Room) (va_Pc [.ref q_this] (fun U => va_P (dC, dI) vwC [(q_this, .inr (1, [.ref q_characters, .int v_count])), (q_characters, .inl (cI, 60, .inl v_characters))] U.heap ∧ KK dC dI cI cZ cJ U)) (vp_Si post) 0 0 (fun _ => False) := by
  refine Met.ofW (cc := cX1_isFull) (maxL := 1) (ret := (some .boolean)) (by decide) rfl ?_
  intro p e s m args below meth c s₁ B hml hv
  obtain ⟨rfl, hP, hKK⟩ := hv
  have hK := hKK.1
  have hx := B.exec
  have hb := B.bytes
  have hr := B.returns
  have hts : ∀ w ∈ TG, w.before (List.toArray [.ref q_this]) s = true := hKK.ts
  have hown : s.vm.findClass RX1 = some m.cls := findClass_of_methodNamed B.named
  have hlocks := B.notSynchronized
  have hl := lv_entry ([.ref q_this]) (n := 1) (Nat.le_of_ble_eq_true rfl)
  rw [lg_entry_eq]
  generalize (lg_sl ([.ref q_this]) ++ List.replicate (1 - (lg_sl ([.ref q_this])).length) Slot.unset).toArray = ls at hl ⊢
  have hl : lv_has ls 1 [(0, .ref q_this)] := hl
  obtain ⟨QQ, hQQ⟩ : ∃ z, z = MQ below (vp_Si post) (List.toArray [.ref q_this]) s 0 0 (fun _ => False) := ⟨_, rfl⟩
  rw [← hQQ]
  refine lv_aload_n hx hb dX1_isFull_0 rfl (lv_at hl 0 rfl) ?_
  refine va_get (D := (dC, dI)) (ci := 1) (v := .int v_count) (C := RX1) (T := TX1) (N := 2) hx hb hts inX1 hown hK hP 0 rfl rfl 1 (by decide) (hts _ tw89) (fun _ h9 => h9) rfl dX1_isFull_1 ?_
  refine lv_bipush (v := (60 : Int32)) hx hb dX1_isFull_4 (by decide) ?_
  refine lv_icmp_lt (tgt := 13) hx hb dX1_isFull_6 (by decide) (fun c9 => ?_) (fun c9 => ?_)
  · replace h := h.1 c9
    refine lv_iconst (v := (0 : Int32)) hx hb dX1_isFull_13 (by decide) ?_
    rw [hQQ]
    exact W.zret (ty := .boolean) hx hb hr (by decide) (fun t ht hW => ⟨_, rfl, h, ht⟩) t_nil dX1_isFull_14
  · replace h := h.2 c9
    refine lv_iconst (v := (1 : Int32)) hx hb dX1_isFull_9 (by decide) ?_
    refine lv_goto (tgt := 14) hx hb dX1_isFull_10 (by decide) ?_
    rw [hQQ]
    exact W.zret (ty := .boolean) hx hb hr (by decide) (fun t ht hW => ⟨_, rfl, h, ht⟩) t_nil dX1_isFull_14
set_option maxHeartbeats 4000000 in
set_option maxRecDepth 100000 in
theorem m_X1_put (l : Launch) (dC : Nat → ClassId) (dI : Nat → Nat → Nat) (cI cZ cJ : ClassId) (q_this : Nat) (q_characters : Nat) (v_count : Int32) (v_characters : Nat → Int32) (a1 : Int32) (sz : Nat) (post : Int32 → (Nat → Int32) → Prop) (h : w_X1_put post v_count v_characters a1) : Met l yX1_put [.code yX1_put cX1_put 2 none] ({ frames := 1, cells := 0, slots := 0, locals := 20 } : Room) (va_Pc [.ref q_this, .int a1] (fun U => U.heap.size = sz ∧ va_P (dC, dI) vwC [(q_this, .inr (1, [.ref q_characters, .int v_count])), (q_characters, .inl (cI, 60, .inl v_characters))] U.heap ∧ KK dC dI cI cZ cJ U ∧ va_D (fun _ => True) [(q_this, .inr (1, [.ref q_characters, .int v_count])), (q_characters, .inl (cI, 60, .inl v_characters))])) (va_Qv (fun (u : Int32 × (Nat → Int32)) => post u.1 u.2) (fun (u : Int32 × (Nat → Int32)) (t : State) => va_P (dC, dI) vwC [(q_this, .inr (1, [.ref q_characters, .int u.1])), (q_characters, .inl (cI, 60, .inl u.2))] t.heap ∧ va_D (va_A [(q_this, .inr (1, [.ref q_characters, .int v_count])), (q_characters, .inl (cI, 60, .inl v_characters))] sz) [(q_this, .inr (1, [.ref q_characters, .int u.1])), (q_characters, .inl (cI, 60, .inl u.2))]) (va_A [(q_this, .inr (1, [.ref q_characters, .int v_count])), (q_characters, .inl (cI, 60, .inl v_characters))] sz)) 0 0 (va_A [(q_this, .inr (1, [.ref q_characters, .int v_count])), (q_characters, .inl (cI, 60, .inl v_characters))] sz) := by
  refine Met.ofW (cc := cX1_put) (maxL := 2) (ret := none) (by decide) rfl ?_
  intro p e s m args below meth c s₁ B hml hv
  obtain ⟨rfl, hsz, hP, hKK, hD0⟩ := hv
  have hK := hKK.1
  have hx := B.exec
  have hb := B.bytes
  have hr := B.returns
  have hts : ∀ w ∈ TG, w.before (List.toArray [.ref q_this, .int a1]) s = true := hKK.ts
  have hown : s.vm.findClass RX1 = some m.cls := findClass_of_methodNamed B.named
  have hlocks := B.notSynchronized
  subst hsz
  have hD := hD0.self (sz := s.heap.size)
  generalize hAe : va_A [(q_this, .inr (1, [.ref q_characters, .int v_count])), (q_characters, .inl (cI, 60, .inl v_characters))] s.heap.size = A at hD ⊢
  have hA : ∀ q : Nat, s.heap.size ≤ q → A q := fun q h => by rw [← hAe]; exact Or.inr h
  have hS : va_S A s.heap s.heap [] := va_S.rf
  have hl := lv_entry ([.ref q_this, .int a1]) (n := 2) (Nat.le_of_ble_eq_true rfl)
  rw [lg_entry_eq]
  generalize (lg_sl ([.ref q_this, .int a1]) ++ List.replicate (2 - (lg_sl ([.ref q_this, .int a1])).length) Slot.unset).toArray = ls at hl ⊢
  have hl : lv_has ls 2 [(0, .ref q_this), (1, .int a1)] := hl
  obtain ⟨QQ, hQQ⟩ : ∃ z, z = MQ below (va_Qv (fun (u : Int32 × (Nat → Int32)) => post u.1 u.2) (fun (u : Int32 × (Nat → Int32)) (t : State) => va_P (dC, dI) vwC [(q_this, .inr (1, [.ref q_characters, .int u.1])), (q_characters, .inl (cI, 60, .inl u.2))] t.heap ∧ va_D A [(q_this, .inr (1, [.ref q_characters, .int u.1])), (q_characters, .inl (cI, 60, .inl u.2))]) A) (List.toArray [.ref q_this, .int a1]) s 0 0 A := ⟨_, rfl⟩
  rw [← hQQ]
  refine lv_aload_n hx hb dX1_put_0 rfl (lv_at hl 0 rfl) ?_
  have hPc := hP.sub (ws' := [(q_this, .inr (1, [.ref q_characters, .int v_count])), (q_characters, .inl (cI, 60, .inl v_characters))]) [0, 1] rfl
  refine na_calls (va_runV (As := []) (rest := []) ⟨hx, hb, hml, hown, hts⟩ (m_X1_isFull l dC dI cI cZ cJ q_this q_characters v_count v_characters _ h) (cwV 0 hts (na_gV tw436 tw429 tp20 tw4 tw430 rfl) rfl rfl rfl (by decide +kernel) ⟨Nat.le_of_ble_eq_true rfl, Nat.le_of_ble_eq_true rfl⟩) ⟨fun a U g mk q => by obtain ⟨q0, qP, qK⟩ := q; exact ⟨q0, qP, qK.same rfl⟩, va_recv hK hPc (ci := 1) (q0 := 0) rfl rfl, fun U hU hW => ⟨rfl, by rw [hU]; exact hPc, hKK.warm hW⟩⟩ rfl rfl hl.1 rfl (lv_room (Nat.le_of_ble_eq_true rfl)) dX1_put_1 ⟨Nat.zero_le _, Nat.zero_le _⟩) (fun r_1 h => ?_)
  refine lv_if_eq (tgt := 8) hx hb dX1_put_4 (by decide) (fun c9 => ?_) (fun c9 => ?_)
  · replace h := h.1 c9
    refine lv_aload_n hx hb dX1_put_8 rfl (lv_at hl 0 rfl) ?_
    refine va_get (D := (dC, dI)) (ci := 1) (v := .ref q_characters) (C := RX1) (T := TX1) (N := 2) hx hb hts inX1 hown hK hP 0 rfl rfl 0 (by decide) (hts _ tw88) (fun _ h9 => h9) rfl dX1_put_9 ?_
    refine lv_aload_n hx hb dX1_put_12 rfl (lv_at hl 0 rfl) ?_
    refine va_get (D := (dC, dI)) (ci := 1) (v := .int v_count) (C := RX1) (T := TX1) (N := 2) hx hb hts inX1 hown hK hP 0 rfl rfl 1 (by decide) (hts _ tw89) (fun _ h9 => h9) rfl dX1_put_13 ?_
    refine lv_iload_n hx hb dX1_put_16 rfl (lv_at hl 1 rfl) ?_
    obtain ⟨hin, h⟩ := h
    refine va_iast hx hb hK hP hD hS 1 0 rfl rfl hin dX1_put_17 (fun H locs hP hD hS => ?_)
    have hP : va_P (dC, dI) vwC [(q_this, .inr (1, [.ref q_characters, .int v_count])), (q_characters, .inl (cI, 60, .inl (upd v_characters v_count.toNatClampNeg a1)))] H := hP
    have hD : va_D A [(q_this, .inr (1, [.ref q_characters, .int v_count])), (q_characters, .inl (cI, 60, .inl (upd v_characters v_count.toNatClampNeg a1)))] := hD
    refine lv_aload_n hx hb dX1_put_18 rfl (lv_at hl 0 rfl) ?_
    refine lv_dup hx hb dX1_put_19 rfl ?_
    refine va_get (D := (dC, dI)) (ci := 1) (v := .int v_count) (C := RX1) (T := TX1) (N := 2) hx hb hts inX1 hown hK hP 0 rfl rfl 1 (by decide) (hts _ tw89) (fun _ h9 => h9) rfl dX1_put_20 ?_
    refine lv_iconst (v := (1 : Int32)) hx hb dX1_put_23 (by decide) ?_
    refine lv_iadd hx hb dX1_put_24 ?_
    refine va_put (D := (dC, dI)) (ci := 1) (v := .int (v_count + (1 : Int32))) (ty := .int) (C := RX1) (T := TX1) (N := 2) hx hb hts inX1 tyX1 tyX1_ok nmX1 hown hK hP hD hS 0 rfl rfl 1 (by decide) (hts _ tw89) (fun _ h9 => h9) rfl (by decide +kernel) rfl rfl (Nat.le_of_ble_eq_true rfl) dX1_put_25 (fun H locs hP hD hS => ?_)
    have hP : va_P (dC, dI) vwC [(q_this, .inr (1, [.ref q_characters, .int (v_count + (1 : Int32))])), (q_characters, .inl (cI, 60, .inl (upd v_characters v_count.toNatClampNeg a1)))] H := hP
    have hD : va_D A [(q_this, .inr (1, [.ref q_characters, .int (v_count + (1 : Int32))])), (q_characters, .inl (cI, 60, .inl (upd v_characters v_count.toNatClampNeg a1)))] := hD
    rw [hQQ]
    exact W.vret hx hb hr (fun t ht hW => ⟨⟨((v_count + (1 : Int32)), (upd v_characters v_count.toNatClampNeg a1)), rfl, h, by rw [ht]; exact hP, hD⟩, hS.F ht⟩) hS.2.2 dX1_put_28
  · replace h := h.2 c9
    rw [hQQ]
    exact W.vret hx hb hr (fun t ht hW => ⟨⟨(v_count, v_characters), rfl, h, by rw [ht]; exact hP, hD⟩, hS.F ht⟩) hS.2.2 dX1_put_7
set_option maxHeartbeats 4000000 in
set_option maxRecDepth 100000 in
theorem m_X1_remove (l : Launch) (dC : Nat → ClassId) (dI : Nat → Nat → Nat) (cI cZ cJ : ClassId) (q_this : Nat) (q_characters : Nat) (v_count : Int32) (v_characters : Nat → Int32) (a1 : Int32) (sz : Nat) (post : Int32 → (Nat → Int32) → Prop) (h : w_X1_remove post v_count v_characters a1) : Met l yX1_remove [.code yX1_remove cX1_remove 3 none] ({ frames := 1, cells := 0, slots := 0, locals := 22 } : Room) (va_Pc [.ref q_this, .int a1] (fun U => U.heap.size = sz ∧ va_P (dC, dI) vwC [(q_this, .inr (1, [.ref q_characters, .int v_count])), (q_characters, .inl (cI, 60, .inl v_characters))] U.heap ∧ KK dC dI cI cZ cJ U ∧ va_D (fun _ => True) [(q_this, .inr (1, [.ref q_characters, .int v_count])), (q_characters, .inl (cI, 60, .inl v_characters))])) (va_Qv (fun (u : Int32 × (Nat → Int32)) => post u.1 u.2) (fun (u : Int32 × (Nat → Int32)) (t : State) => va_P (dC, dI) vwC [(q_this, .inr (1, [.ref q_characters, .int u.1])), (q_characters, .inl (cI, 60, .inl u.2))] t.heap ∧ va_D (va_A [(q_this, .inr (1, [.ref q_characters, .int v_count])), (q_characters, .inl (cI, 60, .inl v_characters))] sz) [(q_this, .inr (1, [.ref q_characters, .int u.1])), (q_characters, .inl (cI, 60, .inl u.2))]) (va_A [(q_this, .inr (1, [.ref q_characters, .int v_count])), (q_characters, .inl (cI, 60, .inl v_characters))] sz)) 0 0 (va_A [(q_this, .inr (1, [.ref q_characters, .int v_count])), (q_characters, .inl (cI, 60, .inl v_characters))] sz) := by
  refine Met.ofW (cc := cX1_remove) (maxL := 3) (ret := none) (by decide) rfl ?_
  intro p e s m args below meth c s₁ B hml hv
  obtain ⟨rfl, hsz, hP, hKK, hD0⟩ := hv
  have hK := hKK.1
  have hx := B.exec
  have hb := B.bytes
  have hr := B.returns
  have hts : ∀ w ∈ TG, w.before (List.toArray [.ref q_this, .int a1]) s = true := hKK.ts
  have hown : s.vm.findClass RX1 = some m.cls := findClass_of_methodNamed B.named
  have hlocks := B.notSynchronized
  subst hsz
  have hD := hD0.self (sz := s.heap.size)
  generalize hAe : va_A [(q_this, .inr (1, [.ref q_characters, .int v_count])), (q_characters, .inl (cI, 60, .inl v_characters))] s.heap.size = A at hD ⊢
  have hA : ∀ q : Nat, s.heap.size ≤ q → A q := fun q h => by rw [← hAe]; exact Or.inr h
  have hS : va_S A s.heap s.heap [] := va_S.rf
  have hl := lv_entry ([.ref q_this, .int a1]) (n := 3) (Nat.le_of_ble_eq_true rfl)
  rw [lg_entry_eq]
  generalize (lg_sl ([.ref q_this, .int a1]) ++ List.replicate (3 - (lg_sl ([.ref q_this, .int a1])).length) Slot.unset).toArray = ls at hl ⊢
  have hl : lv_has ls 3 [(0, .ref q_this), (1, .int a1)] := hl
  obtain ⟨QQ, hQQ⟩ : ∃ z, z = MQ below (va_Qv (fun (u : Int32 × (Nat → Int32)) => post u.1 u.2) (fun (u : Int32 × (Nat → Int32)) (t : State) => va_P (dC, dI) vwC [(q_this, .inr (1, [.ref q_characters, .int u.1])), (q_characters, .inl (cI, 60, .inl u.2))] t.heap ∧ va_D A [(q_this, .inr (1, [.ref q_characters, .int u.1])), (q_characters, .inl (cI, 60, .inl u.2))]) A) (List.toArray [.ref q_this, .int a1]) s 0 0 A := ⟨_, rfl⟩
  rw [← hQQ]
  refine lv_aload_n hx hb dX1_remove_0 rfl (lv_at hl 0 rfl) ?_
  refine lv_iload_n hx hb dX1_remove_1 rfl (lv_at hl 1 rfl) ?_
  have hPc := hP.sub (ws' := [(q_this, .inr (1, [.ref q_characters, .int v_count])), (q_characters, .inl (cI, 60, .inl v_characters))]) [0, 1] rfl
  refine na_calls (va_runV (As := [.int a1]) (rest := []) ⟨hx, hb, hml, hown, hts⟩ (m_X1_find l dC dI cI cZ cJ q_this q_characters v_count v_characters a1 _ h) (cwV 1 hts (na_gV tw419 tw421 tp18 tw4 tw422 rfl) rfl rfl rfl (by decide +kernel) ⟨Nat.le_of_ble_eq_true rfl, Nat.le_of_ble_eq_true rfl⟩) ⟨fun a U g mk q => by obtain ⟨q0, qP, qK⟩ := q; exact ⟨q0, qP, qK.same rfl⟩, va_recv hK hPc (ci := 1) (q0 := 0) rfl rfl, fun U hU hW => ⟨rfl, by rw [hU]; exact hPc, hKK.warm hW⟩⟩ rfl rfl hl.1 rfl (lv_room (Nat.le_of_ble_eq_true rfl)) dX1_remove_2 ⟨Nat.zero_le _, Nat.zero_le _⟩) (fun r_2 h => ?_)
  refine lv_istore_n (lv' := [(2, .int r_2), (0, .ref q_this), (1, .int a1)]) hx hb dX1_remove_5 rfl hl (by decide) rfl (fun ls hl => ?_)
  refine lv_iload_n hx hb dX1_remove_6 rfl (lv_at hl 0 rfl) ?_
  refine lv_iconst (v := (-1 : Int32)) hx hb dX1_remove_7 (by decide) ?_
  refine lv_icmp_ne (tgt := 12) hx hb dX1_remove_8 (by decide) (fun c9 => ?_) (fun c9 => ?_)
  · replace h := h.1 c9
    refine lv_aload_n hx hb dX1_remove_12 rfl (lv_at hl 1 rfl) ?_
    refine lv_dup hx hb dX1_remove_13 rfl ?_
    refine va_get (D := (dC, dI)) (ci := 1) (v := .int v_count) (C := RX1) (T := TX1) (N := 2) hx hb hts inX1 hown hK hP 0 rfl rfl 1 (by decide) (hts _ tw89) (fun _ h9 => h9) rfl dX1_remove_14 ?_
    refine lv_iconst (v := (1 : Int32)) hx hb dX1_remove_17 (by decide) ?_
    refine lv_isub hx hb dX1_remove_18 ?_
    refine va_put (D := (dC, dI)) (ci := 1) (v := .int (v_count - (1 : Int32))) (ty := .int) (C := RX1) (T := TX1) (N := 2) hx hb hts inX1 tyX1 tyX1_ok nmX1 hown hK hP hD hS 0 rfl rfl 1 (by decide) (hts _ tw89) (fun _ h9 => h9) rfl (by decide +kernel) rfl rfl (Nat.le_of_ble_eq_true rfl) dX1_remove_19 (fun H locs hP hD hS => ?_)
    have hP : va_P (dC, dI) vwC [(q_this, .inr (1, [.ref q_characters, .int (v_count - (1 : Int32))])), (q_characters, .inl (cI, 60, .inl v_characters))] H := hP
    have hD : va_D A [(q_this, .inr (1, [.ref q_characters, .int (v_count - (1 : Int32))])), (q_characters, .inl (cI, 60, .inl v_characters))] := hD
    refine lv_aload_n hx hb dX1_remove_22 rfl (lv_at hl 1 rfl) ?_
    refine va_get (D := (dC, dI)) (ci := 1) (v := .ref q_characters) (C := RX1) (T := TX1) (N := 2) hx hb hts inX1 hown hK hP 0 rfl rfl 0 (by decide) (hts _ tw88) (fun _ h9 => h9) rfl dX1_remove_23 ?_
    refine lv_iload_n hx hb dX1_remove_26 rfl (lv_at hl 0 rfl) ?_
    refine lv_aload_n hx hb dX1_remove_27 rfl (lv_at hl 1 rfl) ?_
    refine va_get (D := (dC, dI)) (ci := 1) (v := .ref q_characters) (C := RX1) (T := TX1) (N := 2) hx hb hts inX1 hown hK hP 0 rfl rfl 0 (by decide) (hts _ tw88) (fun _ h9 => h9) rfl dX1_remove_28 ?_
    refine lv_aload_n hx hb dX1_remove_31 rfl (lv_at hl 1 rfl) ?_
    refine va_get (D := (dC, dI)) (ci := 1) (v := .int (v_count - (1 : Int32))) (C := RX1) (T := TX1) (N := 2) hx hb hts inX1 hown hK hP 0 rfl rfl 1 (by decide) (hts _ tw89) (fun _ h9 => h9) rfl dX1_remove_32 ?_
    obtain ⟨hin, h⟩ := h
    refine va_iald hx hb hK hP 1 0 rfl rfl hin dX1_remove_35 ?_
    obtain ⟨hin, h⟩ := h
    refine va_iast hx hb hK hP hD hS 1 0 rfl rfl hin dX1_remove_36 (fun H locs hP hD hS => ?_)
    have hP : va_P (dC, dI) vwC [(q_this, .inr (1, [.ref q_characters, .int (v_count - (1 : Int32))])), (q_characters, .inl (cI, 60, .inl (upd v_characters r_2.toNatClampNeg (v_characters (v_count - (1 : Int32)).toNatClampNeg))))] H := hP
    have hD : va_D A [(q_this, .inr (1, [.ref q_characters, .int (v_count - (1 : Int32))])), (q_characters, .inl (cI, 60, .inl (upd v_characters r_2.toNatClampNeg (v_characters (v_count - (1 : Int32)).toNatClampNeg))))] := hD
    rw [hQQ]
    exact W.vret hx hb hr (fun t ht hW => ⟨⟨((v_count - (1 : Int32)), (upd v_characters r_2.toNatClampNeg (v_characters (v_count - (1 : Int32)).toNatClampNeg))), rfl, h, by rw [ht]; exact hP, hD⟩, hS.F ht⟩) hS.2.2 dX1_remove_37
  · replace h := h.2 c9
    rw [hQQ]
    exact W.vret hx hb hr (fun t ht hW => ⟨⟨(v_count, v_characters), rfl, h, by rw [ht]; exact hP, hD⟩, hS.F ht⟩) hS.2.2 dX1_remove_11
set_option maxHeartbeats 4000000 in
set_option maxRecDepth 100000 in
theorem m_X2_isFull (l : Launch) (dC : Nat → ClassId) (dI : Nat → Nat → Nat) (cI cZ cJ : ClassId) (q_this : Nat) (q_firsts : Nat) (q_lasts : Nat) (q_values : Nat) (v_count : Int32) (v_firsts : Nat → Int32) (v_lasts : Nat → Int32) (v_values : Nat → Int32) (post : Int32 → Prop) (h : w_X2_isFull post v_count) : Met l yX2_isFull [.code yX2_isFull cX2_isFull 1 (some .boolean)] ({ frames := 0, cells := 0, slots := 0, locals := 0 } : Room) (va_Pc [.ref q_this] (fun U => va_P (dC, dI) vwC [(q_this, .inr (2, [.ref q_firsts, .ref q_lasts, .ref q_values, .int v_count])), (q_firsts, .inl (cI, 60, .inl v_firsts)), (q_lasts, .inl (cI, 60, .inl v_lasts)), (q_values, .inl (cI, 60, .inl v_values))] U.heap ∧ KK dC dI cI cZ cJ U)) (vp_Si post) 0 0 (fun _ => False) := by
  refine Met.ofW (cc := cX2_isFull) (maxL := 1) (ret := (some .boolean)) (by decide) rfl ?_
  intro p e s m args below meth c s₁ B hml hv
  obtain ⟨rfl, hP, hKK⟩ := hv
  have hK := hKK.1
  have hx := B.exec
  have hb := B.bytes
  have hr := B.returns
  have hts : ∀ w ∈ TG, w.before (List.toArray [.ref q_this]) s = true := hKK.ts
  have hown : s.vm.findClass RX2 = some m.cls := findClass_of_methodNamed B.named
  have hlocks := B.notSynchronized
  have hl := lv_entry ([.ref q_this]) (n := 1) (Nat.le_of_ble_eq_true rfl)
  rw [lg_entry_eq]
  generalize (lg_sl ([.ref q_this]) ++ List.replicate (1 - (lg_sl ([.ref q_this])).length) Slot.unset).toArray = ls at hl ⊢
  have hl : lv_has ls 1 [(0, .ref q_this)] := hl
  obtain ⟨QQ, hQQ⟩ : ∃ z, z = MQ below (vp_Si post) (List.toArray [.ref q_this]) s 0 0 (fun _ => False) := ⟨_, rfl⟩
  rw [← hQQ]
  refine lv_aload_n hx hb dX2_isFull_0 rfl (lv_at hl 0 rfl) ?_
  refine va_get (D := (dC, dI)) (ci := 2) (v := .int v_count) (C := RX2) (T := TX2) (N := 4) hx hb hts inX2 hown hK hP 0 rfl rfl 3 (by decide) (hts _ tw33) (fun _ h9 => h9) rfl dX2_isFull_1 ?_
  refine lv_bipush (v := (60 : Int32)) hx hb dX2_isFull_4 (by decide) ?_
  refine lv_icmp_lt (tgt := 13) hx hb dX2_isFull_6 (by decide) (fun c9 => ?_) (fun c9 => ?_)
  · replace h := h.1 c9
    refine lv_iconst (v := (0 : Int32)) hx hb dX2_isFull_13 (by decide) ?_
    rw [hQQ]
    exact W.zret (ty := .boolean) hx hb hr (by decide) (fun t ht hW => ⟨_, rfl, h, ht⟩) t_nil dX2_isFull_14
  · replace h := h.2 c9
    refine lv_iconst (v := (1 : Int32)) hx hb dX2_isFull_9 (by decide) ?_
    refine lv_goto (tgt := 14) hx hb dX2_isFull_10 (by decide) ?_
    rw [hQQ]
    exact W.zret (ty := .boolean) hx hb hr (by decide) (fun t ht hW => ⟨_, rfl, h, ht⟩) t_nil dX2_isFull_14
set_option maxHeartbeats 4000000 in
set_option maxRecDepth 100000 in
theorem m_X2_tell (l : Launch) (dC : Nat → ClassId) (dI : Nat → Nat → Nat) (cI cZ cJ : ClassId) (q_this : Nat) (q_firsts : Nat) (q_lasts : Nat) (q_values : Nat) (v_count : Int32) (v_firsts : Nat → Int32) (v_lasts : Nat → Int32) (v_values : Nat → Int32) (a1 : Int32) (a2 : Int32) (a3 : Int32) (sz : Nat) (post : Int32 → (Nat → Int32) → (Nat → Int32) → (Nat → Int32) → Prop) (h : w_X2_tell post v_count v_firsts v_lasts v_values a1 a2 a3) : Met l yX2_tell [.code yX2_tell cX2_tell 4 none] ({ frames := 1, cells := 0, slots := 0, locals := 20 } : Room) (va_Pc [.ref q_this, .int a1, .int a2, .int a3] (fun U => U.heap.size = sz ∧ va_P (dC, dI) vwC [(q_this, .inr (2, [.ref q_firsts, .ref q_lasts, .ref q_values, .int v_count])), (q_firsts, .inl (cI, 60, .inl v_firsts)), (q_lasts, .inl (cI, 60, .inl v_lasts)), (q_values, .inl (cI, 60, .inl v_values))] U.heap ∧ KK dC dI cI cZ cJ U ∧ va_D (fun _ => True) [(q_this, .inr (2, [.ref q_firsts, .ref q_lasts, .ref q_values, .int v_count])), (q_firsts, .inl (cI, 60, .inl v_firsts)), (q_lasts, .inl (cI, 60, .inl v_lasts)), (q_values, .inl (cI, 60, .inl v_values))])) (va_Qv (fun (u : Int32 × (Nat → Int32) × (Nat → Int32) × (Nat → Int32)) => post u.1 u.2.1 u.2.2.1 u.2.2.2) (fun (u : Int32 × (Nat → Int32) × (Nat → Int32) × (Nat → Int32)) (t : State) => va_P (dC, dI) vwC [(q_this, .inr (2, [.ref q_firsts, .ref q_lasts, .ref q_values, .int u.1])), (q_firsts, .inl (cI, 60, .inl u.2.1)), (q_lasts, .inl (cI, 60, .inl u.2.2.1)), (q_values, .inl (cI, 60, .inl u.2.2.2))] t.heap ∧ va_D (va_A [(q_this, .inr (2, [.ref q_firsts, .ref q_lasts, .ref q_values, .int v_count])), (q_firsts, .inl (cI, 60, .inl v_firsts)), (q_lasts, .inl (cI, 60, .inl v_lasts)), (q_values, .inl (cI, 60, .inl v_values))] sz) [(q_this, .inr (2, [.ref q_firsts, .ref q_lasts, .ref q_values, .int u.1])), (q_firsts, .inl (cI, 60, .inl u.2.1)), (q_lasts, .inl (cI, 60, .inl u.2.2.1)), (q_values, .inl (cI, 60, .inl u.2.2.2))]) (va_A [(q_this, .inr (2, [.ref q_firsts, .ref q_lasts, .ref q_values, .int v_count])), (q_firsts, .inl (cI, 60, .inl v_firsts)), (q_lasts, .inl (cI, 60, .inl v_lasts)), (q_values, .inl (cI, 60, .inl v_values))] sz)) 0 0 (va_A [(q_this, .inr (2, [.ref q_firsts, .ref q_lasts, .ref q_values, .int v_count])), (q_firsts, .inl (cI, 60, .inl v_firsts)), (q_lasts, .inl (cI, 60, .inl v_lasts)), (q_values, .inl (cI, 60, .inl v_values))] sz) := by
  refine Met.ofW (cc := cX2_tell) (maxL := 4) (ret := none) (by decide) rfl ?_
  intro p e s m args below meth c s₁ B hml hv
  obtain ⟨rfl, hsz, hP, hKK, hD0⟩ := hv
  have hK := hKK.1
  have hx := B.exec
  have hb := B.bytes
  have hr := B.returns
  have hts : ∀ w ∈ TG, w.before (List.toArray [.ref q_this, .int a1, .int a2, .int a3]) s = true := hKK.ts
  have hown : s.vm.findClass RX2 = some m.cls := findClass_of_methodNamed B.named
  have hlocks := B.notSynchronized
  subst hsz
  have hD := hD0.self (sz := s.heap.size)
  generalize hAe : va_A [(q_this, .inr (2, [.ref q_firsts, .ref q_lasts, .ref q_values, .int v_count])), (q_firsts, .inl (cI, 60, .inl v_firsts)), (q_lasts, .inl (cI, 60, .inl v_lasts)), (q_values, .inl (cI, 60, .inl v_values))] s.heap.size = A at hD ⊢
  have hA : ∀ q : Nat, s.heap.size ≤ q → A q := fun q h => by rw [← hAe]; exact Or.inr h
  have hS : va_S A s.heap s.heap [] := va_S.rf
  have hl := lv_entry ([.ref q_this, .int a1, .int a2, .int a3]) (n := 4) (Nat.le_of_ble_eq_true rfl)
  rw [lg_entry_eq]
  generalize (lg_sl ([.ref q_this, .int a1, .int a2, .int a3]) ++ List.replicate (4 - (lg_sl ([.ref q_this, .int a1, .int a2, .int a3])).length) Slot.unset).toArray = ls at hl ⊢
  have hl : lv_has ls 4 [(0, .ref q_this), (1, .int a1), (2, .int a2), (3, .int a3)] := hl
  obtain ⟨QQ, hQQ⟩ : ∃ z, z = MQ below (va_Qv (fun (u : Int32 × (Nat → Int32) × (Nat → Int32) × (Nat → Int32)) => post u.1 u.2.1 u.2.2.1 u.2.2.2) (fun (u : Int32 × (Nat → Int32) × (Nat → Int32) × (Nat → Int32)) (t : State) => va_P (dC, dI) vwC [(q_this, .inr (2, [.ref q_firsts, .ref q_lasts, .ref q_values, .int u.1])), (q_firsts, .inl (cI, 60, .inl u.2.1)), (q_lasts, .inl (cI, 60, .inl u.2.2.1)), (q_values, .inl (cI, 60, .inl u.2.2.2))] t.heap ∧ va_D A [(q_this, .inr (2, [.ref q_firsts, .ref q_lasts, .ref q_values, .int u.1])), (q_firsts, .inl (cI, 60, .inl u.2.1)), (q_lasts, .inl (cI, 60, .inl u.2.2.1)), (q_values, .inl (cI, 60, .inl u.2.2.2))]) A) (List.toArray [.ref q_this, .int a1, .int a2, .int a3]) s 0 0 A := ⟨_, rfl⟩
  rw [← hQQ]
  refine lv_aload_n hx hb dX2_tell_0 rfl (lv_at hl 0 rfl) ?_
  have hPc := hP.sub (ws' := [(q_this, .inr (2, [.ref q_firsts, .ref q_lasts, .ref q_values, .int v_count])), (q_firsts, .inl (cI, 60, .inl v_firsts)), (q_lasts, .inl (cI, 60, .inl v_lasts)), (q_values, .inl (cI, 60, .inl v_values))]) [0, 1, 2, 3] rfl
  refine na_calls (va_runV (As := []) (rest := []) ⟨hx, hb, hml, hown, hts⟩ (m_X2_isFull l dC dI cI cZ cJ q_this q_firsts q_lasts q_values v_count v_firsts v_lasts v_values _ h) (cwV 0 hts (na_gV tw311 tw289 tp5 tw2 tw290 rfl) rfl rfl rfl (by decide +kernel) ⟨Nat.le_of_ble_eq_true rfl, Nat.le_of_ble_eq_true rfl⟩) ⟨fun a U g mk q => by obtain ⟨q0, qP, qK⟩ := q; exact ⟨q0, qP, qK.same rfl⟩, va_recv hK hPc (ci := 2) (q0 := 0) rfl rfl, fun U hU hW => ⟨rfl, by rw [hU]; exact hPc, hKK.warm hW⟩⟩ rfl rfl hl.1 rfl (lv_room (Nat.le_of_ble_eq_true rfl)) dX2_tell_1 ⟨Nat.zero_le _, Nat.zero_le _⟩) (fun r_1 h => ?_)
  refine lv_if_eq (tgt := 8) hx hb dX2_tell_4 (by decide) (fun c9 => ?_) (fun c9 => ?_)
  · replace h := h.1 c9
    refine lv_aload_n hx hb dX2_tell_8 rfl (lv_at hl 0 rfl) ?_
    refine va_get (D := (dC, dI)) (ci := 2) (v := .ref q_firsts) (C := RX2) (T := TX2) (N := 4) hx hb hts inX2 hown hK hP 0 rfl rfl 0 (by decide) (hts _ tw30) (fun _ h9 => h9) rfl dX2_tell_9 ?_
    refine lv_aload_n hx hb dX2_tell_12 rfl (lv_at hl 0 rfl) ?_
    refine va_get (D := (dC, dI)) (ci := 2) (v := .int v_count) (C := RX2) (T := TX2) (N := 4) hx hb hts inX2 hown hK hP 0 rfl rfl 3 (by decide) (hts _ tw33) (fun _ h9 => h9) rfl dX2_tell_13 ?_
    refine lv_iload_n hx hb dX2_tell_16 rfl (lv_at hl 1 rfl) ?_
    obtain ⟨hin, h⟩ := h
    refine va_iast hx hb hK hP hD hS 1 0 rfl rfl hin dX2_tell_17 (fun H locs hP hD hS => ?_)
    have hP : va_P (dC, dI) vwC [(q_this, .inr (2, [.ref q_firsts, .ref q_lasts, .ref q_values, .int v_count])), (q_firsts, .inl (cI, 60, .inl (upd v_firsts v_count.toNatClampNeg a1))), (q_lasts, .inl (cI, 60, .inl v_lasts)), (q_values, .inl (cI, 60, .inl v_values))] H := hP
    have hD : va_D A [(q_this, .inr (2, [.ref q_firsts, .ref q_lasts, .ref q_values, .int v_count])), (q_firsts, .inl (cI, 60, .inl (upd v_firsts v_count.toNatClampNeg a1))), (q_lasts, .inl (cI, 60, .inl v_lasts)), (q_values, .inl (cI, 60, .inl v_values))] := hD
    refine lv_aload_n hx hb dX2_tell_18 rfl (lv_at hl 0 rfl) ?_
    refine va_get (D := (dC, dI)) (ci := 2) (v := .ref q_lasts) (C := RX2) (T := TX2) (N := 4) hx hb hts inX2 hown hK hP 0 rfl rfl 1 (by decide) (hts _ tw31) (fun _ h9 => h9) rfl dX2_tell_19 ?_
    refine lv_aload_n hx hb dX2_tell_22 rfl (lv_at hl 0 rfl) ?_
    refine va_get (D := (dC, dI)) (ci := 2) (v := .int v_count) (C := RX2) (T := TX2) (N := 4) hx hb hts inX2 hown hK hP 0 rfl rfl 3 (by decide) (hts _ tw33) (fun _ h9 => h9) rfl dX2_tell_23 ?_
    refine lv_iload_n hx hb dX2_tell_26 rfl (lv_at hl 2 rfl) ?_
    obtain ⟨hin, h⟩ := h
    refine va_iast hx hb hK hP hD hS 2 0 rfl rfl hin dX2_tell_27 (fun H locs hP hD hS => ?_)
    have hP : va_P (dC, dI) vwC [(q_this, .inr (2, [.ref q_firsts, .ref q_lasts, .ref q_values, .int v_count])), (q_firsts, .inl (cI, 60, .inl (upd v_firsts v_count.toNatClampNeg a1))), (q_lasts, .inl (cI, 60, .inl (upd v_lasts v_count.toNatClampNeg a2))), (q_values, .inl (cI, 60, .inl v_values))] H := hP
    have hD : va_D A [(q_this, .inr (2, [.ref q_firsts, .ref q_lasts, .ref q_values, .int v_count])), (q_firsts, .inl (cI, 60, .inl (upd v_firsts v_count.toNatClampNeg a1))), (q_lasts, .inl (cI, 60, .inl (upd v_lasts v_count.toNatClampNeg a2))), (q_values, .inl (cI, 60, .inl v_values))] := hD
    refine lv_aload_n hx hb dX2_tell_28 rfl (lv_at hl 0 rfl) ?_
    refine va_get (D := (dC, dI)) (ci := 2) (v := .ref q_values) (C := RX2) (T := TX2) (N := 4) hx hb hts inX2 hown hK hP 0 rfl rfl 2 (by decide) (hts _ tw32) (fun _ h9 => h9) rfl dX2_tell_29 ?_
    refine lv_aload_n hx hb dX2_tell_32 rfl (lv_at hl 0 rfl) ?_
    refine va_get (D := (dC, dI)) (ci := 2) (v := .int v_count) (C := RX2) (T := TX2) (N := 4) hx hb hts inX2 hown hK hP 0 rfl rfl 3 (by decide) (hts _ tw33) (fun _ h9 => h9) rfl dX2_tell_33 ?_
    refine lv_iload_n hx hb dX2_tell_36 rfl (lv_at hl 3 rfl) ?_
    obtain ⟨hin, h⟩ := h
    refine va_iast hx hb hK hP hD hS 3 0 rfl rfl hin dX2_tell_37 (fun H locs hP hD hS => ?_)
    have hP : va_P (dC, dI) vwC [(q_this, .inr (2, [.ref q_firsts, .ref q_lasts, .ref q_values, .int v_count])), (q_firsts, .inl (cI, 60, .inl (upd v_firsts v_count.toNatClampNeg a1))), (q_lasts, .inl (cI, 60, .inl (upd v_lasts v_count.toNatClampNeg a2))), (q_values, .inl (cI, 60, .inl (upd v_values v_count.toNatClampNeg a3)))] H := hP
    have hD : va_D A [(q_this, .inr (2, [.ref q_firsts, .ref q_lasts, .ref q_values, .int v_count])), (q_firsts, .inl (cI, 60, .inl (upd v_firsts v_count.toNatClampNeg a1))), (q_lasts, .inl (cI, 60, .inl (upd v_lasts v_count.toNatClampNeg a2))), (q_values, .inl (cI, 60, .inl (upd v_values v_count.toNatClampNeg a3)))] := hD
    refine lv_aload_n hx hb dX2_tell_38 rfl (lv_at hl 0 rfl) ?_
    refine lv_dup hx hb dX2_tell_39 rfl ?_
    refine va_get (D := (dC, dI)) (ci := 2) (v := .int v_count) (C := RX2) (T := TX2) (N := 4) hx hb hts inX2 hown hK hP 0 rfl rfl 3 (by decide) (hts _ tw33) (fun _ h9 => h9) rfl dX2_tell_40 ?_
    refine lv_iconst (v := (1 : Int32)) hx hb dX2_tell_43 (by decide) ?_
    refine lv_iadd hx hb dX2_tell_44 ?_
    refine va_put (D := (dC, dI)) (ci := 2) (v := .int (v_count + (1 : Int32))) (ty := .int) (C := RX2) (T := TX2) (N := 4) hx hb hts inX2 tyX2 tyX2_ok nmX2 hown hK hP hD hS 0 rfl rfl 3 (by decide) (hts _ tw33) (fun _ h9 => h9) rfl (by decide +kernel) rfl rfl (Nat.le_of_ble_eq_true rfl) dX2_tell_45 (fun H locs hP hD hS => ?_)
    have hP : va_P (dC, dI) vwC [(q_this, .inr (2, [.ref q_firsts, .ref q_lasts, .ref q_values, .int (v_count + (1 : Int32))])), (q_firsts, .inl (cI, 60, .inl (upd v_firsts v_count.toNatClampNeg a1))), (q_lasts, .inl (cI, 60, .inl (upd v_lasts v_count.toNatClampNeg a2))), (q_values, .inl (cI, 60, .inl (upd v_values v_count.toNatClampNeg a3)))] H := hP
    have hD : va_D A [(q_this, .inr (2, [.ref q_firsts, .ref q_lasts, .ref q_values, .int (v_count + (1 : Int32))])), (q_firsts, .inl (cI, 60, .inl (upd v_firsts v_count.toNatClampNeg a1))), (q_lasts, .inl (cI, 60, .inl (upd v_lasts v_count.toNatClampNeg a2))), (q_values, .inl (cI, 60, .inl (upd v_values v_count.toNatClampNeg a3)))] := hD
    rw [hQQ]
    exact W.vret hx hb hr (fun t ht hW => ⟨⟨((v_count + (1 : Int32)), (upd v_firsts v_count.toNatClampNeg a1), (upd v_lasts v_count.toNatClampNeg a2), (upd v_values v_count.toNatClampNeg a3)), rfl, h, by rw [ht]; exact hP, hD⟩, hS.F ht⟩) hS.2.2 dX2_tell_48
  · replace h := h.2 c9
    rw [hQQ]
    exact W.vret hx hb hr (fun t ht hW => ⟨⟨(v_count, v_firsts, v_lasts, v_values), rfl, h, by rw [ht]; exact hP, hD⟩, hS.F ht⟩) hS.2.2 dX2_tell_7
set_option maxHeartbeats 4000000 in
set_option maxRecDepth 100000 in
theorem m_X3_start (l : Launch) (dC : Nat → ClassId) (dI : Nat → Nat → Nat) (cI cZ cJ : ClassId) (q_this : Nat) (v_before : Int32) (v_flags : Int32) (v_behindPicture : Int32) (v_behindJoinedPicture : Int32) (sz : Nat) (post : Int32 → Int32 → Int32 → Int32 → Prop) (h : w_X3_start post) : Met l yX3_start [.code yX3_start cX3_start 1 none] ({ frames := 0, cells := 0, slots := 0, locals := 0 } : Room) (va_Pc [.ref q_this] (fun U => U.heap.size = sz ∧ va_P (dC, dI) vwC [(q_this, .inr (3, [.int v_before, .int v_flags, .int v_behindPicture, .int v_behindJoinedPicture]))] U.heap ∧ KK dC dI cI cZ cJ U ∧ va_D (fun _ => True) [(q_this, .inr (3, [.int v_before, .int v_flags, .int v_behindPicture, .int v_behindJoinedPicture]))])) (va_Qv (fun (u : Int32 × Int32 × Int32 × Int32) => post u.1 u.2.1 u.2.2.1 u.2.2.2) (fun (u : Int32 × Int32 × Int32 × Int32) (t : State) => va_P (dC, dI) vwC [(q_this, .inr (3, [.int u.1, .int u.2.1, .int u.2.2.1, .int u.2.2.2]))] t.heap ∧ va_D (va_A [(q_this, .inr (3, [.int v_before, .int v_flags, .int v_behindPicture, .int v_behindJoinedPicture]))] sz) [(q_this, .inr (3, [.int u.1, .int u.2.1, .int u.2.2.1, .int u.2.2.2]))]) (va_A [(q_this, .inr (3, [.int v_before, .int v_flags, .int v_behindPicture, .int v_behindJoinedPicture]))] sz)) 0 0 (va_A [(q_this, .inr (3, [.int v_before, .int v_flags, .int v_behindPicture, .int v_behindJoinedPicture]))] sz) := by
  refine Met.ofW (cc := cX3_start) (maxL := 1) (ret := none) (by decide) rfl ?_
  intro p e s m args below meth c s₁ B hml hv
  obtain ⟨rfl, hsz, hP, hKK, hD0⟩ := hv
  have hK := hKK.1
  have hx := B.exec
  have hb := B.bytes
  have hr := B.returns
  have hts : ∀ w ∈ TG, w.before (List.toArray [.ref q_this]) s = true := hKK.ts
  have hown : s.vm.findClass RX3 = some m.cls := findClass_of_methodNamed B.named
  have hlocks := B.notSynchronized
  subst hsz
  have hD := hD0.self (sz := s.heap.size)
  generalize hAe : va_A [(q_this, .inr (3, [.int v_before, .int v_flags, .int v_behindPicture, .int v_behindJoinedPicture]))] s.heap.size = A at hD ⊢
  have hA : ∀ q : Nat, s.heap.size ≤ q → A q := fun q h => by rw [← hAe]; exact Or.inr h
  have hS : va_S A s.heap s.heap [] := va_S.rf
  have hl := lv_entry ([.ref q_this]) (n := 1) (Nat.le_of_ble_eq_true rfl)
  rw [lg_entry_eq]
  generalize (lg_sl ([.ref q_this]) ++ List.replicate (1 - (lg_sl ([.ref q_this])).length) Slot.unset).toArray = ls at hl ⊢
  have hl : lv_has ls 1 [(0, .ref q_this)] := hl
  obtain ⟨QQ, hQQ⟩ : ∃ z, z = MQ below (va_Qv (fun (u : Int32 × Int32 × Int32 × Int32) => post u.1 u.2.1 u.2.2.1 u.2.2.2) (fun (u : Int32 × Int32 × Int32 × Int32) (t : State) => va_P (dC, dI) vwC [(q_this, .inr (3, [.int u.1, .int u.2.1, .int u.2.2.1, .int u.2.2.2]))] t.heap ∧ va_D A [(q_this, .inr (3, [.int u.1, .int u.2.1, .int u.2.2.1, .int u.2.2.2]))]) A) (List.toArray [.ref q_this]) s 0 0 A := ⟨_, rfl⟩
  rw [← hQQ]
  refine lv_aload_n hx hb dX3_start_0 rfl (lv_at hl 0 rfl) ?_
  refine lv_iconst (v := (0 : Int32)) hx hb dX3_start_1 (by decide) ?_
  refine va_put (D := (dC, dI)) (ci := 3) (v := .int (0 : Int32)) (ty := .int) (C := RX3) (T := TX3) (N := 4) hx hb hts inX3 tyX3 tyX3_ok nmX3 hown hK hP hD hS 0 rfl rfl 0 (by decide) (hts _ tw122) (fun _ h9 => h9) rfl (by decide +kernel) rfl rfl (Nat.le_of_ble_eq_true rfl) dX3_start_2 (fun H locs hP hD hS => ?_)
  have hP : va_P (dC, dI) vwC [(q_this, .inr (3, [.int (0 : Int32), .int v_flags, .int v_behindPicture, .int v_behindJoinedPicture]))] H := hP
  have hD : va_D A [(q_this, .inr (3, [.int (0 : Int32), .int v_flags, .int v_behindPicture, .int v_behindJoinedPicture]))] := hD
  refine lv_aload_n hx hb dX3_start_5 rfl (lv_at hl 0 rfl) ?_
  refine lv_iconst (v := (0 : Int32)) hx hb dX3_start_6 (by decide) ?_
  refine va_put (D := (dC, dI)) (ci := 3) (v := .int (0 : Int32)) (ty := .int) (C := RX3) (T := TX3) (N := 4) hx hb hts inX3 tyX3 tyX3_ok nmX3 hown hK hP hD hS 0 rfl rfl 1 (by decide) (hts _ tw123) (fun _ h9 => h9) rfl (by decide +kernel) rfl rfl (Nat.le_of_ble_eq_true rfl) dX3_start_7 (fun H locs hP hD hS => ?_)
  have hP : va_P (dC, dI) vwC [(q_this, .inr (3, [.int (0 : Int32), .int (0 : Int32), .int v_behindPicture, .int v_behindJoinedPicture]))] H := hP
  have hD : va_D A [(q_this, .inr (3, [.int (0 : Int32), .int (0 : Int32), .int v_behindPicture, .int v_behindJoinedPicture]))] := hD
  refine lv_aload_n hx hb dX3_start_10 rfl (lv_at hl 0 rfl) ?_
  refine lv_iconst (v := (0 : Int32)) hx hb dX3_start_11 (by decide) ?_
  refine va_put (D := (dC, dI)) (ci := 3) (v := .int (0 : Int32)) (ty := .boolean) (C := RX3) (T := TX3) (N := 4) hx hb hts inX3 tyX3 tyX3_ok nmX3 hown hK hP hD hS 0 rfl rfl 2 (by decide) (hts _ tw124) (fun _ h9 => h9) rfl (by decide +kernel) (by decide) (by decide) (Nat.le_of_ble_eq_true rfl) dX3_start_12 (fun H locs hP hD hS => ?_)
  have hP : va_P (dC, dI) vwC [(q_this, .inr (3, [.int (0 : Int32), .int (0 : Int32), .int (0 : Int32), .int v_behindJoinedPicture]))] H := hP
  have hD : va_D A [(q_this, .inr (3, [.int (0 : Int32), .int (0 : Int32), .int (0 : Int32), .int v_behindJoinedPicture]))] := hD
  refine lv_aload_n hx hb dX3_start_15 rfl (lv_at hl 0 rfl) ?_
  refine lv_iconst (v := (0 : Int32)) hx hb dX3_start_16 (by decide) ?_
  refine va_put (D := (dC, dI)) (ci := 3) (v := .int (0 : Int32)) (ty := .boolean) (C := RX3) (T := TX3) (N := 4) hx hb hts inX3 tyX3 tyX3_ok nmX3 hown hK hP hD hS 0 rfl rfl 3 (by decide) (hts _ tw125) (fun _ h9 => h9) rfl (by decide +kernel) (by decide) (by decide) (Nat.le_of_ble_eq_true rfl) dX3_start_17 (fun H locs hP hD hS => ?_)
  have hP : va_P (dC, dI) vwC [(q_this, .inr (3, [.int (0 : Int32), .int (0 : Int32), .int (0 : Int32), .int (0 : Int32)]))] H := hP
  have hD : va_D A [(q_this, .inr (3, [.int (0 : Int32), .int (0 : Int32), .int (0 : Int32), .int (0 : Int32)]))] := hD
  rw [hQQ]
  exact W.vret hx hb hr (fun t ht hW => ⟨⟨((0 : Int32), (0 : Int32), (0 : Int32), (0 : Int32)), rfl, h, by rw [ht]; exact hP, hD⟩, hS.F ht⟩) hS.2.2 dX3_start_20
set_option maxHeartbeats 4000000 in
set_option maxRecDepth 100000 in
theorem m_X3_pass (l : Launch) (dC : Nat → ClassId) (dI : Nat → Nat → Nat) (cI cZ cJ : ClassId) (q_this : Nat) (v_before : Int32) (v_flags : Int32) (v_behindPicture : Int32) (v_behindJoinedPicture : Int32) (a1 : Int32) (sz : Nat) (post : Int32 → Int32 → Int32 → Int32 → Prop) (h : w_X3_pass post v_flags v_behindPicture a1) : Met l yX3_pass [.code yX3_pass cX3_pass 2 none] ({ frames := 0, cells := 0, slots := 0, locals := 0 } : Room) (va_Pc [.ref q_this, .int a1] (fun U => U.heap.size = sz ∧ va_P (dC, dI) vwC [(q_this, .inr (3, [.int v_before, .int v_flags, .int v_behindPicture, .int v_behindJoinedPicture]))] U.heap ∧ KK dC dI cI cZ cJ U ∧ va_D (fun _ => True) [(q_this, .inr (3, [.int v_before, .int v_flags, .int v_behindPicture, .int v_behindJoinedPicture]))])) (va_Qv (fun (u : Int32 × Int32 × Int32 × Int32) => post u.1 u.2.1 u.2.2.1 u.2.2.2) (fun (u : Int32 × Int32 × Int32 × Int32) (t : State) => va_P (dC, dI) vwC [(q_this, .inr (3, [.int u.1, .int u.2.1, .int u.2.2.1, .int u.2.2.2]))] t.heap ∧ va_D (va_A [(q_this, .inr (3, [.int v_before, .int v_flags, .int v_behindPicture, .int v_behindJoinedPicture]))] sz) [(q_this, .inr (3, [.int u.1, .int u.2.1, .int u.2.2.1, .int u.2.2.2]))]) (va_A [(q_this, .inr (3, [.int v_before, .int v_flags, .int v_behindPicture, .int v_behindJoinedPicture]))] sz)) 0 0 (va_A [(q_this, .inr (3, [.int v_before, .int v_flags, .int v_behindPicture, .int v_behindJoinedPicture]))] sz) := by
  refine Met.ofW (cc := cX3_pass) (maxL := 2) (ret := none) (by decide) rfl ?_
  intro p e s m args below meth c s₁ B hml hv
  obtain ⟨rfl, hsz, hP, hKK, hD0⟩ := hv
  have hK := hKK.1
  have hx := B.exec
  have hb := B.bytes
  have hr := B.returns
  have hts : ∀ w ∈ TG, w.before (List.toArray [.ref q_this, .int a1]) s = true := hKK.ts
  have hown : s.vm.findClass RX3 = some m.cls := findClass_of_methodNamed B.named
  have hlocks := B.notSynchronized
  subst hsz
  have hD := hD0.self (sz := s.heap.size)
  generalize hAe : va_A [(q_this, .inr (3, [.int v_before, .int v_flags, .int v_behindPicture, .int v_behindJoinedPicture]))] s.heap.size = A at hD ⊢
  have hA : ∀ q : Nat, s.heap.size ≤ q → A q := fun q h => by rw [← hAe]; exact Or.inr h
  have hS : va_S A s.heap s.heap [] := va_S.rf
  have hl := lv_entry ([.ref q_this, .int a1]) (n := 2) (Nat.le_of_ble_eq_true rfl)
  rw [lg_entry_eq]
  generalize (lg_sl ([.ref q_this, .int a1]) ++ List.replicate (2 - (lg_sl ([.ref q_this, .int a1])).length) Slot.unset).toArray = ls at hl ⊢
  have hl : lv_has ls 2 [(0, .ref q_this), (1, .int a1)] := hl
  obtain ⟨QQ, hQQ⟩ : ∃ z, z = MQ below (va_Qv (fun (u : Int32 × Int32 × Int32 × Int32) => post u.1 u.2.1 u.2.2.1 u.2.2.2) (fun (u : Int32 × Int32 × Int32 × Int32) (t : State) => va_P (dC, dI) vwC [(q_this, .inr (3, [.int u.1, .int u.2.1, .int u.2.2.1, .int u.2.2.2]))] t.heap ∧ va_D A [(q_this, .inr (3, [.int u.1, .int u.2.1, .int u.2.2.1, .int u.2.2.2]))]) A) (List.toArray [.ref q_this, .int a1]) s 0 0 A := ⟨_, rfl⟩
  rw [← hQQ]
  have P45 : ∀ (v_before : Int32) (v_flags : Int32) (v_behindPicture : Int32) (v_behindJoinedPicture : Int32) (s0 : Int32) , w_X3_pass_45 post v_flags v_behindJoinedPicture a1 s0 → ∀ (H : Heap) (locs : List Loc), va_P (dC, dI) vwC [(q_this, .inr (3, [.int v_before, .int v_flags, .int v_behindPicture, .int v_behindJoinedPicture]))] H → va_D A [(q_this, .inr (3, [.int v_before, .int v_flags, .int v_behindPicture, .int v_behindJoinedPicture]))] → va_S A s.heap H locs → ∀ (ls : Array Slot), lv_has ls 2 [(0, .ref q_this), (1, .int a1)] → W p l e (headSpec [.code yX3_pass cX3_pass 2 none] ({ frames := 0, cells := 0, slots := 0, locals := 0 } : Room)).room s m (List.toArray [.ref q_this, .int a1]) below meth c H locs 0 0 QQ (F0 m 45 ls [.int s0, .ref q_this]) := by
    intro v_before v_flags v_behindPicture v_behindJoinedPicture s0 h H locs hP hD hS ls hl
    obtain ⟨hz, h⟩ := h
    refine va_put (D := (dC, dI)) (ci := 3) (v := .int s0) (ty := .boolean) (C := RX3) (T := TX3) (N := 4) hx hb hts inX3 tyX3 tyX3_ok nmX3 hown hK hP hD hS 0 rfl rfl 2 (by decide) (hts _ tw124) (fun _ h9 => h9) rfl (by decide +kernel) hz.1 hz.2 (Nat.le_of_ble_eq_true rfl) dX3_pass_45 (fun H locs hP hD hS => ?_)
    have hP : va_P (dC, dI) vwC [(q_this, .inr (3, [.int v_before, .int v_flags, .int s0, .int v_behindJoinedPicture]))] H := hP
    have hD : va_D A [(q_this, .inr (3, [.int v_before, .int v_flags, .int s0, .int v_behindJoinedPicture]))] := hD
    refine lv_aload_n hx hb dX3_pass_48 rfl (lv_at hl 0 rfl) ?_
    refine lv_iload_n hx hb dX3_pass_49 rfl (lv_at hl 1 rfl) ?_
    refine lv_bipush (v := (6 : Int32)) hx hb dX3_pass_50 (by decide) ?_
    refine lv_icmp_ne (tgt := 64) hx hb dX3_pass_52 (by decide) (fun c9 => ?_) (fun c9 => ?_)
    · replace h := h.1 c9
      refine lv_iconst (v := (0 : Int32)) hx hb dX3_pass_64 (by decide) ?_
      refine va_put (D := (dC, dI)) (ci := 3) (v := .int (0 : Int32)) (ty := .int) (C := RX3) (T := TX3) (N := 4) hx hb hts inX3 tyX3 tyX3_ok nmX3 hown hK hP hD hS 0 rfl rfl 1 (by decide) (hts _ tw123) (fun _ h9 => h9) rfl (by decide +kernel) rfl rfl (Nat.le_of_ble_eq_true rfl) dX3_pass_65 (fun H locs hP hD hS => ?_)
      have hP : va_P (dC, dI) vwC [(q_this, .inr (3, [.int v_before, .int (0 : Int32), .int s0, .int v_behindJoinedPicture]))] H := hP
      have hD : va_D A [(q_this, .inr (3, [.int v_before, .int (0 : Int32), .int s0, .int v_behindJoinedPicture]))] := hD
      refine lv_aload_n hx hb dX3_pass_68 rfl (lv_at hl 0 rfl) ?_
      refine lv_iload_n hx hb dX3_pass_69 rfl (lv_at hl 1 rfl) ?_
      refine va_put (D := (dC, dI)) (ci := 3) (v := .int a1) (ty := .int) (C := RX3) (T := TX3) (N := 4) hx hb hts inX3 tyX3 tyX3_ok nmX3 hown hK hP hD hS 0 rfl rfl 0 (by decide) (hts _ tw122) (fun _ h9 => h9) rfl (by decide +kernel) rfl rfl (Nat.le_of_ble_eq_true rfl) dX3_pass_70 (fun H locs hP hD hS => ?_)
      have hP : va_P (dC, dI) vwC [(q_this, .inr (3, [.int a1, .int (0 : Int32), .int s0, .int v_behindJoinedPicture]))] H := hP
      have hD : va_D A [(q_this, .inr (3, [.int a1, .int (0 : Int32), .int s0, .int v_behindJoinedPicture]))] := hD
      rw [hQQ]
      exact W.vret hx hb hr (fun t ht hW => ⟨⟨(a1, (0 : Int32), s0, v_behindJoinedPicture), rfl, h, by rw [ht]; exact hP, hD⟩, hS.F ht⟩) hS.2.2 dX3_pass_73
    · replace h := h.2 c9
      refine lv_aload_n hx hb dX3_pass_55 rfl (lv_at hl 0 rfl) ?_
      refine va_get (D := (dC, dI)) (ci := 3) (v := .int v_flags) (C := RX3) (T := TX3) (N := 4) hx hb hts inX3 hown hK hP 0 rfl rfl 1 (by decide) (hts _ tw123) (fun _ h9 => h9) rfl dX3_pass_56 ?_
      refine lv_iconst (v := (1 : Int32)) hx hb dX3_pass_59 (by decide) ?_
      refine lv_iadd hx hb dX3_pass_60 ?_
      refine lv_goto (tgt := 65) hx hb dX3_pass_61 (by decide) ?_
      refine va_put (D := (dC, dI)) (ci := 3) (v := .int (v_flags + (1 : Int32))) (ty := .int) (C := RX3) (T := TX3) (N := 4) hx hb hts inX3 tyX3 tyX3_ok nmX3 hown hK hP hD hS 0 rfl rfl 1 (by decide) (hts _ tw123) (fun _ h9 => h9) rfl (by decide +kernel) rfl rfl (Nat.le_of_ble_eq_true rfl) dX3_pass_65 (fun H locs hP hD hS => ?_)
      have hP : va_P (dC, dI) vwC [(q_this, .inr (3, [.int v_before, .int (v_flags + (1 : Int32)), .int s0, .int v_behindJoinedPicture]))] H := hP
      have hD : va_D A [(q_this, .inr (3, [.int v_before, .int (v_flags + (1 : Int32)), .int s0, .int v_behindJoinedPicture]))] := hD
      refine lv_aload_n hx hb dX3_pass_68 rfl (lv_at hl 0 rfl) ?_
      refine lv_iload_n hx hb dX3_pass_69 rfl (lv_at hl 1 rfl) ?_
      refine va_put (D := (dC, dI)) (ci := 3) (v := .int a1) (ty := .int) (C := RX3) (T := TX3) (N := 4) hx hb hts inX3 tyX3 tyX3_ok nmX3 hown hK hP hD hS 0 rfl rfl 0 (by decide) (hts _ tw122) (fun _ h9 => h9) rfl (by decide +kernel) rfl rfl (Nat.le_of_ble_eq_true rfl) dX3_pass_70 (fun H locs hP hD hS => ?_)
      have hP : va_P (dC, dI) vwC [(q_this, .inr (3, [.int a1, .int (v_flags + (1 : Int32)), .int s0, .int v_behindJoinedPicture]))] H := hP
      have hD : va_D A [(q_this, .inr (3, [.int a1, .int (v_flags + (1 : Int32)), .int s0, .int v_behindJoinedPicture]))] := hD
      rw [hQQ]
      exact W.vret hx hb hr (fun t ht hW => ⟨⟨(a1, (v_flags + (1 : Int32)), s0, v_behindJoinedPicture), rfl, h, by rw [ht]; exact hP, hD⟩, hS.F ht⟩) hS.2.2 dX3_pass_73
  have P40 : ∀ (v_before : Int32) (v_flags : Int32) (v_behindPicture : Int32) (v_behindJoinedPicture : Int32) , w_X3_pass_40 post v_flags v_behindJoinedPicture a1 → ∀ (H : Heap) (locs : List Loc), va_P (dC, dI) vwC [(q_this, .inr (3, [.int v_before, .int v_flags, .int v_behindPicture, .int v_behindJoinedPicture]))] H → va_D A [(q_this, .inr (3, [.int v_before, .int v_flags, .int v_behindPicture, .int v_behindJoinedPicture]))] → va_S A s.heap H locs → ∀ (ls : Array Slot), lv_has ls 2 [(0, .ref q_this), (1, .int a1)] → W p l e (headSpec [.code yX3_pass cX3_pass 2 none] ({ frames := 0, cells := 0, slots := 0, locals := 0 } : Room)).room s m (List.toArray [.ref q_this, .int a1]) below meth c H locs 0 0 QQ (F0 m 40 ls [.ref q_this]) := by
    intro v_before v_flags v_behindPicture v_behindJoinedPicture h H locs hP hD hS ls hl
    refine lv_iconst (v := (1 : Int32)) hx hb dX3_pass_40 (by decide) ?_
    refine lv_goto (tgt := 45) hx hb dX3_pass_41 (by decide) ?_
    refine P45 v_before v_flags v_behindPicture v_behindJoinedPicture (1 : Int32) h _ _ hP hD hS ls (lv_sub hl [0, 1] rfl)
  have P44 : ∀ (v_before : Int32) (v_flags : Int32) (v_behindPicture : Int32) (v_behindJoinedPicture : Int32) , w_X3_pass_44 post v_flags v_behindJoinedPicture a1 → ∀ (H : Heap) (locs : List Loc), va_P (dC, dI) vwC [(q_this, .inr (3, [.int v_before, .int v_flags, .int v_behindPicture, .int v_behindJoinedPicture]))] H → va_D A [(q_this, .inr (3, [.int v_before, .int v_flags, .int v_behindPicture, .int v_behindJoinedPicture]))] → va_S A s.heap H locs → ∀ (ls : Array Slot), lv_has ls 2 [(0, .ref q_this), (1, .int a1)] → W p l e (headSpec [.code yX3_pass cX3_pass 2 none] ({ frames := 0, cells := 0, slots := 0, locals := 0 } : Room)).room s m (List.toArray [.ref q_this, .int a1]) below meth c H locs 0 0 QQ (F0 m 44 ls [.ref q_this]) := by
    intro v_before v_flags v_behindPicture v_behindJoinedPicture h H locs hP hD hS ls hl
    refine lv_iconst (v := (0 : Int32)) hx hb dX3_pass_44 (by decide) ?_
    refine P45 v_before v_flags v_behindPicture v_behindJoinedPicture (0 : Int32) h _ _ hP hD hS ls (lv_sub hl [0, 1] rfl)
  have P18 : ∀ (v_before : Int32) (v_flags : Int32) (v_behindPicture : Int32) (v_behindJoinedPicture : Int32) (s0 : Int32) , w_X3_pass_18 post v_flags v_behindPicture a1 s0 → ∀ (H : Heap) (locs : List Loc), va_P (dC, dI) vwC [(q_this, .inr (3, [.int v_before, .int v_flags, .int v_behindPicture, .int v_behindJoinedPicture]))] H → va_D A [(q_this, .inr (3, [.int v_before, .int v_flags, .int v_behindPicture, .int v_behindJoinedPicture]))] → va_S A s.heap H locs → ∀ (ls : Array Slot), lv_has ls 2 [(0, .ref q_this), (1, .int a1)] → W p l e (headSpec [.code yX3_pass cX3_pass 2 none] ({ frames := 0, cells := 0, slots := 0, locals := 0 } : Room)).room s m (List.toArray [.ref q_this, .int a1]) below meth c H locs 0 0 QQ (F0 m 18 ls [.int s0, .ref q_this]) := by
    intro v_before v_flags v_behindPicture v_behindJoinedPicture s0 h H locs hP hD hS ls hl
    obtain ⟨hz, h⟩ := h
    refine va_put (D := (dC, dI)) (ci := 3) (v := .int s0) (ty := .boolean) (C := RX3) (T := TX3) (N := 4) hx hb hts inX3 tyX3 tyX3_ok nmX3 hown hK hP hD hS 0 rfl rfl 3 (by decide) (hts _ tw125) (fun _ h9 => h9) rfl (by decide +kernel) hz.1 hz.2 (Nat.le_of_ble_eq_true rfl) dX3_pass_18 (fun H locs hP hD hS => ?_)
    have hP : va_P (dC, dI) vwC [(q_this, .inr (3, [.int v_before, .int v_flags, .int v_behindPicture, .int s0]))] H := hP
    have hD : va_D A [(q_this, .inr (3, [.int v_before, .int v_flags, .int v_behindPicture, .int s0]))] := hD
    refine lv_aload_n hx hb dX3_pass_21 rfl (lv_at hl 0 rfl) ?_
    refine lv_iload_n hx hb dX3_pass_22 rfl (lv_at hl 1 rfl) ?_
    refine lv_bipush (v := (14 : Int32)) hx hb dX3_pass_23 (by decide) ?_
    refine lv_icmp_eq (tgt := 40) hx hb dX3_pass_25 (by decide) (fun c9 => ?_) (fun c9 => ?_)
    · replace h := h.1 c9
      refine P40 v_before v_flags v_behindPicture s0 h _ _ hP hD hS ls (lv_sub hl [0, 1] rfl)
    · replace h := h.2 c9
      refine lv_iload_n hx hb dX3_pass_28 rfl (lv_at hl 1 rfl) ?_
      refine lv_iconst (v := (4 : Int32)) hx hb dX3_pass_29 (by decide) ?_
      refine lv_icmp_ne (tgt := 44) hx hb dX3_pass_30 (by decide) (fun c9 => ?_) (fun c9 => ?_)
      · replace h := h.1 c9
        refine P44 v_before v_flags v_behindPicture s0 h _ _ hP hD hS ls (lv_sub hl [0, 1] rfl)
      · replace h := h.2 c9
        refine lv_aload_n hx hb dX3_pass_33 rfl (lv_at hl 0 rfl) ?_
        refine va_get (D := (dC, dI)) (ci := 3) (v := .int v_behindPicture) (C := RX3) (T := TX3) (N := 4) hx hb hts inX3 hown hK hP 0 rfl rfl 2 (by decide) (hts _ tw124) (fun _ h9 => h9) rfl dX3_pass_34 ?_
        refine lv_if_eq (tgt := 44) hx hb dX3_pass_37 (by decide) (fun c9 => ?_) (fun c9 => ?_)
        · replace h := h.1 c9
          refine P44 v_before v_flags v_behindPicture s0 h _ _ hP hD hS ls (lv_sub hl [0, 1] rfl)
        · replace h := h.2 c9
          refine P40 v_before v_flags v_behindPicture s0 h _ _ hP hD hS ls (lv_sub hl [0, 1] rfl)
  have P17 : ∀ (v_before : Int32) (v_flags : Int32) (v_behindPicture : Int32) (v_behindJoinedPicture : Int32) , w_X3_pass_17 post v_flags v_behindPicture a1 → ∀ (H : Heap) (locs : List Loc), va_P (dC, dI) vwC [(q_this, .inr (3, [.int v_before, .int v_flags, .int v_behindPicture, .int v_behindJoinedPicture]))] H → va_D A [(q_this, .inr (3, [.int v_before, .int v_flags, .int v_behindPicture, .int v_behindJoinedPicture]))] → va_S A s.heap H locs → ∀ (ls : Array Slot), lv_has ls 2 [(0, .ref q_this), (1, .int a1)] → W p l e (headSpec [.code yX3_pass cX3_pass 2 none] ({ frames := 0, cells := 0, slots := 0, locals := 0 } : Room)).room s m (List.toArray [.ref q_this, .int a1]) below meth c H locs 0 0 QQ (F0 m 17 ls [.ref q_this]) := by
    intro v_before v_flags v_behindPicture v_behindJoinedPicture h H locs hP hD hS ls hl
    refine lv_iconst (v := (0 : Int32)) hx hb dX3_pass_17 (by decide) ?_
    refine P18 v_before v_flags v_behindPicture v_behindJoinedPicture (0 : Int32) h _ _ hP hD hS ls (lv_sub hl [0, 1] rfl)
  refine lv_aload_n hx hb dX3_pass_0 rfl (lv_at hl 0 rfl) ?_
  refine lv_iload_n hx hb dX3_pass_1 rfl (lv_at hl 1 rfl) ?_
  refine lv_iconst (v := (5 : Int32)) hx hb dX3_pass_2 (by decide) ?_
  refine lv_icmp_ne (tgt := 17) hx hb dX3_pass_3 (by decide) (fun c9 => ?_) (fun c9 => ?_)
  · replace h := h.1 c9
    refine P17 v_before v_flags v_behindPicture v_behindJoinedPicture h _ _ hP hD hS ls (lv_sub hl [0, 1] rfl)
  · replace h := h.2 c9
    refine lv_aload_n hx hb dX3_pass_6 rfl (lv_at hl 0 rfl) ?_
    refine va_get (D := (dC, dI)) (ci := 3) (v := .int v_behindPicture) (C := RX3) (T := TX3) (N := 4) hx hb hts inX3 hown hK hP 0 rfl rfl 2 (by decide) (hts _ tw124) (fun _ h9 => h9) rfl dX3_pass_7 ?_
    refine lv_if_eq (tgt := 17) hx hb dX3_pass_10 (by decide) (fun c9 => ?_) (fun c9 => ?_)
    · replace h := h.1 c9
      refine P17 v_before v_flags v_behindPicture v_behindJoinedPicture h _ _ hP hD hS ls (lv_sub hl [0, 1] rfl)
    · replace h := h.2 c9
      refine lv_iconst (v := (1 : Int32)) hx hb dX3_pass_13 (by decide) ?_
      refine lv_goto (tgt := 18) hx hb dX3_pass_14 (by decide) ?_
      refine P18 v_before v_flags v_behindPicture v_behindJoinedPicture (1 : Int32) h _ _ hP hD hS ls (lv_sub hl [0, 1] rfl)
set_option maxHeartbeats 4000000 in
set_option maxRecDepth 100000 in
theorem m_X3_isLineOrControl (l : Launch) (dC : Nat → ClassId) (dI : Nat → Nat → Nat) (cI cZ cJ : ClassId) (a1 : Int32) (post : Int32 → Prop) (h : w_X3_isLineOrControl post a1) : Met l yX3_isLineOrControl [.code yX3_isLineOrControl cX3_isLineOrControl 1 (some .boolean)] ({ frames := 0, cells := 0, slots := 0, locals := 0 } : Room) (va_Pc [.int a1] (fun U => va_P (dC, dI) vwC [] U.heap ∧ KK dC dI cI cZ cJ U)) (vp_Si post) 0 0 (fun _ => False) := by
  refine Met.ofW (cc := cX3_isLineOrControl) (maxL := 1) (ret := (some .boolean)) (by decide) rfl ?_
  intro p e s m args below meth c s₁ B hml hv
  obtain ⟨rfl, hP, hKK⟩ := hv
  have hK := hKK.1
  have hx := B.exec
  have hb := B.bytes
  have hr := B.returns
  have hts : ∀ w ∈ TG, w.before (List.toArray [.int a1]) s = true := hKK.ts
  have hown : s.vm.findClass RX3 = some m.cls := findClass_of_methodNamed B.named
  have hlocks := B.notSynchronized
  have hl := lv_entry ([.int a1]) (n := 1) (Nat.le_of_ble_eq_true rfl)
  rw [lg_entry_eq]
  generalize (lg_sl ([.int a1]) ++ List.replicate (1 - (lg_sl ([.int a1])).length) Slot.unset).toArray = ls at hl ⊢
  have hl : lv_has ls 1 [(0, .int a1)] := hl
  obtain ⟨QQ, hQQ⟩ : ∃ z, z = MQ below (vp_Si post) (List.toArray [.int a1]) s 0 0 (fun _ => False) := ⟨_, rfl⟩
  rw [← hQQ]
  refine lv_iload_n hx hb dX3_isLineOrControl_0 rfl (lv_at hl 0 rfl) ?_
  refine lv_iconst (v := (1 : Int32)) hx hb dX3_isLineOrControl_1 (by decide) ?_
  refine lv_icmp_eq (tgt := 15) hx hb dX3_isLineOrControl_2 (by decide) (fun c9 => ?_) (fun c9 => ?_)
  · replace h := h.1 c9
    refine lv_iconst (v := (1 : Int32)) hx hb dX3_isLineOrControl_15 (by decide) ?_
    refine lv_goto (tgt := 20) hx hb dX3_isLineOrControl_16 (by decide) ?_
    rw [hQQ]
    exact W.zret (ty := .boolean) hx hb hr (by decide) (fun t ht hW => ⟨_, rfl, h, ht⟩) t_nil dX3_isLineOrControl_20
  · replace h := h.2 c9
    refine lv_iload_n hx hb dX3_isLineOrControl_5 rfl (lv_at hl 0 rfl) ?_
    refine lv_iconst (v := (2 : Int32)) hx hb dX3_isLineOrControl_6 (by decide) ?_
    refine lv_icmp_eq (tgt := 15) hx hb dX3_isLineOrControl_7 (by decide) (fun c9 => ?_) (fun c9 => ?_)
    · replace h := h.1 c9
      refine lv_iconst (v := (1 : Int32)) hx hb dX3_isLineOrControl_15 (by decide) ?_
      refine lv_goto (tgt := 20) hx hb dX3_isLineOrControl_16 (by decide) ?_
      rw [hQQ]
      exact W.zret (ty := .boolean) hx hb hr (by decide) (fun t ht hW => ⟨_, rfl, h, ht⟩) t_nil dX3_isLineOrControl_20
    · replace h := h.2 c9
      refine lv_iload_n hx hb dX3_isLineOrControl_10 rfl (lv_at hl 0 rfl) ?_
      refine lv_iconst (v := (3 : Int32)) hx hb dX3_isLineOrControl_11 (by decide) ?_
      refine lv_icmp_ne (tgt := 19) hx hb dX3_isLineOrControl_12 (by decide) (fun c9 => ?_) (fun c9 => ?_)
      · replace h := h.1 c9
        refine lv_iconst (v := (0 : Int32)) hx hb dX3_isLineOrControl_19 (by decide) ?_
        rw [hQQ]
        exact W.zret (ty := .boolean) hx hb hr (by decide) (fun t ht hW => ⟨_, rfl, h, ht⟩) t_nil dX3_isLineOrControl_20
      · replace h := h.2 c9
        refine lv_iconst (v := (1 : Int32)) hx hb dX3_isLineOrControl_15 (by decide) ?_
        refine lv_goto (tgt := 20) hx hb dX3_isLineOrControl_16 (by decide) ?_
        rw [hQQ]
        exact W.zret (ty := .boolean) hx hb hr (by decide) (fun t ht hW => ⟨_, rfl, h, ht⟩) t_nil dX3_isLineOrControl_20
set_option maxHeartbeats 4000000 in
set_option maxRecDepth 100000 in
theorem m_X3_ruleBefore (l : Launch) (dC : Nat → ClassId) (dI : Nat → Nat → Nat) (cI cZ cJ : ClassId) (q_this : Nat) (v_before : Int32) (v_flags : Int32) (v_behindPicture : Int32) (v_behindJoinedPicture : Int32) (a1 : Int32) (post : Int32 → Prop) (h : w_X3_ruleBefore post v_before v_flags v_behindJoinedPicture a1) : Met l yX3_ruleBefore [.code yX3_ruleBefore cX3_ruleBefore 2 (some .int)] ({ frames := 1, cells := 0, slots := 0, locals := 20 } : Room) (va_Pc [.ref q_this, .int a1] (fun U => va_P (dC, dI) vwC [(q_this, .inr (3, [.int v_before, .int v_flags, .int v_behindPicture, .int v_behindJoinedPicture]))] U.heap ∧ KK dC dI cI cZ cJ U)) (vp_Si post) 0 0 (fun _ => False) := by
  refine Met.ofW (cc := cX3_ruleBefore) (maxL := 2) (ret := (some .int)) (by decide) rfl ?_
  intro p e s m args below meth c s₁ B hml hv
  obtain ⟨rfl, hP, hKK⟩ := hv
  have hK := hKK.1
  have hx := B.exec
  have hb := B.bytes
  have hr := B.returns
  have hts : ∀ w ∈ TG, w.before (List.toArray [.ref q_this, .int a1]) s = true := hKK.ts
  have hown : s.vm.findClass RX3 = some m.cls := findClass_of_methodNamed B.named
  have hlocks := B.notSynchronized
  have hl := lv_entry ([.ref q_this, .int a1]) (n := 2) (Nat.le_of_ble_eq_true rfl)
  rw [lg_entry_eq]
  generalize (lg_sl ([.ref q_this, .int a1]) ++ List.replicate (2 - (lg_sl ([.ref q_this, .int a1])).length) Slot.unset).toArray = ls at hl ⊢
  have hl : lv_has ls 2 [(0, .ref q_this), (1, .int a1)] := hl
  obtain ⟨QQ, hQQ⟩ : ∃ z, z = MQ below (vp_Si post) (List.toArray [.ref q_this, .int a1]) s 0 0 (fun _ => False) := ⟨_, rfl⟩
  rw [← hQQ]
  have P182 : w_X3_ruleBefore_182 post v_flags a1 → ∀ (ls : Array Slot), lv_has ls 2 [(0, .ref q_this), (1, .int a1)] → W p l e (headSpec [.code yX3_ruleBefore cX3_ruleBefore 2 (some .int)] ({ frames := 1, cells := 0, slots := 0, locals := 20 } : Room)).room s m (List.toArray [.ref q_this, .int a1]) below meth c s.heap [] 0 0 QQ (F0 m 182 ls []) := by
    intro  h ls hl
    refine lv_aload_n hx hb dX3_ruleBefore_182 rfl (lv_at hl 0 rfl) ?_
    refine va_get (D := (dC, dI)) (ci := 3) (v := .int v_flags) (C := RX3) (T := TX3) (N := 4) hx hb hts inX3 hown hK hP 0 rfl rfl 1 (by decide) (hts _ tw123) (fun _ h9 => h9) rfl dX3_ruleBefore_183 ?_
    refine lv_iconst (v := (2 : Int32)) hx hb dX3_ruleBefore_186 (by decide) ?_
    refine lv_irem hx hb dX3_ruleBefore_187 (by decide) ?_
    refine lv_iconst (v := (1 : Int32)) hx hb dX3_ruleBefore_188 (by decide) ?_
    refine lv_icmp_ne (tgt := 201) hx hb dX3_ruleBefore_189 (by decide) (fun c9 => ?_) (fun c9 => ?_)
    · replace h := h.1 c9
      refine lv_sipush (v := (999 : Int32)) hx hb dX3_ruleBefore_201 (by decide) ?_
      rw [hQQ]
      exact W.iret hx hb hr (fun t ht hW => ⟨_, rfl, h, ht⟩) t_nil dX3_ruleBefore_204
    · replace h := h.2 c9
      refine lv_iload_n hx hb dX3_ruleBefore_192 rfl (lv_at hl 1 rfl) ?_
      refine lv_bipush (v := (6 : Int32)) hx hb dX3_ruleBefore_193 (by decide) ?_
      refine lv_icmp_ne (tgt := 201) hx hb dX3_ruleBefore_195 (by decide) (fun c9 => ?_) (fun c9 => ?_)
      · replace h := h.1 c9
        refine lv_sipush (v := (999 : Int32)) hx hb dX3_ruleBefore_201 (by decide) ?_
        rw [hQQ]
        exact W.iret hx hb hr (fun t ht hW => ⟨_, rfl, h, ht⟩) t_nil dX3_ruleBefore_204
      · replace h := h.2 c9
        refine lv_bipush (v := (12 : Int32)) hx hb dX3_ruleBefore_198 (by decide) ?_
        rw [hQQ]
        exact W.iret hx hb hr (fun t ht hW => ⟨_, rfl, h, ht⟩) t_nil dX3_ruleBefore_200
  have P132 : w_X3_ruleBefore_132 post v_before v_flags v_behindJoinedPicture a1 → ∀ (ls : Array Slot), lv_has ls 2 [(0, .ref q_this), (1, .int a1)] → W p l e (headSpec [.code yX3_ruleBefore cX3_ruleBefore 2 (some .int)] ({ frames := 1, cells := 0, slots := 0, locals := 20 } : Room)).room s m (List.toArray [.ref q_this, .int a1]) below meth c s.heap [] 0 0 QQ (F0 m 132 ls []) := by
    intro  h ls hl
    refine lv_iload_n hx hb dX3_ruleBefore_132 rfl (lv_at hl 1 rfl) ?_
    refine lv_iconst (v := (4 : Int32)) hx hb dX3_ruleBefore_133 (by decide) ?_
    refine lv_icmp_eq (tgt := 142) hx hb dX3_ruleBefore_134 (by decide) (fun c9 => ?_) (fun c9 => ?_)
    · replace h := h.1 c9
      refine lv_bipush (v := (9 : Int32)) hx hb dX3_ruleBefore_142 (by decide) ?_
      rw [hQQ]
      exact W.iret hx hb hr (fun t ht hW => ⟨_, rfl, h, ht⟩) t_nil dX3_ruleBefore_144
    · replace h := h.2 c9
      refine lv_iload_n hx hb dX3_ruleBefore_137 rfl (lv_at hl 1 rfl) ?_
      refine lv_iconst (v := (5 : Int32)) hx hb dX3_ruleBefore_138 (by decide) ?_
      refine lv_icmp_ne (tgt := 145) hx hb dX3_ruleBefore_139 (by decide) (fun c9 => ?_) (fun c9 => ?_)
      · replace h := h.1 c9
        refine lv_iload_n hx hb dX3_ruleBefore_145 rfl (lv_at hl 1 rfl) ?_
        refine lv_bipush (v := (8 : Int32)) hx hb dX3_ruleBefore_146 (by decide) ?_
        refine lv_icmp_ne (tgt := 154) hx hb dX3_ruleBefore_148 (by decide) (fun c9 => ?_) (fun c9 => ?_)
        · replace h := h.1 c9
          refine lv_aload_n hx hb dX3_ruleBefore_154 rfl (lv_at hl 0 rfl) ?_
          refine va_get (D := (dC, dI)) (ci := 3) (v := .int v_before) (C := RX3) (T := TX3) (N := 4) hx hb hts inX3 hown hK hP 0 rfl rfl 0 (by decide) (hts _ tw122) (fun _ h9 => h9) rfl dX3_ruleBefore_155 ?_
          refine lv_bipush (v := (7 : Int32)) hx hb dX3_ruleBefore_158 (by decide) ?_
          refine lv_icmp_ne (tgt := 166) hx hb dX3_ruleBefore_160 (by decide) (fun c9 => ?_) (fun c9 => ?_)
          · replace h := h.1 c9
            refine lv_aload_n hx hb dX3_ruleBefore_166 rfl (lv_at hl 0 rfl) ?_
            refine va_get (D := (dC, dI)) (ci := 3) (v := .int v_behindJoinedPicture) (C := RX3) (T := TX3) (N := 4) hx hb hts inX3 hown hK hP 0 rfl rfl 3 (by decide) (hts _ tw125) (fun _ h9 => h9) rfl dX3_ruleBefore_167 ?_
            refine lv_if_eq (tgt := 182) hx hb dX3_ruleBefore_170 (by decide) (fun c9 => ?_) (fun c9 => ?_)
            · replace h := h.1 c9
              refine P182 h ls (lv_sub hl [0, 1] rfl)
            · replace h := h.2 c9
              refine lv_iload_n hx hb dX3_ruleBefore_173 rfl (lv_at hl 1 rfl) ?_
              refine lv_bipush (v := (14 : Int32)) hx hb dX3_ruleBefore_174 (by decide) ?_
              refine lv_icmp_ne (tgt := 182) hx hb dX3_ruleBefore_176 (by decide) (fun c9 => ?_) (fun c9 => ?_)
              · replace h := h.1 c9
                refine P182 h ls (lv_sub hl [0, 1] rfl)
              · replace h := h.2 c9
                refine lv_bipush (v := (11 : Int32)) hx hb dX3_ruleBefore_179 (by decide) ?_
                rw [hQQ]
                exact W.iret hx hb hr (fun t ht hW => ⟨_, rfl, h, ht⟩) t_nil dX3_ruleBefore_181
          · replace h := h.2 c9
            refine lv_bipush (v := (92 : Int32)) hx hb dX3_ruleBefore_163 (by decide) ?_
            rw [hQQ]
            exact W.iret hx hb hr (fun t ht hW => ⟨_, rfl, h, ht⟩) t_nil dX3_ruleBefore_165
        · replace h := h.2 c9
          refine lv_bipush (v := (91 : Int32)) hx hb dX3_ruleBefore_151 (by decide) ?_
          rw [hQQ]
          exact W.iret hx hb hr (fun t ht hW => ⟨_, rfl, h, ht⟩) t_nil dX3_ruleBefore_153
      · replace h := h.2 c9
        refine lv_bipush (v := (9 : Int32)) hx hb dX3_ruleBefore_142 (by decide) ?_
        rw [hQQ]
        exact W.iret hx hb hr (fun t ht hW => ⟨_, rfl, h, ht⟩) t_nil dX3_ruleBefore_144
  have P123 : w_X3_ruleBefore_123 post v_before v_flags v_behindJoinedPicture a1 → ∀ (ls : Array Slot), lv_has ls 2 [(0, .ref q_this), (1, .int a1)] → W p l e (headSpec [.code yX3_ruleBefore cX3_ruleBefore 2 (some .int)] ({ frames := 1, cells := 0, slots := 0, locals := 20 } : Room)).room s m (List.toArray [.ref q_this, .int a1]) below meth c s.heap [] 0 0 QQ (F0 m 123 ls []) := by
    intro  h ls hl
    refine lv_iload_n hx hb dX3_ruleBefore_123 rfl (lv_at hl 1 rfl) ?_
    refine lv_bipush (v := (11 : Int32)) hx hb dX3_ruleBefore_124 (by decide) ?_
    refine lv_icmp_ne (tgt := 132) hx hb dX3_ruleBefore_126 (by decide) (fun c9 => ?_) (fun c9 => ?_)
    · replace h := h.1 c9
      refine P132 h ls (lv_sub hl [0, 1] rfl)
    · replace h := h.2 c9
      refine lv_bipush (v := (8 : Int32)) hx hb dX3_ruleBefore_129 (by decide) ?_
      rw [hQQ]
      exact W.iret hx hb hr (fun t ht hW => ⟨_, rfl, h, ht⟩) t_nil dX3_ruleBefore_131
  have P105 : w_X3_ruleBefore_105 post v_before v_flags v_behindJoinedPicture a1 → ∀ (ls : Array Slot), lv_has ls 2 [(0, .ref q_this), (1, .int a1)] → W p l e (headSpec [.code yX3_ruleBefore cX3_ruleBefore 2 (some .int)] ({ frames := 1, cells := 0, slots := 0, locals := 20 } : Room)).room s m (List.toArray [.ref q_this, .int a1]) below meth c s.heap [] 0 0 QQ (F0 m 105 ls []) := by
    intro  h ls hl
    refine lv_aload_n hx hb dX3_ruleBefore_105 rfl (lv_at hl 0 rfl) ?_
    refine va_get (D := (dC, dI)) (ci := 3) (v := .int v_before) (C := RX3) (T := TX3) (N := 4) hx hb hts inX3 hown hK hP 0 rfl rfl 0 (by decide) (hts _ tw122) (fun _ h9 => h9) rfl dX3_ruleBefore_106 ?_
    refine lv_bipush (v := (13 : Int32)) hx hb dX3_ruleBefore_109 (by decide) ?_
    refine lv_icmp_eq (tgt := 123) hx hb dX3_ruleBefore_111 (by decide) (fun c9 => ?_) (fun c9 => ?_)
    · replace h := h.1 c9
      refine P123 h ls (lv_sub hl [0, 1] rfl)
    · replace h := h.2 c9
      refine lv_aload_n hx hb dX3_ruleBefore_114 rfl (lv_at hl 0 rfl) ?_
      refine va_get (D := (dC, dI)) (ci := 3) (v := .int v_before) (C := RX3) (T := TX3) (N := 4) hx hb hts inX3 hown hK hP 0 rfl rfl 0 (by decide) (hts _ tw122) (fun _ h9 => h9) rfl dX3_ruleBefore_115 ?_
      refine lv_bipush (v := (11 : Int32)) hx hb dX3_ruleBefore_118 (by decide) ?_
      refine lv_icmp_ne (tgt := 132) hx hb dX3_ruleBefore_120 (by decide) (fun c9 => ?_) (fun c9 => ?_)
      · replace h := h.1 c9
        refine P132 h ls (lv_sub hl [0, 1] rfl)
      · replace h := h.2 c9
        refine P123 h ls (lv_sub hl [0, 1] rfl)
  have P90 : w_X3_ruleBefore_90 post v_before v_flags v_behindJoinedPicture a1 → ∀ (ls : Array Slot), lv_has ls 2 [(0, .ref q_this), (1, .int a1)] → W p l e (headSpec [.code yX3_ruleBefore cX3_ruleBefore 2 (some .int)] ({ frames := 1, cells := 0, slots := 0, locals := 20 } : Room)).room s m (List.toArray [.ref q_this, .int a1]) below meth c s.heap [] 0 0 QQ (F0 m 90 ls []) := by
    intro  h ls hl
    refine lv_iload_n hx hb dX3_ruleBefore_90 rfl (lv_at hl 1 rfl) ?_
    refine lv_bipush (v := (10 : Int32)) hx hb dX3_ruleBefore_91 (by decide) ?_
    refine lv_icmp_eq (tgt := 102) hx hb dX3_ruleBefore_93 (by decide) (fun c9 => ?_) (fun c9 => ?_)
    · replace h := h.1 c9
      refine lv_bipush (v := (7 : Int32)) hx hb dX3_ruleBefore_102 (by decide) ?_
      rw [hQQ]
      exact W.iret hx hb hr (fun t ht hW => ⟨_, rfl, h, ht⟩) t_nil dX3_ruleBefore_104
    · replace h := h.2 c9
      refine lv_iload_n hx hb dX3_ruleBefore_96 rfl (lv_at hl 1 rfl) ?_
      refine lv_bipush (v := (11 : Int32)) hx hb dX3_ruleBefore_97 (by decide) ?_
      refine lv_icmp_ne (tgt := 105) hx hb dX3_ruleBefore_99 (by decide) (fun c9 => ?_) (fun c9 => ?_)
      · replace h := h.1 c9
        refine P105 h ls (lv_sub hl [0, 1] rfl)
      · replace h := h.2 c9
        refine lv_bipush (v := (7 : Int32)) hx hb dX3_ruleBefore_102 (by decide) ?_
        rw [hQQ]
        exact W.iret hx hb hr (fun t ht hW => ⟨_, rfl, h, ht⟩) t_nil dX3_ruleBefore_104
  have P72 : w_X3_ruleBefore_72 post v_before v_flags v_behindJoinedPicture a1 → ∀ (ls : Array Slot), lv_has ls 2 [(0, .ref q_this), (1, .int a1)] → W p l e (headSpec [.code yX3_ruleBefore cX3_ruleBefore 2 (some .int)] ({ frames := 1, cells := 0, slots := 0, locals := 20 } : Room)).room s m (List.toArray [.ref q_this, .int a1]) below meth c s.heap [] 0 0 QQ (F0 m 72 ls []) := by
    intro  h ls hl
    refine lv_aload_n hx hb dX3_ruleBefore_72 rfl (lv_at hl 0 rfl) ?_
    refine va_get (D := (dC, dI)) (ci := 3) (v := .int v_before) (C := RX3) (T := TX3) (N := 4) hx hb hts inX3 hown hK hP 0 rfl rfl 0 (by decide) (hts _ tw122) (fun _ h9 => h9) rfl dX3_ruleBefore_73 ?_
    refine lv_bipush (v := (12 : Int32)) hx hb dX3_ruleBefore_76 (by decide) ?_
    refine lv_icmp_eq (tgt := 90) hx hb dX3_ruleBefore_78 (by decide) (fun c9 => ?_) (fun c9 => ?_)
    · replace h := h.1 c9
      refine P90 h ls (lv_sub hl [0, 1] rfl)
    · replace h := h.2 c9
      refine lv_aload_n hx hb dX3_ruleBefore_81 rfl (lv_at hl 0 rfl) ?_
      refine va_get (D := (dC, dI)) (ci := 3) (v := .int v_before) (C := RX3) (T := TX3) (N := 4) hx hb hts inX3 hown hK hP 0 rfl rfl 0 (by decide) (hts _ tw122) (fun _ h9 => h9) rfl dX3_ruleBefore_82 ?_
      refine lv_bipush (v := (10 : Int32)) hx hb dX3_ruleBefore_85 (by decide) ?_
      refine lv_icmp_ne (tgt := 105) hx hb dX3_ruleBefore_87 (by decide) (fun c9 => ?_) (fun c9 => ?_)
      · replace h := h.1 c9
        refine P105 h ls (lv_sub hl [0, 1] rfl)
      · replace h := h.2 c9
        refine P90 h ls (lv_sub hl [0, 1] rfl)
  have P15 : w_X3_ruleBefore_15 post v_before v_flags v_behindJoinedPicture a1 → ∀ (ls : Array Slot), lv_has ls 2 [(0, .ref q_this), (1, .int a1)] → W p l e (headSpec [.code yX3_ruleBefore cX3_ruleBefore 2 (some .int)] ({ frames := 1, cells := 0, slots := 0, locals := 20 } : Room)).room s m (List.toArray [.ref q_this, .int a1]) below meth c s.heap [] 0 0 QQ (F0 m 15 ls []) := by
    intro  h ls hl
    refine lv_aload_n hx hb dX3_ruleBefore_15 rfl (lv_at hl 0 rfl) ?_
    refine va_get (D := (dC, dI)) (ci := 3) (v := .int v_before) (C := RX3) (T := TX3) (N := 4) hx hb hts inX3 hown hK hP 0 rfl rfl 0 (by decide) (hts _ tw122) (fun _ h9 => h9) rfl dX3_ruleBefore_16 ?_
    have hPc := hP.sub (ws' := []) [] rfl
    refine na_calls (va_runS (As := [.int v_before]) (rest := []) ⟨hx, hb, hml, hown, hts⟩ (m_X3_isLineOrControl l dC dI cI cZ cJ v_before _ h) (cwS 1 hts (na_gS tw193 tw194 tw6 tw195 rfl) rfl rfl rfl (by decide +kernel) ⟨Nat.le_of_ble_eq_true rfl, Nat.le_of_ble_eq_true rfl⟩) ⟨fun a U g mk q => by obtain ⟨q0, qP, qK⟩ := q; exact ⟨q0, qP, qK.same rfl⟩, fun U hU hW => ⟨rfl, by rw [hU]; exact hPc, hKK.warm hW⟩⟩ rfl rfl hl.1 rfl (lv_room (Nat.le_of_ble_eq_true rfl)) dX3_ruleBefore_19 ⟨Nat.zero_le _, Nat.zero_le _⟩) (fun r_19 h => ?_)
    refine lv_if_eq (tgt := 27) hx hb dX3_ruleBefore_22 (by decide) (fun c9 => ?_) (fun c9 => ?_)
    · replace h := h.1 c9
      refine lv_iload_n hx hb dX3_ruleBefore_27 rfl (lv_at hl 1 rfl) ?_
      have hPc := hP.sub (ws' := []) [] rfl
      refine na_calls (va_runS (As := [.int a1]) (rest := []) ⟨hx, hb, hml, hown, hts⟩ (m_X3_isLineOrControl l dC dI cI cZ cJ a1 _ h) (cwS 1 hts (na_gS tw193 tw194 tw6 tw195 rfl) rfl rfl rfl (by decide +kernel) ⟨Nat.le_of_ble_eq_true rfl, Nat.le_of_ble_eq_true rfl⟩) ⟨fun a U g mk q => by obtain ⟨q0, qP, qK⟩ := q; exact ⟨q0, qP, qK.same rfl⟩, fun U hU hW => ⟨rfl, by rw [hU]; exact hPc, hKK.warm hW⟩⟩ rfl rfl hl.1 rfl (lv_room (Nat.le_of_ble_eq_true rfl)) dX3_ruleBefore_28 ⟨Nat.zero_le _, Nat.zero_le _⟩) (fun r_28 h => ?_)
      refine lv_if_eq (tgt := 36) hx hb dX3_ruleBefore_31 (by decide) (fun c9 => ?_) (fun c9 => ?_)
      · replace h := h.1 c9
        refine lv_aload_n hx hb dX3_ruleBefore_36 rfl (lv_at hl 0 rfl) ?_
        refine va_get (D := (dC, dI)) (ci := 3) (v := .int v_before) (C := RX3) (T := TX3) (N := 4) hx hb hts inX3 hown hK hP 0 rfl rfl 0 (by decide) (hts _ tw122) (fun _ h9 => h9) rfl dX3_ruleBefore_37 ?_
        refine lv_bipush (v := (9 : Int32)) hx hb dX3_ruleBefore_40 (by decide) ?_
        refine lv_icmp_ne (tgt := 72) hx hb dX3_ruleBefore_42 (by decide) (fun c9 => ?_) (fun c9 => ?_)
        · replace h := h.1 c9
          refine P72 h ls (lv_sub hl [0, 1] rfl)
        · replace h := h.2 c9
          refine lv_iload_n hx hb dX3_ruleBefore_45 rfl (lv_at hl 1 rfl) ?_
          refine lv_bipush (v := (9 : Int32)) hx hb dX3_ruleBefore_46 (by decide) ?_
          refine lv_icmp_eq (tgt := 69) hx hb dX3_ruleBefore_48 (by decide) (fun c9 => ?_) (fun c9 => ?_)
          · replace h := h.1 c9
            refine lv_bipush (v := (6 : Int32)) hx hb dX3_ruleBefore_69 (by decide) ?_
            rw [hQQ]
            exact W.iret hx hb hr (fun t ht hW => ⟨_, rfl, h, ht⟩) t_nil dX3_ruleBefore_71
          · replace h := h.2 c9
            refine lv_iload_n hx hb dX3_ruleBefore_51 rfl (lv_at hl 1 rfl) ?_
            refine lv_bipush (v := (10 : Int32)) hx hb dX3_ruleBefore_52 (by decide) ?_
            refine lv_icmp_eq (tgt := 69) hx hb dX3_ruleBefore_54 (by decide) (fun c9 => ?_) (fun c9 => ?_)
            · replace h := h.1 c9
              refine lv_bipush (v := (6 : Int32)) hx hb dX3_ruleBefore_69 (by decide) ?_
              rw [hQQ]
              exact W.iret hx hb hr (fun t ht hW => ⟨_, rfl, h, ht⟩) t_nil dX3_ruleBefore_71
            · replace h := h.2 c9
              refine lv_iload_n hx hb dX3_ruleBefore_57 rfl (lv_at hl 1 rfl) ?_
              refine lv_bipush (v := (12 : Int32)) hx hb dX3_ruleBefore_58 (by decide) ?_
              refine lv_icmp_eq (tgt := 69) hx hb dX3_ruleBefore_60 (by decide) (fun c9 => ?_) (fun c9 => ?_)
              · replace h := h.1 c9
                refine lv_bipush (v := (6 : Int32)) hx hb dX3_ruleBefore_69 (by decide) ?_
                rw [hQQ]
                exact W.iret hx hb hr (fun t ht hW => ⟨_, rfl, h, ht⟩) t_nil dX3_ruleBefore_71
              · replace h := h.2 c9
                refine lv_iload_n hx hb dX3_ruleBefore_63 rfl (lv_at hl 1 rfl) ?_
                refine lv_bipush (v := (13 : Int32)) hx hb dX3_ruleBefore_64 (by decide) ?_
                refine lv_icmp_ne (tgt := 72) hx hb dX3_ruleBefore_66 (by decide) (fun c9 => ?_) (fun c9 => ?_)
                · replace h := h.1 c9
                  refine P72 h ls (lv_sub hl [0, 1] rfl)
                · replace h := h.2 c9
                  refine lv_bipush (v := (6 : Int32)) hx hb dX3_ruleBefore_69 (by decide) ?_
                  rw [hQQ]
                  exact W.iret hx hb hr (fun t ht hW => ⟨_, rfl, h, ht⟩) t_nil dX3_ruleBefore_71
      · replace h := h.2 c9
        refine lv_iconst (v := (5 : Int32)) hx hb dX3_ruleBefore_34 (by decide) ?_
        rw [hQQ]
        exact W.iret hx hb hr (fun t ht hW => ⟨_, rfl, h, ht⟩) t_nil dX3_ruleBefore_35
    · replace h := h.2 c9
      refine lv_iconst (v := (4 : Int32)) hx hb dX3_ruleBefore_25 (by decide) ?_
      rw [hQQ]
      exact W.iret hx hb hr (fun t ht hW => ⟨_, rfl, h, ht⟩) t_nil dX3_ruleBefore_26
  refine lv_aload_n hx hb dX3_ruleBefore_0 rfl (lv_at hl 0 rfl) ?_
  refine va_get (D := (dC, dI)) (ci := 3) (v := .int v_before) (C := RX3) (T := TX3) (N := 4) hx hb hts inX3 hown hK hP 0 rfl rfl 0 (by decide) (hts _ tw122) (fun _ h9 => h9) rfl dX3_ruleBefore_1 ?_
  refine lv_iconst (v := (1 : Int32)) hx hb dX3_ruleBefore_4 (by decide) ?_
  refine lv_icmp_ne (tgt := 15) hx hb dX3_ruleBefore_5 (by decide) (fun c9 => ?_) (fun c9 => ?_)
  · replace h := h.1 c9
    refine P15 h ls (lv_sub hl [0, 1] rfl)
  · replace h := h.2 c9
    refine lv_iload_n hx hb dX3_ruleBefore_8 rfl (lv_at hl 1 rfl) ?_
    refine lv_iconst (v := (2 : Int32)) hx hb dX3_ruleBefore_9 (by decide) ?_
    refine lv_icmp_ne (tgt := 15) hx hb dX3_ruleBefore_10 (by decide) (fun c9 => ?_) (fun c9 => ?_)
    · replace h := h.1 c9
      refine P15 h ls (lv_sub hl [0, 1] rfl)
    · replace h := h.2 c9
      refine lv_iconst (v := (3 : Int32)) hx hb dX3_ruleBefore_13 (by decide) ?_
      rw [hQQ]
      exact W.iret hx hb hr (fun t ht hW => ⟨_, rfl, h, ht⟩) t_nil dX3_ruleBefore_14
set_option maxHeartbeats 4000000 in
set_option maxRecDepth 100000 in
theorem m_X3_isEnd (l : Launch) (dC : Nat → ClassId) (dI : Nat → Nat → Nat) (cI cZ cJ : ClassId) (a1 : Int32) (post : Int32 → Prop) (h : w_X3_isEnd post a1) : Met l yX3_isEnd [.code yX3_isEnd cX3_isEnd 1 (some .boolean)] ({ frames := 0, cells := 0, slots := 0, locals := 0 } : Room) (va_Pc [.int a1] (fun U => va_P (dC, dI) vwC [] U.heap ∧ KK dC dI cI cZ cJ U)) (vp_Si post) 0 0 (fun _ => False) := by
  refine Met.ofW (cc := cX3_isEnd) (maxL := 1) (ret := (some .boolean)) (by decide) rfl ?_
  intro p e s m args below meth c s₁ B hml hv
  obtain ⟨rfl, hP, hKK⟩ := hv
  have hK := hKK.1
  have hx := B.exec
  have hb := B.bytes
  have hr := B.returns
  have hts : ∀ w ∈ TG, w.before (List.toArray [.int a1]) s = true := hKK.ts
  have hown : s.vm.findClass RX3 = some m.cls := findClass_of_methodNamed B.named
  have hlocks := B.notSynchronized
  have hl := lv_entry ([.int a1]) (n := 1) (Nat.le_of_ble_eq_true rfl)
  rw [lg_entry_eq]
  generalize (lg_sl ([.int a1]) ++ List.replicate (1 - (lg_sl ([.int a1])).length) Slot.unset).toArray = ls at hl ⊢
  have hl : lv_has ls 1 [(0, .int a1)] := hl
  obtain ⟨QQ, hQQ⟩ : ∃ z, z = MQ below (vp_Si post) (List.toArray [.int a1]) s 0 0 (fun _ => False) := ⟨_, rfl⟩
  rw [← hQQ]
  refine lv_iload_n hx hb dX3_isEnd_0 rfl (lv_at hl 0 rfl) ?_
  refine lv_iconst (v := (1 : Int32)) hx hb dX3_isEnd_1 (by decide) ?_
  refine lv_icmp_eq (tgt := 27) hx hb dX3_isEnd_2 (by decide) (fun c9 => ?_) (fun c9 => ?_)
  · replace h := h.1 c9
    refine lv_iconst (v := (1 : Int32)) hx hb dX3_isEnd_27 (by decide) ?_
    refine lv_goto (tgt := 32) hx hb dX3_isEnd_28 (by decide) ?_
    rw [hQQ]
    exact W.zret (ty := .boolean) hx hb hr (by decide) (fun t ht hW => ⟨_, rfl, h, ht⟩) t_nil dX3_isEnd_32
  · replace h := h.2 c9
    refine lv_iload_n hx hb dX3_isEnd_5 rfl (lv_at hl 0 rfl) ?_
    refine lv_iconst (v := (2 : Int32)) hx hb dX3_isEnd_6 (by decide) ?_
    refine lv_icmp_eq (tgt := 27) hx hb dX3_isEnd_7 (by decide) (fun c9 => ?_) (fun c9 => ?_)
    · replace h := h.1 c9
      refine lv_iconst (v := (1 : Int32)) hx hb dX3_isEnd_27 (by decide) ?_
      refine lv_goto (tgt := 32) hx hb dX3_isEnd_28 (by decide) ?_
      rw [hQQ]
      exact W.zret (ty := .boolean) hx hb hr (by decide) (fun t ht hW => ⟨_, rfl, h, ht⟩) t_nil dX3_isEnd_32
    · replace h := h.2 c9
      refine lv_iload_n hx hb dX3_isEnd_10 rfl (lv_at hl 0 rfl) ?_
      refine lv_iconst (v := (4 : Int32)) hx hb dX3_isEnd_11 (by decide) ?_
      refine lv_icmp_eq (tgt := 27) hx hb dX3_isEnd_12 (by decide) (fun c9 => ?_) (fun c9 => ?_)
      · replace h := h.1 c9
        refine lv_iconst (v := (1 : Int32)) hx hb dX3_isEnd_27 (by decide) ?_
        refine lv_goto (tgt := 32) hx hb dX3_isEnd_28 (by decide) ?_
        rw [hQQ]
        exact W.zret (ty := .boolean) hx hb hr (by decide) (fun t ht hW => ⟨_, rfl, h, ht⟩) t_nil dX3_isEnd_32
      · replace h := h.2 c9
        refine lv_iload_n hx hb dX3_isEnd_15 rfl (lv_at hl 0 rfl) ?_
        refine lv_iconst (v := (5 : Int32)) hx hb dX3_isEnd_16 (by decide) ?_
        refine lv_icmp_eq (tgt := 27) hx hb dX3_isEnd_17 (by decide) (fun c9 => ?_) (fun c9 => ?_)
        · replace h := h.1 c9
          refine lv_iconst (v := (1 : Int32)) hx hb dX3_isEnd_27 (by decide) ?_
          refine lv_goto (tgt := 32) hx hb dX3_isEnd_28 (by decide) ?_
          rw [hQQ]
          exact W.zret (ty := .boolean) hx hb hr (by decide) (fun t ht hW => ⟨_, rfl, h, ht⟩) t_nil dX3_isEnd_32
        · replace h := h.2 c9
          refine lv_iload_n hx hb dX3_isEnd_20 rfl (lv_at hl 0 rfl) ?_
          refine lv_sipush (v := (999 : Int32)) hx hb dX3_isEnd_21 (by decide) ?_
          refine lv_icmp_ne (tgt := 31) hx hb dX3_isEnd_24 (by decide) (fun c9 => ?_) (fun c9 => ?_)
          · replace h := h.1 c9
            refine lv_iconst (v := (0 : Int32)) hx hb dX3_isEnd_31 (by decide) ?_
            rw [hQQ]
            exact W.zret (ty := .boolean) hx hb hr (by decide) (fun t ht hW => ⟨_, rfl, h, ht⟩) t_nil dX3_isEnd_32
          · replace h := h.2 c9
            refine lv_iconst (v := (1 : Int32)) hx hb dX3_isEnd_27 (by decide) ?_
            refine lv_goto (tgt := 32) hx hb dX3_isEnd_28 (by decide) ?_
            rw [hQQ]
            exact W.zret (ty := .boolean) hx hb hr (by decide) (fun t ht hW => ⟨_, rfl, h, ht⟩) t_nil dX3_isEnd_32
