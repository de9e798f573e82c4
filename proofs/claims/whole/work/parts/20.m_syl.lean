set_option maxHeartbeats 4000000 in
set_option maxRecDepth 100000 in
theorem m_X5_has (l : Launch) (dC : Nat → ClassId) (dI : Nat → Nat → Nat) (cI cZ cJ : ClassId) (a1 : Int32) (post : Int32 → Prop) (h : w_X5_has post a1) : Met l yX5_has [.code yX5_has cX5_has 1 (some .boolean)] ({ frames := 0, cells := 0, slots := 0, locals := 0 } : Room) (va_Pc [.int a1] (fun U => va_P (dC, dI) vwC [] U.heap ∧ KK dC dI cI cZ cJ U)) (vp_Si post) 0 0 (fun _ => False) := by
  refine Met.ofW (cc := cX5_has) (maxL := 1) (ret := (some .boolean)) (by decide) rfl ?_
  intro p e s m args below meth c s₁ B hml hv
  obtain ⟨rfl, hP, hKK⟩ := hv
  have hK := hKK.1
  have hx := B.exec
  have hb := B.bytes
  have hr := B.returns
  have hts : ∀ w ∈ TG, w.before (List.toArray [.int a1]) s = true := hKK.ts
  have hown : s.vm.findClass RX5 = some m.cls := findClass_of_methodNamed B.named
  have hlocks := B.notSynchronized
  have hl := lv_entry ([.int a1]) (n := 1) (Nat.le_of_ble_eq_true rfl)
  rw [lg_entry_eq]
  generalize (lg_sl ([.int a1]) ++ List.replicate (1 - (lg_sl ([.int a1])).length) Slot.unset).toArray = ls at hl ⊢
  have hl : lv_has ls 1 [(0, .int a1)] := hl
  obtain ⟨QQ, hQQ⟩ : ∃ z, z = MQ below (vp_Si post) (List.toArray [.int a1]) s 0 0 (fun _ => False) := ⟨_, rfl⟩
  rw [← hQQ]
  refine lv_iload_n hx hb dX5_has_0 rfl (lv_at hl 0 rfl) ?_
  refine lv_ldc (v := (44032 : Int32)) hx hb hown (hts _ tw335) dX5_has_1 ?_
  refine lv_icmp_lt (tgt := 16) hx hb dX5_has_3 (by decide) (fun c9 => ?_) (fun c9 => ?_)
  · replace h := h.1 c9
    refine lv_iconst (v := (0 : Int32)) hx hb dX5_has_16 (by decide) ?_
    rw [hQQ]
    exact W.zret (ty := .boolean) hx hb hr (by decide) (fun t ht hW => ⟨_, rfl, h, ht⟩) t_nil dX5_has_17
  · replace h := h.2 c9
    refine lv_iload_n hx hb dX5_has_6 rfl (lv_at hl 0 rfl) ?_
    refine lv_ldc (v := (55203 : Int32)) hx hb hown (hts _ tw336) dX5_has_7 ?_
    refine lv_icmp_gt (tgt := 16) hx hb dX5_has_9 (by decide) (fun c9 => ?_) (fun c9 => ?_)
    · replace h := h.1 c9
      refine lv_iconst (v := (0 : Int32)) hx hb dX5_has_16 (by decide) ?_
      rw [hQQ]
      exact W.zret (ty := .boolean) hx hb hr (by decide) (fun t ht hW => ⟨_, rfl, h, ht⟩) t_nil dX5_has_17
    · replace h := h.2 c9
      refine lv_iconst (v := (1 : Int32)) hx hb dX5_has_12 (by decide) ?_
      refine lv_goto (tgt := 17) hx hb dX5_has_13 (by decide) ?_
      rw [hQQ]
      exact W.zret (ty := .boolean) hx hb hr (by decide) (fun t ht hW => ⟨_, rfl, h, ht⟩) t_nil dX5_has_17
set_option maxHeartbeats 4000000 in
set_option maxRecDepth 100000 in
theorem m_X5_hasTail (l : Launch) (dC : Nat → ClassId) (dI : Nat → Nat → Nat) (cI cZ cJ : ClassId) (a1 : Int32) (post : Int32 → Prop) (h : w_X5_hasTail post a1) : Met l yX5_hasTail [.code yX5_hasTail cX5_hasTail 1 (some .boolean)] ({ frames := 0, cells := 0, slots := 0, locals := 0 } : Room) (va_Pc [.int a1] (fun U => va_P (dC, dI) vwC [] U.heap ∧ KK dC dI cI cZ cJ U)) (vp_Si post) 0 0 (fun _ => False) := by
  refine Met.ofW (cc := cX5_hasTail) (maxL := 1) (ret := (some .boolean)) (by decide) rfl ?_
  intro p e s m args below meth c s₁ B hml hv
  obtain ⟨rfl, hP, hKK⟩ := hv
  have hK := hKK.1
  have hx := B.exec
  have hb := B.bytes
  have hr := B.returns
  have hts : ∀ w ∈ TG, w.before (List.toArray [.int a1]) s = true := hKK.ts
  have hown : s.vm.findClass RX5 = some m.cls := findClass_of_methodNamed B.named
  have hlocks := B.notSynchronized
  have hl := lv_entry ([.int a1]) (n := 1) (Nat.le_of_ble_eq_true rfl)
  rw [lg_entry_eq]
  generalize (lg_sl ([.int a1]) ++ List.replicate (1 - (lg_sl ([.int a1])).length) Slot.unset).toArray = ls at hl ⊢
  have hl : lv_has ls 1 [(0, .int a1)] := hl
  obtain ⟨QQ, hQQ⟩ : ∃ z, z = MQ below (vp_Si post) (List.toArray [.int a1]) s 0 0 (fun _ => False) := ⟨_, rfl⟩
  rw [← hQQ]
  refine lv_iload_n hx hb dX5_hasTail_0 rfl (lv_at hl 0 rfl) ?_
  refine lv_ldc (v := (44032 : Int32)) hx hb hown (hts _ tw335) dX5_hasTail_1 ?_
  refine lv_isub hx hb dX5_hasTail_3 ?_
  refine lv_bipush (v := (28 : Int32)) hx hb dX5_hasTail_4 (by decide) ?_
  refine lv_irem hx hb dX5_hasTail_6 (by decide) ?_
  refine lv_if_eq (tgt := 14) hx hb dX5_hasTail_7 (by decide) (fun c9 => ?_) (fun c9 => ?_)
  · replace h := h.1 c9
    refine lv_iconst (v := (0 : Int32)) hx hb dX5_hasTail_14 (by decide) ?_
    rw [hQQ]
    exact W.zret (ty := .boolean) hx hb hr (by decide) (fun t ht hW => ⟨_, rfl, h, ht⟩) t_nil dX5_hasTail_15
  · replace h := h.2 c9
    refine lv_iconst (v := (1 : Int32)) hx hb dX5_hasTail_10 (by decide) ?_
    refine lv_goto (tgt := 15) hx hb dX5_hasTail_11 (by decide) ?_
    rw [hQQ]
    exact W.zret (ty := .boolean) hx hb hr (by decide) (fun t ht hW => ⟨_, rfl, h, ht⟩) t_nil dX5_hasTail_15
set_option maxHeartbeats 4000000 in
set_option maxRecDepth 100000 in
theorem m_X5_withoutTail (l : Launch) (dC : Nat → ClassId) (dI : Nat → Nat → Nat) (cI cZ cJ : ClassId) (a1 : Int32) (post : Int32 → Prop) (h : w_X5_withoutTail post a1) : Met l yX5_withoutTail [.code yX5_withoutTail cX5_withoutTail 1 (some .int)] ({ frames := 0, cells := 0, slots := 0, locals := 0 } : Room) (va_Pc [.int a1] (fun U => va_P (dC, dI) vwC [] U.heap ∧ KK dC dI cI cZ cJ U)) (vp_Si post) 0 0 (fun _ => False) := by
  refine Met.ofW (cc := cX5_withoutTail) (maxL := 1) (ret := (some .int)) (by decide) rfl ?_
  intro p e s m args below meth c s₁ B hml hv
  obtain ⟨rfl, hP, hKK⟩ := hv
  have hK := hKK.1
  have hx := B.exec
  have hb := B.bytes
  have hr := B.returns
  have hts : ∀ w ∈ TG, w.before (List.toArray [.int a1]) s = true := hKK.ts
  have hown : s.vm.findClass RX5 = some m.cls := findClass_of_methodNamed B.named
  have hlocks := B.notSynchronized
  have hl := lv_entry ([.int a1]) (n := 1) (Nat.le_of_ble_eq_true rfl)
  rw [lg_entry_eq]
  generalize (lg_sl ([.int a1]) ++ List.replicate (1 - (lg_sl ([.int a1])).length) Slot.unset).toArray = ls at hl ⊢
  have hl : lv_has ls 1 [(0, .int a1)] := hl
  obtain ⟨QQ, hQQ⟩ : ∃ z, z = MQ below (vp_Si post) (List.toArray [.int a1]) s 0 0 (fun _ => False) := ⟨_, rfl⟩
  rw [← hQQ]
  refine lv_iload_n hx hb dX5_withoutTail_0 rfl (lv_at hl 0 rfl) ?_
  refine lv_iload_n hx hb dX5_withoutTail_1 rfl (lv_at hl 0 rfl) ?_
  refine lv_ldc (v := (44032 : Int32)) hx hb hown (hts _ tw335) dX5_withoutTail_2 ?_
  refine lv_isub hx hb dX5_withoutTail_4 ?_
  refine lv_bipush (v := (28 : Int32)) hx hb dX5_withoutTail_5 (by decide) ?_
  refine lv_irem hx hb dX5_withoutTail_7 (by decide) ?_
  refine lv_isub hx hb dX5_withoutTail_8 ?_
  rw [hQQ]
  exact W.iret hx hb hr (fun t ht hW => ⟨_, rfl, h, ht⟩) t_nil dX5_withoutTail_9
set_option maxHeartbeats 4000000 in
set_option maxRecDepth 100000 in
theorem m_X5_tail (l : Launch) (dC : Nat → ClassId) (dI : Nat → Nat → Nat) (cI cZ cJ : ClassId) (a1 : Int32) (post : Int32 → Prop) (h : w_X5_tail post a1) : Met l yX5_tail [.code yX5_tail cX5_tail 1 (some .int)] ({ frames := 0, cells := 0, slots := 0, locals := 0 } : Room) (va_Pc [.int a1] (fun U => va_P (dC, dI) vwC [] U.heap ∧ KK dC dI cI cZ cJ U)) (vp_Si post) 0 0 (fun _ => False) := by
  refine Met.ofW (cc := cX5_tail) (maxL := 1) (ret := (some .int)) (by decide) rfl ?_
  intro p e s m args below meth c s₁ B hml hv
  obtain ⟨rfl, hP, hKK⟩ := hv
  have hK := hKK.1
  have hx := B.exec
  have hb := B.bytes
  have hr := B.returns
  have hts : ∀ w ∈ TG, w.before (List.toArray [.int a1]) s = true := hKK.ts
  have hown : s.vm.findClass RX5 = some m.cls := findClass_of_methodNamed B.named
  have hlocks := B.notSynchronized
  have hl := lv_entry ([.int a1]) (n := 1) (Nat.le_of_ble_eq_true rfl)
  rw [lg_entry_eq]
  generalize (lg_sl ([.int a1]) ++ List.replicate (1 - (lg_sl ([.int a1])).length) Slot.unset).toArray = ls at hl ⊢
  have hl : lv_has ls 1 [(0, .int a1)] := hl
  obtain ⟨QQ, hQQ⟩ : ∃ z, z = MQ below (vp_Si post) (List.toArray [.int a1]) s 0 0 (fun _ => False) := ⟨_, rfl⟩
  rw [← hQQ]
  refine lv_sipush (v := (4519 : Int32)) hx hb dX5_tail_0 (by decide) ?_
  refine lv_iload_n hx hb dX5_tail_3 rfl (lv_at hl 0 rfl) ?_
  refine lv_ldc (v := (44032 : Int32)) hx hb hown (hts _ tw335) dX5_tail_4 ?_
  refine lv_isub hx hb dX5_tail_6 ?_
  refine lv_bipush (v := (28 : Int32)) hx hb dX5_tail_7 (by decide) ?_
  refine lv_irem hx hb dX5_tail_9 (by decide) ?_
  refine lv_iadd hx hb dX5_tail_10 ?_
  rw [hQQ]
  exact W.iret hx hb hr (fun t ht hW => ⟨_, rfl, h, ht⟩) t_nil dX5_tail_11
set_option maxHeartbeats 4000000 in
set_option maxRecDepth 100000 in
theorem m_X5_lead (l : Launch) (dC : Nat → ClassId) (dI : Nat → Nat → Nat) (cI cZ cJ : ClassId) (a1 : Int32) (post : Int32 → Prop) (h : w_X5_lead post a1) : Met l yX5_lead [.code yX5_lead cX5_lead 1 (some .int)] ({ frames := 0, cells := 0, slots := 0, locals := 0 } : Room) (va_Pc [.int a1] (fun U => va_P (dC, dI) vwC [] U.heap ∧ KK dC dI cI cZ cJ U)) (vp_Si post) 0 0 (fun _ => False) := by
  refine Met.ofW (cc := cX5_lead) (maxL := 1) (ret := (some .int)) (by decide) rfl ?_
  intro p e s m args below meth c s₁ B hml hv
  obtain ⟨rfl, hP, hKK⟩ := hv
  have hK := hKK.1
  have hx := B.exec
  have hb := B.bytes
  have hr := B.returns
  have hts : ∀ w ∈ TG, w.before (List.toArray [.int a1]) s = true := hKK.ts
  have hown : s.vm.findClass RX5 = some m.cls := findClass_of_methodNamed B.named
  have hlocks := B.notSynchronized
  have hl := lv_entry ([.int a1]) (n := 1) (Nat.le_of_ble_eq_true rfl)
  rw [lg_entry_eq]
  generalize (lg_sl ([.int a1]) ++ List.replicate (1 - (lg_sl ([.int a1])).length) Slot.unset).toArray = ls at hl ⊢
  have hl : lv_has ls 1 [(0, .int a1)] := hl
  obtain ⟨QQ, hQQ⟩ : ∃ z, z = MQ below (vp_Si post) (List.toArray [.int a1]) s 0 0 (fun _ => False) := ⟨_, rfl⟩
  rw [← hQQ]
  refine lv_sipush (v := (4352 : Int32)) hx hb dX5_lead_0 (by decide) ?_
  refine lv_iload_n hx hb dX5_lead_3 rfl (lv_at hl 0 rfl) ?_
  refine lv_ldc (v := (44032 : Int32)) hx hb hown (hts _ tw335) dX5_lead_4 ?_
  refine lv_isub hx hb dX5_lead_6 ?_
  refine lv_sipush (v := (588 : Int32)) hx hb dX5_lead_7 (by decide) ?_
  refine lv_idiv hx hb dX5_lead_10 (by decide) ?_
  refine lv_iadd hx hb dX5_lead_11 ?_
  rw [hQQ]
  exact W.iret hx hb hr (fun t ht hW => ⟨_, rfl, h, ht⟩) t_nil dX5_lead_12
set_option maxHeartbeats 4000000 in
set_option maxRecDepth 100000 in
theorem m_X5_vowel (l : Launch) (dC : Nat → ClassId) (dI : Nat → Nat → Nat) (cI cZ cJ : ClassId) (a1 : Int32) (post : Int32 → Prop) (h : w_X5_vowel post a1) : Met l yX5_vowel [.code yX5_vowel cX5_vowel 1 (some .int)] ({ frames := 0, cells := 0, slots := 0, locals := 0 } : Room) (va_Pc [.int a1] (fun U => va_P (dC, dI) vwC [] U.heap ∧ KK dC dI cI cZ cJ U)) (vp_Si post) 0 0 (fun _ => False) := by
  refine Met.ofW (cc := cX5_vowel) (maxL := 1) (ret := (some .int)) (by decide) rfl ?_
  intro p e s m args below meth c s₁ B hml hv
  obtain ⟨rfl, hP, hKK⟩ := hv
  have hK := hKK.1
  have hx := B.exec
  have hb := B.bytes
  have hr := B.returns
  have hts : ∀ w ∈ TG, w.before (List.toArray [.int a1]) s = true := hKK.ts
  have hown : s.vm.findClass RX5 = some m.cls := findClass_of_methodNamed B.named
  have hlocks := B.notSynchronized
  have hl := lv_entry ([.int a1]) (n := 1) (Nat.le_of_ble_eq_true rfl)
  rw [lg_entry_eq]
  generalize (lg_sl ([.int a1]) ++ List.replicate (1 - (lg_sl ([.int a1])).length) Slot.unset).toArray = ls at hl ⊢
  have hl : lv_has ls 1 [(0, .int a1)] := hl
  obtain ⟨QQ, hQQ⟩ : ∃ z, z = MQ below (vp_Si post) (List.toArray [.int a1]) s 0 0 (fun _ => False) := ⟨_, rfl⟩
  rw [← hQQ]
  refine lv_sipush (v := (4449 : Int32)) hx hb dX5_vowel_0 (by decide) ?_
  refine lv_iload_n hx hb dX5_vowel_3 rfl (lv_at hl 0 rfl) ?_
  refine lv_ldc (v := (44032 : Int32)) hx hb hown (hts _ tw335) dX5_vowel_4 ?_
  refine lv_isub hx hb dX5_vowel_6 ?_
  refine lv_bipush (v := (28 : Int32)) hx hb dX5_vowel_7 (by decide) ?_
  refine lv_idiv hx hb dX5_vowel_9 (by decide) ?_
  refine lv_bipush (v := (21 : Int32)) hx hb dX5_vowel_10 (by decide) ?_
  refine lv_irem hx hb dX5_vowel_12 (by decide) ?_
  refine lv_iadd hx hb dX5_vowel_13 ?_
  rw [hQQ]
  exact W.iret hx hb hr (fun t ht hW => ⟨_, rfl, h, ht⟩) t_nil dX5_vowel_14
set_option maxHeartbeats 4000000 in
set_option maxRecDepth 100000 in
theorem m_X5_whole (l : Launch) (dC : Nat → ClassId) (dI : Nat → Nat → Nat) (cI cZ cJ : ClassId) (a1 : Int32) (a2 : Int32) (post : Int32 → Prop) (h : w_X5_whole post a1 a2) : Met l yX5_whole [.code yX5_whole cX5_whole 5 (some .int)] ({ frames := 1, cells := 0, slots := 0, locals := 20 } : Room) (va_Pc [.int a1, .int a2] (fun U => va_P (dC, dI) vwC [] U.heap ∧ KK dC dI cI cZ cJ U)) (vp_Si post) 0 0 (fun _ => False) := by
  refine Met.ofW (cc := cX5_whole) (maxL := 5) (ret := (some .int)) (by decide) rfl ?_
  intro p e s m args below meth c s₁ B hml hv
  obtain ⟨rfl, hP, hKK⟩ := hv
  have hK := hKK.1
  have hx := B.exec
  have hb := B.bytes
  have hr := B.returns
  have hts : ∀ w ∈ TG, w.before (List.toArray [.int a1, .int a2]) s = true := hKK.ts
  have hown : s.vm.findClass RX5 = some m.cls := findClass_of_methodNamed B.named
  have hlocks := B.notSynchronized
  have hl := lv_entry ([.int a1, .int a2]) (n := 5) (Nat.le_of_ble_eq_true rfl)
  rw [lg_entry_eq]
  generalize (lg_sl ([.int a1, .int a2]) ++ List.replicate (5 - (lg_sl ([.int a1, .int a2])).length) Slot.unset).toArray = ls at hl ⊢
  have hl : lv_has ls 5 [(0, .int a1), (1, .int a2)] := hl
  obtain ⟨QQ, hQQ⟩ : ∃ z, z = MQ below (vp_Si post) (List.toArray [.int a1, .int a2]) s 0 0 (fun _ => False) := ⟨_, rfl⟩
  rw [← hQQ]
  have P45 : w_X5_whole_45 post a1 a2 → ∀ (ls : Array Slot), lv_has ls 5 [(0, .int a1), (1, .int a2)] → W p l e (headSpec [.code yX5_whole cX5_whole 5 (some .int)] ({ frames := 1, cells := 0, slots := 0, locals := 20 } : Room)).room s m (List.toArray [.int a1, .int a2]) below meth c s.heap [] 0 0 QQ (F0 m 45 ls []) := by
    intro  h ls hl
    refine lv_iload_n hx hb dX5_whole_45 rfl (lv_at hl 1 rfl) ?_
    refine lv_sipush (v := (4519 : Int32)) hx hb dX5_whole_46 (by decide) ?_
    refine lv_isub hx hb dX5_whole_49 ?_
    refine lv_istore (lv' := [(4, .int (a2 - (4519 : Int32))), (0, .int a1), (1, .int a2)]) hx hb dX5_whole_50 hl (by decide) rfl (fun ls hl => ?_)
    refine lv_iload_n hx hb dX5_whole_52 rfl (lv_at hl 1 rfl) ?_
    have hPc := hP.sub (ws' := []) [] rfl
    refine na_calls (va_runS (As := [.int a1]) (rest := []) ⟨hx, hb, hml, hown, hts⟩ (m_X5_has l dC dI cI cZ cJ a1 _ h) (cwS 1 hts (na_gS tw360 tw333 tw13 tw334 rfl) rfl rfl rfl (by decide +kernel) ⟨Nat.le_of_ble_eq_true rfl, Nat.le_of_ble_eq_true rfl⟩) ⟨fun a U g mk q => by obtain ⟨q0, qP, qK⟩ := q; exact ⟨q0, qP, qK.same rfl⟩, fun U hU hW => ⟨rfl, by rw [hU]; exact hPc, hKK.warm hW⟩⟩ rfl rfl hl.1 rfl (lv_room (Nat.le_of_ble_eq_true rfl)) dX5_whole_53 ⟨Nat.zero_le _, Nat.zero_le _⟩) (fun r_53 h => ?_)
    refine lv_if_eq (tgt := 83) hx hb dX5_whole_56 (by decide) (fun c9 => ?_) (fun c9 => ?_)
    · replace h := h.1 c9
      refine lv_iconst (v := (-1 : Int32)) hx hb dX5_whole_83 (by decide) ?_
      rw [hQQ]
      exact W.iret hx hb hr (fun t ht hW => ⟨_, rfl, h, ht⟩) t_nil dX5_whole_84
    · replace h := h.2 c9
      refine lv_iload_n hx hb dX5_whole_59 rfl (lv_at hl 1 rfl) ?_
      have hPc := hP.sub (ws' := []) [] rfl
      refine na_calls (va_runS (As := [.int a1]) (rest := []) ⟨hx, hb, hml, hown, hts⟩ (m_X5_hasTail l dC dI cI cZ cJ a1 _ h) (cwS 1 hts (na_gS tw361 tw362 tw13 tw363 rfl) rfl rfl rfl (by decide +kernel) ⟨Nat.le_of_ble_eq_true rfl, Nat.le_of_ble_eq_true rfl⟩) ⟨fun a U g mk q => by obtain ⟨q0, qP, qK⟩ := q; exact ⟨q0, qP, qK.same rfl⟩, fun U hU hW => ⟨rfl, by rw [hU]; exact hPc, hKK.warm hW⟩⟩ rfl rfl hl.1 rfl (lv_room (Nat.le_of_ble_eq_true rfl)) dX5_whole_60 ⟨Nat.zero_le _, Nat.zero_le _⟩) (fun r_60 h => ?_)
      refine lv_if_ne (tgt := 83) hx hb dX5_whole_63 (by decide) (fun c9 => ?_) (fun c9 => ?_)
      · replace h := h.1 c9
        refine lv_iconst (v := (-1 : Int32)) hx hb dX5_whole_83 (by decide) ?_
        rw [hQQ]
        exact W.iret hx hb hr (fun t ht hW => ⟨_, rfl, h, ht⟩) t_nil dX5_whole_84
      · replace h := h.2 c9
        refine lv_iload hx hb dX5_whole_66 (lv_at hl 0 rfl) ?_
        refine lv_if_le (tgt := 83) hx hb dX5_whole_68 (by decide) (fun c9 => ?_) (fun c9 => ?_)
        · replace h := h.1 c9
          refine lv_iconst (v := (-1 : Int32)) hx hb dX5_whole_83 (by decide) ?_
          rw [hQQ]
          exact W.iret hx hb hr (fun t ht hW => ⟨_, rfl, h, ht⟩) t_nil dX5_whole_84
        · replace h := h.2 c9
          refine lv_iload hx hb dX5_whole_71 (lv_at hl 0 rfl) ?_
          refine lv_bipush (v := (28 : Int32)) hx hb dX5_whole_73 (by decide) ?_
          refine lv_icmp_ge (tgt := 83) hx hb dX5_whole_75 (by decide) (fun c9 => ?_) (fun c9 => ?_)
          · replace h := h.1 c9
            refine lv_iconst (v := (-1 : Int32)) hx hb dX5_whole_83 (by decide) ?_
            rw [hQQ]
            exact W.iret hx hb hr (fun t ht hW => ⟨_, rfl, h, ht⟩) t_nil dX5_whole_84
          · replace h := h.2 c9
            refine lv_iload_n hx hb dX5_whole_78 rfl (lv_at hl 1 rfl) ?_
            refine lv_iload hx hb dX5_whole_79 (lv_at hl 0 rfl) ?_
            refine lv_iadd hx hb dX5_whole_81 ?_
            rw [hQQ]
            exact W.iret hx hb hr (fun t ht hW => ⟨_, rfl, h, ht⟩) t_nil dX5_whole_82
  refine lv_iload_n hx hb dX5_whole_0 rfl (lv_at hl 0 rfl) ?_
  refine lv_sipush (v := (4352 : Int32)) hx hb dX5_whole_1 (by decide) ?_
  refine lv_isub hx hb dX5_whole_4 ?_
  refine lv_istore_n (lv' := [(2, .int (a1 - (4352 : Int32))), (0, .int a1), (1, .int a2)]) hx hb dX5_whole_5 rfl hl (by decide) rfl (fun ls hl => ?_)
  refine lv_iload_n hx hb dX5_whole_6 rfl (lv_at hl 2 rfl) ?_
  refine lv_sipush (v := (4449 : Int32)) hx hb dX5_whole_7 (by decide) ?_
  refine lv_isub hx hb dX5_whole_10 ?_
  refine lv_istore_n (lv' := [(3, .int (a2 - (4449 : Int32))), (2, .int (a1 - (4352 : Int32))), (0, .int a1), (1, .int a2)]) hx hb dX5_whole_11 rfl hl (by decide) rfl (fun ls hl => ?_)
  refine lv_iload_n hx hb dX5_whole_12 rfl (lv_at hl 1 rfl) ?_
  refine lv_if_lt (tgt := 45) hx hb dX5_whole_13 (by decide) (fun c9 => ?_) (fun c9 => ?_)
  · replace h := h.1 c9
    refine P45 h ls (lv_sub hl [2, 3] rfl)
  · replace h := h.2 c9
    refine lv_iload_n hx hb dX5_whole_16 rfl (lv_at hl 1 rfl) ?_
    refine lv_bipush (v := (19 : Int32)) hx hb dX5_whole_17 (by decide) ?_
    refine lv_icmp_ge (tgt := 45) hx hb dX5_whole_19 (by decide) (fun c9 => ?_) (fun c9 => ?_)
    · replace h := h.1 c9
      refine P45 h ls (lv_sub hl [2, 3] rfl)
    · replace h := h.2 c9
      refine lv_iload_n hx hb dX5_whole_22 rfl (lv_at hl 0 rfl) ?_
      refine lv_if_lt (tgt := 45) hx hb dX5_whole_23 (by decide) (fun c9 => ?_) (fun c9 => ?_)
      · replace h := h.1 c9
        refine P45 h ls (lv_sub hl [2, 3] rfl)
      · replace h := h.2 c9
        refine lv_iload_n hx hb dX5_whole_26 rfl (lv_at hl 0 rfl) ?_
        refine lv_bipush (v := (21 : Int32)) hx hb dX5_whole_27 (by decide) ?_
        refine lv_icmp_ge (tgt := 45) hx hb dX5_whole_29 (by decide) (fun c9 => ?_) (fun c9 => ?_)
        · replace h := h.1 c9
          refine P45 h ls (lv_sub hl [2, 3] rfl)
        · replace h := h.2 c9
          refine lv_ldc (v := (44032 : Int32)) hx hb hown (hts _ tw335) dX5_whole_32 ?_
          refine lv_iload_n hx hb dX5_whole_34 rfl (lv_at hl 1 rfl) ?_
          refine lv_bipush (v := (21 : Int32)) hx hb dX5_whole_35 (by decide) ?_
          refine lv_imul hx hb dX5_whole_37 ?_
          refine lv_iload_n hx hb dX5_whole_38 rfl (lv_at hl 0 rfl) ?_
          refine lv_iadd hx hb dX5_whole_39 ?_
          refine lv_bipush (v := (28 : Int32)) hx hb dX5_whole_40 (by decide) ?_
          refine lv_imul hx hb dX5_whole_42 ?_
          refine lv_iadd hx hb dX5_whole_43 ?_
          rw [hQQ]
          exact W.iret hx hb hr (fun t ht hW => ⟨_, rfl, h, ht⟩) t_nil dX5_whole_44
