set_option maxHeartbeats 4000000 in
set_option maxRecDepth 100000 in
theorem m_X7_thrown (l : Launch) (dC : Nat → ClassId) (dI : Nat → Nat → Nat) (cI cZ cJ : ClassId) (q_this : Nat) (q_markFirst : Nat) (q_markLast : Nat) (q_markClass : Nat) (q_kindFirst : Nat) (q_kindLast : Nat) (q_kindOf : Nat) (q_owners : Nat) (q_isLoose : Nat) (q_parts : Nat) (q_out : Nat) (q_text : Nat) (q_work : Nat) (q_ranks : Nat) (q_form : Nat) (q_waits : Nat) (q_met : Nat) (v_fault : Int32) (v_marks : Int32) (v_kinds : Int32) (v_rows : Int32) (v_excluded : Int32) (v_size : Int32) (v_many : Int32) (v_shown : Int32) (v_wasAsked : Int32) (v_waiting : Int32) (v_markFirst : Nat → Int32) (v_markLast : Nat → Int32) (v_markClass : Nat → Int32) (v_kindFirst : Nat → Int32) (v_kindLast : Nat → Int32) (v_kindOf : Nat → Int32) (v_owners : Nat → Int32) (v_isLoose : Nat → Int32) (v_parts : Nat → Int32) (v_out : Nat → Int32) (v_text : Nat → Int32) (v_work : Nat → Int32) (v_ranks : Nat → Int32) (v_form : Nat → Int32) (v_waits : Nat → Int32) (v_met : Nat → Int32) (post : Int32 → Prop) (h : w_X7_thrown post v_fault) : Met l yX7_thrown [.code yX7_thrown cX7_thrown 1 (some .int)] ({ frames := 0, cells := 0, slots := 0, locals := 0 } : Room) (va_Pc [.ref q_this] (fun U => va_P (dC, dI) vwC [(q_this, .inr (6, [.int v_fault, .int v_marks, .ref q_markFirst, .ref q_markLast, .ref q_markClass, .int v_kinds, .ref q_kindFirst, .ref q_kindLast, .ref q_kindOf, .int v_rows, .ref q_owners, .ref q_isLoose, .ref q_parts, .int v_excluded, .ref q_out, .int v_size, .ref q_text, .int v_many, .ref q_work, .ref q_ranks, .int v_shown, .int v_wasAsked, .ref q_form, .int v_waiting, .ref q_waits, .ref q_met])), (q_markFirst, .inl (cI, 60, .inl v_markFirst)), (q_markLast, .inl (cI, 60, .inl v_markLast)), (q_markClass, .inl (cI, 60, .inl v_markClass)), (q_kindFirst, .inl (cI, 60, .inl v_kindFirst)), (q_kindLast, .inl (cI, 60, .inl v_kindLast)), (q_kindOf, .inl (cI, 60, .inl v_kindOf)), (q_owners, .inl (cI, 120, .inl v_owners)), (q_isLoose, .inl (cZ, 120, .inl v_isLoose)), (q_parts, .inl (cI, 360, .inl v_parts)), (q_out, .inl (cI, 60, .inl v_out)), (q_text, .inl (cI, 1000, .inl v_text)), (q_work, .inl (cI, 2010, .inl v_work)), (q_ranks, .inl (cI, 2010, .inl v_ranks)), (q_form, .inl (cI, 2000, .inl v_form)), (q_waits, .inl (cI, 1000, .inl v_waits)), (q_met, .inl (cZ, 120, .inl v_met))] U.heap ∧ KK dC dI cI cZ cJ U)) (vp_Si post) 0 0 (fun _ => False) := by
  refine Met.ofW (cc := cX7_thrown) (maxL := 1) (ret := (some .int)) (by decide) rfl ?_
  intro p e s m args below meth c s₁ B hml hv
  obtain ⟨rfl, hP, hKK⟩ := hv
  have hK := hKK.1
  have hx := B.exec
  have hb := B.bytes
  have hr := B.returns
  have hts : ∀ w ∈ TG, w.before (List.toArray [.ref q_this]) s = true := hKK.ts
  have hown : s.vm.findClass RX7 = some m.cls := findClass_of_methodNamed B.named
  have hlocks := B.notSynchronized
  have hl := lv_entry ([.ref q_this]) (n := 1) (Nat.le_of_ble_eq_true rfl)
  rw [lg_entry_eq]
  generalize (lg_sl ([.ref q_this]) ++ List.replicate (1 - (lg_sl ([.ref q_this])).length) Slot.unset).toArray = ls at hl ⊢
  have hl : lv_has ls 1 [(0, .ref q_this)] := hl
  obtain ⟨QQ, hQQ⟩ : ∃ z, z = MQ below (vp_Si post) (List.toArray [.ref q_this]) s 0 0 (fun _ => False) := ⟨_, rfl⟩
  rw [← hQQ]
  refine lv_aload_n hx hb dX7_thrown_0 rfl (lv_at hl 0 rfl) ?_
  refine va_get (D := (dC, dI)) (ci := 6) (v := .int v_fault) (C := RX7) (T := TX7) (N := 26) hx hb hts inX7 hown hK hP 0 rfl rfl 0 (by decide) (hts _ tw578) (fun _ h9 => h9) rfl dX7_thrown_1 ?_
  rw [hQQ]
  exact W.iret hx hb hr (fun t ht hW => ⟨_, rfl, h, ht⟩) t_nil dX7_thrown_4
set_option maxHeartbeats 4000000 in
set_option maxRecDepth 100000 in
theorem m_X7_refused (l : Launch) (dC : Nat → ClassId) (dI : Nat → Nat → Nat) (cI cZ cJ : ClassId) (q_this : Nat) (q_markFirst : Nat) (q_markLast : Nat) (q_markClass : Nat) (q_kindFirst : Nat) (q_kindLast : Nat) (q_kindOf : Nat) (q_owners : Nat) (q_isLoose : Nat) (q_parts : Nat) (q_out : Nat) (q_text : Nat) (q_work : Nat) (q_ranks : Nat) (q_form : Nat) (q_waits : Nat) (q_met : Nat) (v_fault : Int32) (v_marks : Int32) (v_kinds : Int32) (v_rows : Int32) (v_excluded : Int32) (v_size : Int32) (v_many : Int32) (v_shown : Int32) (v_wasAsked : Int32) (v_waiting : Int32) (v_markFirst : Nat → Int32) (v_markLast : Nat → Int32) (v_markClass : Nat → Int32) (v_kindFirst : Nat → Int32) (v_kindLast : Nat → Int32) (v_kindOf : Nat → Int32) (v_owners : Nat → Int32) (v_isLoose : Nat → Int32) (v_parts : Nat → Int32) (v_out : Nat → Int32) (v_text : Nat → Int32) (v_work : Nat → Int32) (v_ranks : Nat → Int32) (v_form : Nat → Int32) (v_waits : Nat → Int32) (v_met : Nat → Int32) (a1 : Int32) (sz : Nat) (post : Int32 → Int32 → Prop) (h : w_X7_refused post a1) : Met l yX7_refused [.code yX7_refused cX7_refused 2 (some .boolean)] ({ frames := 0, cells := 0, slots := 0, locals := 0 } : Room) (va_Pc [.ref q_this, .int a1] (fun U => U.heap.size = sz ∧ va_P (dC, dI) vwC [(q_this, .inr (6, [.int v_fault, .int v_marks, .ref q_markFirst, .ref q_markLast, .ref q_markClass, .int v_kinds, .ref q_kindFirst, .ref q_kindLast, .ref q_kindOf, .int v_rows, .ref q_owners, .ref q_isLoose, .ref q_parts, .int v_excluded, .ref q_out, .int v_size, .ref q_text, .int v_many, .ref q_work, .ref q_ranks, .int v_shown, .int v_wasAsked, .ref q_form, .int v_waiting, .ref q_waits, .ref q_met])), (q_markFirst, .inl (cI, 60, .inl v_markFirst)), (q_markLast, .inl (cI, 60, .inl v_markLast)), (q_markClass, .inl (cI, 60, .inl v_markClass)), (q_kindFirst, .inl (cI, 60, .inl v_kindFirst)), (q_kindLast, .inl (cI, 60, .inl v_kindLast)), (q_kindOf, .inl (cI, 60, .inl v_kindOf)), (q_owners, .inl (cI, 120, .inl v_owners)), (q_isLoose, .inl (cZ, 120, .inl v_isLoose)), (q_parts, .inl (cI, 360, .inl v_parts)), (q_out, .inl (cI, 60, .inl v_out)), (q_text, .inl (cI, 1000, .inl v_text)), (q_work, .inl (cI, 2010, .inl v_work)), (q_ranks, .inl (cI, 2010, .inl v_ranks)), (q_form, .inl (cI, 2000, .inl v_form)), (q_waits, .inl (cI, 1000, .inl v_waits)), (q_met, .inl (cZ, 120, .inl v_met))] U.heap ∧ KK dC dI cI cZ cJ U ∧ va_D (fun _ => True) [(q_this, .inr (6, [.int v_fault, .int v_marks, .ref q_markFirst, .ref q_markLast, .ref q_markClass, .int v_kinds, .ref q_kindFirst, .ref q_kindLast, .ref q_kindOf, .int v_rows, .ref q_owners, .ref q_isLoose, .ref q_parts, .int v_excluded, .ref q_out, .int v_size, .ref q_text, .int v_many, .ref q_work, .ref q_ranks, .int v_shown, .int v_wasAsked, .ref q_form, .int v_waiting, .ref q_waits, .ref q_met])), (q_markFirst, .inl (cI, 60, .inl v_markFirst)), (q_markLast, .inl (cI, 60, .inl v_markLast)), (q_markClass, .inl (cI, 60, .inl v_markClass)), (q_kindFirst, .inl (cI, 60, .inl v_kindFirst)), (q_kindLast, .inl (cI, 60, .inl v_kindLast)), (q_kindOf, .inl (cI, 60, .inl v_kindOf)), (q_owners, .inl (cI, 120, .inl v_owners)), (q_isLoose, .inl (cZ, 120, .inl v_isLoose)), (q_parts, .inl (cI, 360, .inl v_parts)), (q_out, .inl (cI, 60, .inl v_out)), (q_text, .inl (cI, 1000, .inl v_text)), (q_work, .inl (cI, 2010, .inl v_work)), (q_ranks, .inl (cI, 2010, .inl v_ranks)), (q_form, .inl (cI, 2000, .inl v_form)), (q_waits, .inl (cI, 1000, .inl v_waits)), (q_met, .inl (cZ, 120, .inl v_met))])) (va_Qi (fun (r : Int32) (u : Int32) => post r u) (fun (u : Int32) (t : State) => va_P (dC, dI) vwC [(q_this, .inr (6, [.int u, .int v_marks, .ref q_markFirst, .ref q_markLast, .ref q_markClass, .int v_kinds, .ref q_kindFirst, .ref q_kindLast, .ref q_kindOf, .int v_rows, .ref q_owners, .ref q_isLoose, .ref q_parts, .int v_excluded, .ref q_out, .int v_size, .ref q_text, .int v_many, .ref q_work, .ref q_ranks, .int v_shown, .int v_wasAsked, .ref q_form, .int v_waiting, .ref q_waits, .ref q_met])), (q_markFirst, .inl (cI, 60, .inl v_markFirst)), (q_markLast, .inl (cI, 60, .inl v_markLast)), (q_markClass, .inl (cI, 60, .inl v_markClass)), (q_kindFirst, .inl (cI, 60, .inl v_kindFirst)), (q_kindLast, .inl (cI, 60, .inl v_kindLast)), (q_kindOf, .inl (cI, 60, .inl v_kindOf)), (q_owners, .inl (cI, 120, .inl v_owners)), (q_isLoose, .inl (cZ, 120, .inl v_isLoose)), (q_parts, .inl (cI, 360, .inl v_parts)), (q_out, .inl (cI, 60, .inl v_out)), (q_text, .inl (cI, 1000, .inl v_text)), (q_work, .inl (cI, 2010, .inl v_work)), (q_ranks, .inl (cI, 2010, .inl v_ranks)), (q_form, .inl (cI, 2000, .inl v_form)), (q_waits, .inl (cI, 1000, .inl v_waits)), (q_met, .inl (cZ, 120, .inl v_met))] t.heap ∧ va_D (va_A [(q_this, .inr (6, [.int v_fault, .int v_marks, .ref q_markFirst, .ref q_markLast, .ref q_markClass, .int v_kinds, .ref q_kindFirst, .ref q_kindLast, .ref q_kindOf, .int v_rows, .ref q_owners, .ref q_isLoose, .ref q_parts, .int v_excluded, .ref q_out, .int v_size, .ref q_text, .int v_many, .ref q_work, .ref q_ranks, .int v_shown, .int v_wasAsked, .ref q_form, .int v_waiting, .ref q_waits, .ref q_met])), (q_markFirst, .inl (cI, 60, .inl v_markFirst)), (q_markLast, .inl (cI, 60, .inl v_markLast)), (q_markClass, .inl (cI, 60, .inl v_markClass)), (q_kindFirst, .inl (cI, 60, .inl v_kindFirst)), (q_kindLast, .inl (cI, 60, .inl v_kindLast)), (q_kindOf, .inl (cI, 60, .inl v_kindOf)), (q_owners, .inl (cI, 120, .inl v_owners)), (q_isLoose, .inl (cZ, 120, .inl v_isLoose)), (q_parts, .inl (cI, 360, .inl v_parts)), (q_out, .inl (cI, 60, .inl v_out)), (q_text, .inl (cI, 1000, .inl v_text)), (q_work, .inl (cI, 2010, .inl v_work)), (q_ranks, .inl (cI, 2010, .inl v_ranks)), (q_form, .inl (cI, 2000, .inl v_form)), (q_waits, .inl (cI, 1000, .inl v_waits)), (q_met, .inl (cZ, 120, .inl v_met))] sz) [(q_this, .inr (6, [.int u, .int v_marks, .ref q_markFirst, .ref q_markLast, .ref q_markClass, .int v_kinds, .ref q_kindFirst, .ref q_kindLast, .ref q_kindOf, .int v_rows, .ref q_owners, .ref q_isLoose, .ref q_parts, .int v_excluded, .ref q_out, .int v_size, .ref q_text, .int v_many, .ref q_work, .ref q_ranks, .int v_shown, .int v_wasAsked, .ref q_form, .int v_waiting, .ref q_waits, .ref q_met])), (q_markFirst, .inl (cI, 60, .inl v_markFirst)), (q_markLast, .inl (cI, 60, .inl v_markLast)), (q_markClass, .inl (cI, 60, .inl v_markClass)), (q_kindFirst, .inl (cI, 60, .inl v_kindFirst)), (q_kindLast, .inl (cI, 60, .inl v_kindLast)), (q_kindOf, .inl (cI, 60, .inl v_kindOf)), (q_owners, .inl (cI, 120, .inl v_owners)), (q_isLoose, .inl (cZ, 120, .inl v_isLoose)), (q_parts, .inl (cI, 360, .inl v_parts)), (q_out, .inl (cI, 60, .inl v_out)), (q_text, .inl (cI, 1000, .inl v_text)), (q_work, .inl (cI, 2010, .inl v_work)), (q_ranks, .inl (cI, 2010, .inl v_ranks)), (q_form, .inl (cI, 2000, .inl v_form)), (q_waits, .inl (cI, 1000, .inl v_waits)), (q_met, .inl (cZ, 120, .inl v_met))]) (va_A [(q_this, .inr (6, [.int v_fault, .int v_marks, .ref q_markFirst, .ref q_markLast, .ref q_markClass, .int v_kinds, .ref q_kindFirst, .ref q_kindLast, .ref q_kindOf, .int v_rows, .ref q_owners, .ref q_isLoose, .ref q_parts, .int v_excluded, .ref q_out, .int v_size, .ref q_text, .int v_many, .ref q_work, .ref q_ranks, .int v_shown, .int v_wasAsked, .ref q_form, .int v_waiting, .ref q_waits, .ref q_met])), (q_markFirst, .inl (cI, 60, .inl v_markFirst)), (q_markLast, .inl (cI, 60, .inl v_markLast)), (q_markClass, .inl (cI, 60, .inl v_markClass)), (q_kindFirst, .inl (cI, 60, .inl v_kindFirst)), (q_kindLast, .inl (cI, 60, .inl v_kindLast)), (q_kindOf, .inl (cI, 60, .inl v_kindOf)), (q_owners, .inl (cI, 120, .inl v_owners)), (q_isLoose, .inl (cZ, 120, .inl v_isLoose)), (q_parts, .inl (cI, 360, .inl v_parts)), (q_out, .inl (cI, 60, .inl v_out)), (q_text, .inl (cI, 1000, .inl v_text)), (q_work, .inl (cI, 2010, .inl v_work)), (q_ranks, .inl (cI, 2010, .inl v_ranks)), (q_form, .inl (cI, 2000, .inl v_form)), (q_waits, .inl (cI, 1000, .inl v_waits)), (q_met, .inl (cZ, 120, .inl v_met))] sz)) 0 0 (va_A [(q_this, .inr (6, [.int v_fault, .int v_marks, .ref q_markFirst, .ref q_markLast, .ref q_markClass, .int v_kinds, .ref q_kindFirst, .ref q_kindLast, .ref q_kindOf, .int v_rows, .ref q_owners, .ref q_isLoose, .ref q_parts, .int v_excluded, .ref q_out, .int v_size, .ref q_text, .int v_many, .ref q_work, .ref q_ranks, .int v_shown, .int v_wasAsked, .ref q_form, .int v_waiting, .ref q_waits, .ref q_met])), (q_markFirst, .inl (cI, 60, .inl v_markFirst)), (q_markLast, .inl (cI, 60, .inl v_markLast)), (q_markClass, .inl (cI, 60, .inl v_markClass)), (q_kindFirst, .inl (cI, 60, .inl v_kindFirst)), (q_kindLast, .inl (cI, 60, .inl v_kindLast)), (q_kindOf, .inl (cI, 60, .inl v_kindOf)), (q_owners, .inl (cI, 120, .inl v_owners)), (q_isLoose, .inl (cZ, 120, .inl v_isLoose)), (q_parts, .inl (cI, 360, .inl v_parts)), (q_out, .inl (cI, 60, .inl v_out)), (q_text, .inl (cI, 1000, .inl v_text)), (q_work, .inl (cI, 2010, .inl v_work)), (q_ranks, .inl (cI, 2010, .inl v_ranks)), (q_form, .inl (cI, 2000, .inl v_form)), (q_waits, .inl (cI, 1000, .inl v_waits)), (q_met, .inl (cZ, 120, .inl v_met))] sz) := by
  refine Met.ofW (cc := cX7_refused) (maxL := 2) (ret := (some .boolean)) (by decide) rfl ?_
  intro p e s m args below meth c s₁ B hml hv
  obtain ⟨rfl, hsz, hP, hKK, hD0⟩ := hv
  have hK := hKK.1
  have hx := B.exec
  have hb := B.bytes
  have hr := B.returns
  have hts : ∀ w ∈ TG, w.before (List.toArray [.ref q_this, .int a1]) s = true := hKK.ts
  have hown : s.vm.findClass RX7 = some m.cls := findClass_of_methodNamed B.named
  have hlocks := B.notSynchronized
  subst hsz
  have hD := hD0.self (sz := s.heap.size)
  generalize hAe : va_A [(q_this, .inr (6, [.int v_fault, .int v_marks, .ref q_markFirst, .ref q_markLast, .ref q_markClass, .int v_kinds, .ref q_kindFirst, .ref q_kindLast, .ref q_kindOf, .int v_rows, .ref q_owners, .ref q_isLoose, .ref q_parts, .int v_excluded, .ref q_out, .int v_size, .ref q_text, .int v_many, .ref q_work, .ref q_ranks, .int v_shown, .int v_wasAsked, .ref q_form, .int v_waiting, .ref q_waits, .ref q_met])), (q_markFirst, .inl (cI, 60, .inl v_markFirst)), (q_markLast, .inl (cI, 60, .inl v_markLast)), (q_markClass, .inl (cI, 60, .inl v_markClass)), (q_kindFirst, .inl (cI, 60, .inl v_kindFirst)), (q_kindLast, .inl (cI, 60, .inl v_kindLast)), (q_kindOf, .inl (cI, 60, .inl v_kindOf)), (q_owners, .inl (cI, 120, .inl v_owners)), (q_isLoose, .inl (cZ, 120, .inl v_isLoose)), (q_parts, .inl (cI, 360, .inl v_parts)), (q_out, .inl (cI, 60, .inl v_out)), (q_text, .inl (cI, 1000, .inl v_text)), (q_work, .inl (cI, 2010, .inl v_work)), (q_ranks, .inl (cI, 2010, .inl v_ranks)), (q_form, .inl (cI, 2000, .inl v_form)), (q_waits, .inl (cI, 1000, .inl v_waits)), (q_met, .inl (cZ, 120, .inl v_met))] s.heap.size = A at hD ⊢
  have hA : ∀ q : Nat, s.heap.size ≤ q → A q := fun q h => by rw [← hAe]; exact Or.inr h
  have hS : va_S A s.heap s.heap [] := va_S.rf
  have hl := lv_entry ([.ref q_this, .int a1]) (n := 2) (Nat.le_of_ble_eq_true rfl)
  rw [lg_entry_eq]
  generalize (lg_sl ([.ref q_this, .int a1]) ++ List.replicate (2 - (lg_sl ([.ref q_this, .int a1])).length) Slot.unset).toArray = ls at hl ⊢
  have hl : lv_has ls 2 [(0, .ref q_this), (1, .int a1)] := hl
  obtain ⟨QQ, hQQ⟩ : ∃ z, z = MQ below (va_Qi (fun (r : Int32) (u : Int32) => post r u) (fun (u : Int32) (t : State) => va_P (dC, dI) vwC [(q_this, .inr (6, [.int u, .int v_marks, .ref q_markFirst, .ref q_markLast, .ref q_markClass, .int v_kinds, .ref q_kindFirst, .ref q_kindLast, .ref q_kindOf, .int v_rows, .ref q_owners, .ref q_isLoose, .ref q_parts, .int v_excluded, .ref q_out, .int v_size, .ref q_text, .int v_many, .ref q_work, .ref q_ranks, .int v_shown, .int v_wasAsked, .ref q_form, .int v_waiting, .ref q_waits, .ref q_met])), (q_markFirst, .inl (cI, 60, .inl v_markFirst)), (q_markLast, .inl (cI, 60, .inl v_markLast)), (q_markClass, .inl (cI, 60, .inl v_markClass)), (q_kindFirst, .inl (cI, 60, .inl v_kindFirst)), (q_kindLast, .inl (cI, 60, .inl v_kindLast)), (q_kindOf, .inl (cI, 60, .inl v_kindOf)), (q_owners, .inl (cI, 120, .inl v_owners)), (q_isLoose, .inl (cZ, 120, .inl v_isLoose)), (q_parts, .inl (cI, 360, .inl v_parts)), (q_out, .inl (cI, 60, .inl v_out)), (q_text, .inl (cI, 1000, .inl v_text)), (q_work, .inl (cI, 2010, .inl v_work)), (q_ranks, .inl (cI, 2010, .inl v_ranks)), (q_form, .inl (cI, 2000, .inl v_form)), (q_waits, .inl (cI, 1000, .inl v_waits)), (q_met, .inl (cZ, 120, .inl v_met))] t.heap ∧ va_D A [(q_this, .inr (6, [.int u, .int v_marks, .ref q_markFirst, .ref q_markLast, .ref q_markClass, .int v_kinds, .ref q_kindFirst, .ref q_kindLast, .ref q_kindOf, .int v_rows, .ref q_owners, .ref q_isLoose, .ref q_parts, .int v_excluded, .ref q_out, .int v_size, .ref q_text, .int v_many, .ref q_work, .ref q_ranks, .int v_shown, .int v_wasAsked, .ref q_form, .int v_waiting, .ref q_waits, .ref q_met])), (q_markFirst, .inl (cI, 60, .inl v_markFirst)), (q_markLast, .inl (cI, 60, .inl v_markLast)), (q_markClass, .inl (cI, 60, .inl v_markClass)), (q_kindFirst, .inl (cI, 60, .inl v_kindFirst)), (q_kindLast, .inl (cI, 60, .inl v_kindLast)), (q_kindOf, .inl (cI, 60, .inl v_kindOf)), (q_owners, .inl (cI, 120, .inl v_owners)), (q_isLoose, .inl (cZ, 120, .inl v_isLoose)), (q_parts, .inl (cI, 360, .inl v_parts)), (q_out, .inl (cI, 60, .inl v_out)), (q_text, .inl (cI, 1000, .inl v_text)), (q_work, .inl (cI, 2010, .inl v_work)), (q_ranks, .inl (cI, 2010, .inl v_ranks)), (q_form, .inl (cI, 2000, .inl v_form)), (q_waits, .inl (cI, 1000, .inl v_waits)), (q_met, .inl (cZ, 120, .inl v_met))]) A) (List.toArray [.ref q_this, .int a1]) s 0 0 A := ⟨_, rfl⟩
  rw [← hQQ]
  refine lv_aload_n hx hb dX7_refused_0 rfl (lv_at hl 0 rfl) ?_
  refine lv_iload_n hx hb dX7_refused_1 rfl (lv_at hl 1 rfl) ?_
  refine va_put (D := (dC, dI)) (ci := 6) (v := .int a1) (ty := .int) (C := RX7) (T := TX7) (N := 26) hx hb hts inX7 tyX7 tyX7_ok nmX7 hown hK hP hD hS 0 rfl rfl 0 (by decide) (hts _ tw578) (fun _ h9 => h9) rfl (by decide +kernel) rfl rfl (Nat.le_of_ble_eq_true rfl) dX7_refused_2 (fun H locs hP hD hS => ?_)
  have hP : va_P (dC, dI) vwC [(q_this, .inr (6, [.int a1, .int v_marks, .ref q_markFirst, .ref q_markLast, .ref q_markClass, .int v_kinds, .ref q_kindFirst, .ref q_kindLast, .ref q_kindOf, .int v_rows, .ref q_owners, .ref q_isLoose, .ref q_parts, .int v_excluded, .ref q_out, .int v_size, .ref q_text, .int v_many, .ref q_work, .ref q_ranks, .int v_shown, .int v_wasAsked, .ref q_form, .int v_waiting, .ref q_waits, .ref q_met])), (q_markFirst, .inl (cI, 60, .inl v_markFirst)), (q_markLast, .inl (cI, 60, .inl v_markLast)), (q_markClass, .inl (cI, 60, .inl v_markClass)), (q_kindFirst, .inl (cI, 60, .inl v_kindFirst)), (q_kindLast, .inl (cI, 60, .inl v_kindLast)), (q_kindOf, .inl (cI, 60, .inl v_kindOf)), (q_owners, .inl (cI, 120, .inl v_owners)), (q_isLoose, .inl (cZ, 120, .inl v_isLoose)), (q_parts, .inl (cI, 360, .inl v_parts)), (q_out, .inl (cI, 60, .inl v_out)), (q_text, .inl (cI, 1000, .inl v_text)), (q_work, .inl (cI, 2010, .inl v_work)), (q_ranks, .inl (cI, 2010, .inl v_ranks)), (q_form, .inl (cI, 2000, .inl v_form)), (q_waits, .inl (cI, 1000, .inl v_waits)), (q_met, .inl (cZ, 120, .inl v_met))] H := hP
  have hD : va_D A [(q_this, .inr (6, [.int a1, .int v_marks, .ref q_markFirst, .ref q_markLast, .ref q_markClass, .int v_kinds, .ref q_kindFirst, .ref q_kindLast, .ref q_kindOf, .int v_rows, .ref q_owners, .ref q_isLoose, .ref q_parts, .int v_excluded, .ref q_out, .int v_size, .ref q_text, .int v_many, .ref q_work, .ref q_ranks, .int v_shown, .int v_wasAsked, .ref q_form, .int v_waiting, .ref q_waits, .ref q_met])), (q_markFirst, .inl (cI, 60, .inl v_markFirst)), (q_markLast, .inl (cI, 60, .inl v_markLast)), (q_markClass, .inl (cI, 60, .inl v_markClass)), (q_kindFirst, .inl (cI, 60, .inl v_kindFirst)), (q_kindLast, .inl (cI, 60, .inl v_kindLast)), (q_kindOf, .inl (cI, 60, .inl v_kindOf)), (q_owners, .inl (cI, 120, .inl v_owners)), (q_isLoose, .inl (cZ, 120, .inl v_isLoose)), (q_parts, .inl (cI, 360, .inl v_parts)), (q_out, .inl (cI, 60, .inl v_out)), (q_text, .inl (cI, 1000, .inl v_text)), (q_work, .inl (cI, 2010, .inl v_work)), (q_ranks, .inl (cI, 2010, .inl v_ranks)), (q_form, .inl (cI, 2000, .inl v_form)), (q_waits, .inl (cI, 1000, .inl v_waits)), (q_met, .inl (cZ, 120, .inl v_met))] := hD
  refine lv_iload_n hx hb dX7_refused_5 rfl (lv_at hl 1 rfl) ?_
  refine lv_if_le (tgt := 13) hx hb dX7_refused_6 (by decide) (fun c9 => ?_) (fun c9 => ?_)
  · replace h := h.1 c9
    refine lv_iconst (v := (0 : Int32)) hx hb dX7_refused_13 (by decide) ?_
    rw [hQQ]
    exact W.zret (ty := .boolean) hx hb hr (by decide) (fun t ht hW => ⟨⟨_, a1, rfl, h, by rw [ht]; exact hP, hD⟩, hS.F ht⟩) hS.2.2 dX7_refused_14
  · replace h := h.2 c9
    refine lv_iconst (v := (1 : Int32)) hx hb dX7_refused_9 (by decide) ?_
    refine lv_goto (tgt := 14) hx hb dX7_refused_10 (by decide) ?_
    rw [hQQ]
    exact W.zret (ty := .boolean) hx hb hr (by decide) (fun t ht hW => ⟨⟨_, a1, rfl, h, by rw [ht]; exact hP, hD⟩, hS.F ht⟩) hS.2.2 dX7_refused_14
set_option maxHeartbeats 4000000 in
set_option maxRecDepth 100000 in
theorem m_X7_isCharacter (l : Launch) (dC : Nat → ClassId) (dI : Nat → Nat → Nat) (cI cZ cJ : ClassId) (a1 : Int32) (post : Int32 → Prop) (h : w_X7_isCharacter post a1) : Met l yX7_isCharacter [.code yX7_isCharacter cX7_isCharacter 1 (some .boolean)] ({ frames := 0, cells := 0, slots := 0, locals := 0 } : Room) (va_Pc [.int a1] (fun U => va_P (dC, dI) vwC [] U.heap ∧ KK dC dI cI cZ cJ U)) (vp_Si post) 0 0 (fun _ => False) := by
  refine Met.ofW (cc := cX7_isCharacter) (maxL := 1) (ret := (some .boolean)) (by decide) rfl ?_
  intro p e s m args below meth c s₁ B hml hv
  obtain ⟨rfl, hP, hKK⟩ := hv
  have hK := hKK.1
  have hx := B.exec
  have hb := B.bytes
  have hr := B.returns
  have hts : ∀ w ∈ TG, w.before (List.toArray [.int a1]) s = true := hKK.ts
  have hown : s.vm.findClass RX7 = some m.cls := findClass_of_methodNamed B.named
  have hlocks := B.notSynchronized
  have hl := lv_entry ([.int a1]) (n := 1) (Nat.le_of_ble_eq_true rfl)
  rw [lg_entry_eq]
  generalize (lg_sl ([.int a1]) ++ List.replicate (1 - (lg_sl ([.int a1])).length) Slot.unset).toArray = ls at hl ⊢
  have hl : lv_has ls 1 [(0, .int a1)] := hl
  obtain ⟨QQ, hQQ⟩ : ∃ z, z = MQ below (vp_Si post) (List.toArray [.int a1]) s 0 0 (fun _ => False) := ⟨_, rfl⟩
  rw [← hQQ]
  refine lv_iload_n hx hb dX7_isCharacter_0 rfl (lv_at hl 0 rfl) ?_
  refine lv_if_lt (tgt := 14) hx hb dX7_isCharacter_1 (by decide) (fun c9 => ?_) (fun c9 => ?_)
  · replace h := h.1 c9
    refine lv_iconst (v := (0 : Int32)) hx hb dX7_isCharacter_14 (by decide) ?_
    rw [hQQ]
    exact W.zret (ty := .boolean) hx hb hr (by decide) (fun t ht hW => ⟨_, rfl, h, ht⟩) t_nil dX7_isCharacter_15
  · replace h := h.2 c9
    refine lv_iload_n hx hb dX7_isCharacter_4 rfl (lv_at hl 0 rfl) ?_
    refine lv_ldc (v := (1114111 : Int32)) hx hb hown (hts _ tw671) dX7_isCharacter_5 ?_
    refine lv_icmp_gt (tgt := 14) hx hb dX7_isCharacter_7 (by decide) (fun c9 => ?_) (fun c9 => ?_)
    · replace h := h.1 c9
      refine lv_iconst (v := (0 : Int32)) hx hb dX7_isCharacter_14 (by decide) ?_
      rw [hQQ]
      exact W.zret (ty := .boolean) hx hb hr (by decide) (fun t ht hW => ⟨_, rfl, h, ht⟩) t_nil dX7_isCharacter_15
    · replace h := h.2 c9
      refine lv_iconst (v := (1 : Int32)) hx hb dX7_isCharacter_10 (by decide) ?_
      refine lv_goto (tgt := 15) hx hb dX7_isCharacter_11 (by decide) ?_
      rw [hQQ]
      exact W.zret (ty := .boolean) hx hb hr (by decide) (fun t ht hW => ⟨_, rfl, h, ht⟩) t_nil dX7_isCharacter_15
set_option maxHeartbeats 4000000 in
set_option maxRecDepth 100000 in
theorem m_X7_isOptional (l : Launch) (dC : Nat → ClassId) (dI : Nat → Nat → Nat) (cI cZ cJ : ClassId) (a1 : Int32) (post : Int32 → Prop) (h : w_X7_isOptional post a1) : Met l yX7_isOptional [.code yX7_isOptional cX7_isOptional 1 (some .boolean)] ({ frames := 1, cells := 0, slots := 0, locals := 20 } : Room) (va_Pc [.int a1] (fun U => va_P (dC, dI) vwC [] U.heap ∧ KK dC dI cI cZ cJ U)) (vp_Si post) 0 0 (fun _ => False) := by
  refine Met.ofW (cc := cX7_isOptional) (maxL := 1) (ret := (some .boolean)) (by decide) rfl ?_
  intro p e s m args below meth c s₁ B hml hv
  obtain ⟨rfl, hP, hKK⟩ := hv
  have hK := hKK.1
  have hx := B.exec
  have hb := B.bytes
  have hr := B.returns
  have hts : ∀ w ∈ TG, w.before (List.toArray [.int a1]) s = true := hKK.ts
  have hown : s.vm.findClass RX7 = some m.cls := findClass_of_methodNamed B.named
  have hlocks := B.notSynchronized
  have hl := lv_entry ([.int a1]) (n := 1) (Nat.le_of_ble_eq_true rfl)
  rw [lg_entry_eq]
  generalize (lg_sl ([.int a1]) ++ List.replicate (1 - (lg_sl ([.int a1])).length) Slot.unset).toArray = ls at hl ⊢
  have hl : lv_has ls 1 [(0, .int a1)] := hl
  obtain ⟨QQ, hQQ⟩ : ∃ z, z = MQ below (vp_Si post) (List.toArray [.int a1]) s 0 0 (fun _ => False) := ⟨_, rfl⟩
  rw [← hQQ]
  refine lv_iload_n hx hb dX7_isOptional_0 rfl (lv_at hl 0 rfl) ?_
  refine lv_iconst (v := (-1 : Int32)) hx hb dX7_isOptional_1 (by decide) ?_
  refine lv_icmp_eq (tgt := 12) hx hb dX7_isOptional_2 (by decide) (fun c9 => ?_) (fun c9 => ?_)
  · replace h := h.1 c9
    refine lv_iconst (v := (1 : Int32)) hx hb dX7_isOptional_12 (by decide) ?_
    refine lv_goto (tgt := 17) hx hb dX7_isOptional_13 (by decide) ?_
    rw [hQQ]
    exact W.zret (ty := .boolean) hx hb hr (by decide) (fun t ht hW => ⟨_, rfl, h, ht⟩) t_nil dX7_isOptional_17
  · replace h := h.2 c9
    refine lv_iload_n hx hb dX7_isOptional_5 rfl (lv_at hl 0 rfl) ?_
    have hPc := hP.sub (ws' := []) [] rfl
    refine na_calls (va_runS (As := [.int a1]) (rest := []) ⟨hx, hb, hml, hown, hts⟩ (m_X7_isCharacter l dC dI cI cZ cJ a1 _ h) (cwS 1 hts (na_gS tw668 tw669 tw7 tw670 rfl) rfl rfl rfl (by decide +kernel) ⟨Nat.le_of_ble_eq_true rfl, Nat.le_of_ble_eq_true rfl⟩) ⟨fun a U g mk q => by obtain ⟨q0, qP, qK⟩ := q; exact ⟨q0, qP, qK.same rfl⟩, fun U hU hW => ⟨rfl, by rw [hU]; exact hPc, hKK.warm hW⟩⟩ rfl rfl hl.1 rfl (lv_room (Nat.le_of_ble_eq_true rfl)) dX7_isOptional_6 ⟨Nat.zero_le _, Nat.zero_le _⟩) (fun r_6 h => ?_)
    refine lv_if_eq (tgt := 16) hx hb dX7_isOptional_9 (by decide) (fun c9 => ?_) (fun c9 => ?_)
    · replace h := h.1 c9
      refine lv_iconst (v := (0 : Int32)) hx hb dX7_isOptional_16 (by decide) ?_
      rw [hQQ]
      exact W.zret (ty := .boolean) hx hb hr (by decide) (fun t ht hW => ⟨_, rfl, h, ht⟩) t_nil dX7_isOptional_17
    · replace h := h.2 c9
      refine lv_iconst (v := (1 : Int32)) hx hb dX7_isOptional_12 (by decide) ?_
      refine lv_goto (tgt := 17) hx hb dX7_isOptional_13 (by decide) ?_
      rw [hQQ]
      exact W.zret (ty := .boolean) hx hb hr (by decide) (fun t ht hW => ⟨_, rfl, h, ht⟩) t_nil dX7_isOptional_17
set_option maxHeartbeats 4000000 in
set_option maxRecDepth 100000 in
theorem m_X7_isRange (l : Launch) (dC : Nat → ClassId) (dI : Nat → Nat → Nat) (cI cZ cJ : ClassId) (a1 : Int32) (a2 : Int32) (post : Int32 → Prop) (h : w_X7_isRange post a1 a2) : Met l yX7_isRange [.code yX7_isRange cX7_isRange 2 (some .boolean)] ({ frames := 1, cells := 0, slots := 0, locals := 20 } : Room) (va_Pc [.int a1, .int a2] (fun U => va_P (dC, dI) vwC [] U.heap ∧ KK dC dI cI cZ cJ U)) (vp_Si post) 0 0 (fun _ => False) := by
  refine Met.ofW (cc := cX7_isRange) (maxL := 2) (ret := (some .boolean)) (by decide) rfl ?_
  intro p e s m args below meth c s₁ B hml hv
  obtain ⟨rfl, hP, hKK⟩ := hv
  have hK := hKK.1
  have hx := B.exec
  have hb := B.bytes
  have hr := B.returns
  have hts : ∀ w ∈ TG, w.before (List.toArray [.int a1, .int a2]) s = true := hKK.ts
  have hown : s.vm.findClass RX7 = some m.cls := findClass_of_methodNamed B.named
  have hlocks := B.notSynchronized
  have hl := lv_entry ([.int a1, .int a2]) (n := 2) (Nat.le_of_ble_eq_true rfl)
  rw [lg_entry_eq]
  generalize (lg_sl ([.int a1, .int a2]) ++ List.replicate (2 - (lg_sl ([.int a1, .int a2])).length) Slot.unset).toArray = ls at hl ⊢
  have hl : lv_has ls 2 [(0, .int a1), (1, .int a2)] := hl
  obtain ⟨QQ, hQQ⟩ : ∃ z, z = MQ below (vp_Si post) (List.toArray [.int a1, .int a2]) s 0 0 (fun _ => False) := ⟨_, rfl⟩
  rw [← hQQ]
  refine lv_iload_n hx hb dX7_isRange_0 rfl (lv_at hl 0 rfl) ?_
  have hPc := hP.sub (ws' := []) [] rfl
  refine na_calls (va_runS (As := [.int a1]) (rest := []) ⟨hx, hb, hml, hown, hts⟩ (m_X7_isCharacter l dC dI cI cZ cJ a1 _ h) (cwS 1 hts (na_gS tw668 tw669 tw7 tw670 rfl) rfl rfl rfl (by decide +kernel) ⟨Nat.le_of_ble_eq_true rfl, Nat.le_of_ble_eq_true rfl⟩) ⟨fun a U g mk q => by obtain ⟨q0, qP, qK⟩ := q; exact ⟨q0, qP, qK.same rfl⟩, fun U hU hW => ⟨rfl, by rw [hU]; exact hPc, hKK.warm hW⟩⟩ rfl rfl hl.1 rfl (lv_room (Nat.le_of_ble_eq_true rfl)) dX7_isRange_1 ⟨Nat.zero_le _, Nat.zero_le _⟩) (fun r_1 h => ?_)
  refine lv_if_eq (tgt := 23) hx hb dX7_isRange_4 (by decide) (fun c9 => ?_) (fun c9 => ?_)
  · replace h := h.1 c9
    refine lv_iconst (v := (0 : Int32)) hx hb dX7_isRange_23 (by decide) ?_
    rw [hQQ]
    exact W.zret (ty := .boolean) hx hb hr (by decide) (fun t ht hW => ⟨_, rfl, h, ht⟩) t_nil dX7_isRange_24
  · replace h := h.2 c9
    refine lv_iload_n hx hb dX7_isRange_7 rfl (lv_at hl 1 rfl) ?_
    have hPc := hP.sub (ws' := []) [] rfl
    refine na_calls (va_runS (As := [.int a2]) (rest := []) ⟨hx, hb, hml, hown, hts⟩ (m_X7_isCharacter l dC dI cI cZ cJ a2 _ h) (cwS 1 hts (na_gS tw668 tw669 tw7 tw670 rfl) rfl rfl rfl (by decide +kernel) ⟨Nat.le_of_ble_eq_true rfl, Nat.le_of_ble_eq_true rfl⟩) ⟨fun a U g mk q => by obtain ⟨q0, qP, qK⟩ := q; exact ⟨q0, qP, qK.same rfl⟩, fun U hU hW => ⟨rfl, by rw [hU]; exact hPc, hKK.warm hW⟩⟩ rfl rfl hl.1 rfl (lv_room (Nat.le_of_ble_eq_true rfl)) dX7_isRange_8 ⟨Nat.zero_le _, Nat.zero_le _⟩) (fun r_8 h => ?_)
    refine lv_if_eq (tgt := 23) hx hb dX7_isRange_11 (by decide) (fun c9 => ?_) (fun c9 => ?_)
    · replace h := h.1 c9
      refine lv_iconst (v := (0 : Int32)) hx hb dX7_isRange_23 (by decide) ?_
      rw [hQQ]
      exact W.zret (ty := .boolean) hx hb hr (by decide) (fun t ht hW => ⟨_, rfl, h, ht⟩) t_nil dX7_isRange_24
    · replace h := h.2 c9
      refine lv_iload_n hx hb dX7_isRange_14 rfl (lv_at hl 0 rfl) ?_
      refine lv_iload_n hx hb dX7_isRange_15 rfl (lv_at hl 1 rfl) ?_
      refine lv_icmp_gt (tgt := 23) hx hb dX7_isRange_16 (by decide) (fun c9 => ?_) (fun c9 => ?_)
      · replace h := h.1 c9
        refine lv_iconst (v := (0 : Int32)) hx hb dX7_isRange_23 (by decide) ?_
        rw [hQQ]
        exact W.zret (ty := .boolean) hx hb hr (by decide) (fun t ht hW => ⟨_, rfl, h, ht⟩) t_nil dX7_isRange_24
      · replace h := h.2 c9
        refine lv_iconst (v := (1 : Int32)) hx hb dX7_isRange_19 (by decide) ?_
        refine lv_goto (tgt := 24) hx hb dX7_isRange_20 (by decide) ?_
        rw [hQQ]
        exact W.zret (ty := .boolean) hx hb hr (by decide) (fun t ht hW => ⟨_, rfl, h, ht⟩) t_nil dX7_isRange_24
set_option maxHeartbeats 4000000 in
set_option maxRecDepth 100000 in
theorem m_X7_mark (l : Launch) (dC : Nat → ClassId) (dI : Nat → Nat → Nat) (cI cZ cJ : ClassId) (q_this : Nat) (q_markFirst : Nat) (q_markLast : Nat) (q_markClass : Nat) (q_kindFirst : Nat) (q_kindLast : Nat) (q_kindOf : Nat) (q_owners : Nat) (q_isLoose : Nat) (q_parts : Nat) (q_out : Nat) (q_text : Nat) (q_work : Nat) (q_ranks : Nat) (q_form : Nat) (q_waits : Nat) (q_met : Nat) (v_fault : Int32) (v_marks : Int32) (v_kinds : Int32) (v_rows : Int32) (v_excluded : Int32) (v_size : Int32) (v_many : Int32) (v_shown : Int32) (v_wasAsked : Int32) (v_waiting : Int32) (v_markFirst : Nat → Int32) (v_markLast : Nat → Int32) (v_markClass : Nat → Int32) (v_kindFirst : Nat → Int32) (v_kindLast : Nat → Int32) (v_kindOf : Nat → Int32) (v_owners : Nat → Int32) (v_isLoose : Nat → Int32) (v_parts : Nat → Int32) (v_out : Nat → Int32) (v_text : Nat → Int32) (v_work : Nat → Int32) (v_ranks : Nat → Int32) (v_form : Nat → Int32) (v_waits : Nat → Int32) (v_met : Nat → Int32) (a1 : Int32) (a2 : Int32) (a3 : Int32) (sz : Nat) (post : Int32 → Int32 → (Nat → Int32) → (Nat → Int32) → (Nat → Int32) → Prop) (h : w_X7_mark post v_marks v_markFirst v_markLast v_markClass a1 a2 a3) : Met l yX7_mark [.code yX7_mark cX7_mark 5 none] ({ frames := 2, cells := 0, slots := 0, locals := 41 } : Room) (va_Pc [.ref q_this, .int a1, .int a2, .int a3] (fun U => U.heap.size = sz ∧ va_P (dC, dI) vwC [(q_this, .inr (6, [.int v_fault, .int v_marks, .ref q_markFirst, .ref q_markLast, .ref q_markClass, .int v_kinds, .ref q_kindFirst, .ref q_kindLast, .ref q_kindOf, .int v_rows, .ref q_owners, .ref q_isLoose, .ref q_parts, .int v_excluded, .ref q_out, .int v_size, .ref q_text, .int v_many, .ref q_work, .ref q_ranks, .int v_shown, .int v_wasAsked, .ref q_form, .int v_waiting, .ref q_waits, .ref q_met])), (q_markFirst, .inl (cI, 60, .inl v_markFirst)), (q_markLast, .inl (cI, 60, .inl v_markLast)), (q_markClass, .inl (cI, 60, .inl v_markClass)), (q_kindFirst, .inl (cI, 60, .inl v_kindFirst)), (q_kindLast, .inl (cI, 60, .inl v_kindLast)), (q_kindOf, .inl (cI, 60, .inl v_kindOf)), (q_owners, .inl (cI, 120, .inl v_owners)), (q_isLoose, .inl (cZ, 120, .inl v_isLoose)), (q_parts, .inl (cI, 360, .inl v_parts)), (q_out, .inl (cI, 60, .inl v_out)), (q_text, .inl (cI, 1000, .inl v_text)), (q_work, .inl (cI, 2010, .inl v_work)), (q_ranks, .inl (cI, 2010, .inl v_ranks)), (q_form, .inl (cI, 2000, .inl v_form)), (q_waits, .inl (cI, 1000, .inl v_waits)), (q_met, .inl (cZ, 120, .inl v_met))] U.heap ∧ KK dC dI cI cZ cJ U ∧ va_D (fun _ => True) [(q_this, .inr (6, [.int v_fault, .int v_marks, .ref q_markFirst, .ref q_markLast, .ref q_markClass, .int v_kinds, .ref q_kindFirst, .ref q_kindLast, .ref q_kindOf, .int v_rows, .ref q_owners, .ref q_isLoose, .ref q_parts, .int v_excluded, .ref q_out, .int v_size, .ref q_text, .int v_many, .ref q_work, .ref q_ranks, .int v_shown, .int v_wasAsked, .ref q_form, .int v_waiting, .ref q_waits, .ref q_met])), (q_markFirst, .inl (cI, 60, .inl v_markFirst)), (q_markLast, .inl (cI, 60, .inl v_markLast)), (q_markClass, .inl (cI, 60, .inl v_markClass)), (q_kindFirst, .inl (cI, 60, .inl v_kindFirst)), (q_kindLast, .inl (cI, 60, .inl v_kindLast)), (q_kindOf, .inl (cI, 60, .inl v_kindOf)), (q_owners, .inl (cI, 120, .inl v_owners)), (q_isLoose, .inl (cZ, 120, .inl v_isLoose)), (q_parts, .inl (cI, 360, .inl v_parts)), (q_out, .inl (cI, 60, .inl v_out)), (q_text, .inl (cI, 1000, .inl v_text)), (q_work, .inl (cI, 2010, .inl v_work)), (q_ranks, .inl (cI, 2010, .inl v_ranks)), (q_form, .inl (cI, 2000, .inl v_form)), (q_waits, .inl (cI, 1000, .inl v_waits)), (q_met, .inl (cZ, 120, .inl v_met))])) (va_Qv (fun (u : Int32 × Int32 × (Nat → Int32) × (Nat → Int32) × (Nat → Int32)) => post u.1 u.2.1 u.2.2.1 u.2.2.2.1 u.2.2.2.2) (fun (u : Int32 × Int32 × (Nat → Int32) × (Nat → Int32) × (Nat → Int32)) (t : State) => va_P (dC, dI) vwC [(q_this, .inr (6, [.int u.1, .int u.2.1, .ref q_markFirst, .ref q_markLast, .ref q_markClass, .int v_kinds, .ref q_kindFirst, .ref q_kindLast, .ref q_kindOf, .int v_rows, .ref q_owners, .ref q_isLoose, .ref q_parts, .int v_excluded, .ref q_out, .int v_size, .ref q_text, .int v_many, .ref q_work, .ref q_ranks, .int v_shown, .int v_wasAsked, .ref q_form, .int v_waiting, .ref q_waits, .ref q_met])), (q_markFirst, .inl (cI, 60, .inl u.2.2.1)), (q_markLast, .inl (cI, 60, .inl u.2.2.2.1)), (q_markClass, .inl (cI, 60, .inl u.2.2.2.2)), (q_kindFirst, .inl (cI, 60, .inl v_kindFirst)), (q_kindLast, .inl (cI, 60, .inl v_kindLast)), (q_kindOf, .inl (cI, 60, .inl v_kindOf)), (q_owners, .inl (cI, 120, .inl v_owners)), (q_isLoose, .inl (cZ, 120, .inl v_isLoose)), (q_parts, .inl (cI, 360, .inl v_parts)), (q_out, .inl (cI, 60, .inl v_out)), (q_text, .inl (cI, 1000, .inl v_text)), (q_work, .inl (cI, 2010, .inl v_work)), (q_ranks, .inl (cI, 2010, .inl v_ranks)), (q_form, .inl (cI, 2000, .inl v_form)), (q_waits, .inl (cI, 1000, .inl v_waits)), (q_met, .inl (cZ, 120, .inl v_met))] t.heap ∧ va_D (va_A [(q_this, .inr (6, [.int v_fault, .int v_marks, .ref q_markFirst, .ref q_markLast, .ref q_markClass, .int v_kinds, .ref q_kindFirst, .ref q_kindLast, .ref q_kindOf, .int v_rows, .ref q_owners, .ref q_isLoose, .ref q_parts, .int v_excluded, .ref q_out, .int v_size, .ref q_text, .int v_many, .ref q_work, .ref q_ranks, .int v_shown, .int v_wasAsked, .ref q_form, .int v_waiting, .ref q_waits, .ref q_met])), (q_markFirst, .inl (cI, 60, .inl v_markFirst)), (q_markLast, .inl (cI, 60, .inl v_markLast)), (q_markClass, .inl (cI, 60, .inl v_markClass)), (q_kindFirst, .inl (cI, 60, .inl v_kindFirst)), (q_kindLast, .inl (cI, 60, .inl v_kindLast)), (q_kindOf, .inl (cI, 60, .inl v_kindOf)), (q_owners, .inl (cI, 120, .inl v_owners)), (q_isLoose, .inl (cZ, 120, .inl v_isLoose)), (q_parts, .inl (cI, 360, .inl v_parts)), (q_out, .inl (cI, 60, .inl v_out)), (q_text, .inl (cI, 1000, .inl v_text)), (q_work, .inl (cI, 2010, .inl v_work)), (q_ranks, .inl (cI, 2010, .inl v_ranks)), (q_form, .inl (cI, 2000, .inl v_form)), (q_waits, .inl (cI, 1000, .inl v_waits)), (q_met, .inl (cZ, 120, .inl v_met))] sz) [(q_this, .inr (6, [.int u.1, .int u.2.1, .ref q_markFirst, .ref q_markLast, .ref q_markClass, .int v_kinds, .ref q_kindFirst, .ref q_kindLast, .ref q_kindOf, .int v_rows, .ref q_owners, .ref q_isLoose, .ref q_parts, .int v_excluded, .ref q_out, .int v_size, .ref q_text, .int v_many, .ref q_work, .ref q_ranks, .int v_shown, .int v_wasAsked, .ref q_form, .int v_waiting, .ref q_waits, .ref q_met])), (q_markFirst, .inl (cI, 60, .inl u.2.2.1)), (q_markLast, .inl (cI, 60, .inl u.2.2.2.1)), (q_markClass, .inl (cI, 60, .inl u.2.2.2.2)), (q_kindFirst, .inl (cI, 60, .inl v_kindFirst)), (q_kindLast, .inl (cI, 60, .inl v_kindLast)), (q_kindOf, .inl (cI, 60, .inl v_kindOf)), (q_owners, .inl (cI, 120, .inl v_owners)), (q_isLoose, .inl (cZ, 120, .inl v_isLoose)), (q_parts, .inl (cI, 360, .inl v_parts)), (q_out, .inl (cI, 60, .inl v_out)), (q_text, .inl (cI, 1000, .inl v_text)), (q_work, .inl (cI, 2010, .inl v_work)), (q_ranks, .inl (cI, 2010, .inl v_ranks)), (q_form, .inl (cI, 2000, .inl v_form)), (q_waits, .inl (cI, 1000, .inl v_waits)), (q_met, .inl (cZ, 120, .inl v_met))]) (va_A [(q_this, .inr (6, [.int v_fault, .int v_marks, .ref q_markFirst, .ref q_markLast, .ref q_markClass, .int v_kinds, .ref q_kindFirst, .ref q_kindLast, .ref q_kindOf, .int v_rows, .ref q_owners, .ref q_isLoose, .ref q_parts, .int v_excluded, .ref q_out, .int v_size, .ref q_text, .int v_many, .ref q_work, .ref q_ranks, .int v_shown, .int v_wasAsked, .ref q_form, .int v_waiting, .ref q_waits, .ref q_met])), (q_markFirst, .inl (cI, 60, .inl v_markFirst)), (q_markLast, .inl (cI, 60, .inl v_markLast)), (q_markClass, .inl (cI, 60, .inl v_markClass)), (q_kindFirst, .inl (cI, 60, .inl v_kindFirst)), (q_kindLast, .inl (cI, 60, .inl v_kindLast)), (q_kindOf, .inl (cI, 60, .inl v_kindOf)), (q_owners, .inl (cI, 120, .inl v_owners)), (q_isLoose, .inl (cZ, 120, .inl v_isLoose)), (q_parts, .inl (cI, 360, .inl v_parts)), (q_out, .inl (cI, 60, .inl v_out)), (q_text, .inl (cI, 1000, .inl v_text)), (q_work, .inl (cI, 2010, .inl v_work)), (q_ranks, .inl (cI, 2010, .inl v_ranks)), (q_form, .inl (cI, 2000, .inl v_form)), (q_waits, .inl (cI, 1000, .inl v_waits)), (q_met, .inl (cZ, 120, .inl v_met))] sz)) 0 0 (va_A [(q_this, .inr (6, [.int v_fault, .int v_marks, .ref q_markFirst, .ref q_markLast, .ref q_markClass, .int v_kinds, .ref q_kindFirst, .ref q_kindLast, .ref q_kindOf, .int v_rows, .ref q_owners, .ref q_isLoose, .ref q_parts, .int v_excluded, .ref q_out, .int v_size, .ref q_text, .int v_many, .ref q_work, .ref q_ranks, .int v_shown, .int v_wasAsked, .ref q_form, .int v_waiting, .ref q_waits, .ref q_met])), (q_markFirst, .inl (cI, 60, .inl v_markFirst)), (q_markLast, .inl (cI, 60, .inl v_markLast)), (q_markClass, .inl (cI, 60, .inl v_markClass)), (q_kindFirst, .inl (cI, 60, .inl v_kindFirst)), (q_kindLast, .inl (cI, 60, .inl v_kindLast)), (q_kindOf, .inl (cI, 60, .inl v_kindOf)), (q_owners, .inl (cI, 120, .inl v_owners)), (q_isLoose, .inl (cZ, 120, .inl v_isLoose)), (q_parts, .inl (cI, 360, .inl v_parts)), (q_out, .inl (cI, 60, .inl v_out)), (q_text, .inl (cI, 1000, .inl v_text)), (q_work, .inl (cI, 2010, .inl v_work)), (q_ranks, .inl (cI, 2010, .inl v_ranks)), (q_form, .inl (cI, 2000, .inl v_form)), (q_waits, .inl (cI, 1000, .inl v_waits)), (q_met, .inl (cZ, 120, .inl v_met))] sz) := by
  refine Met.ofW (cc := cX7_mark) (maxL := 5) (ret := none) (by decide) rfl ?_
  intro p e s m args below meth c s₁ B hml hv
  obtain ⟨rfl, hsz, hP, hKK, hD0⟩ := hv
  have hK := hKK.1
  have hx := B.exec
  have hb := B.bytes
  have hr := B.returns
  have hts : ∀ w ∈ TG, w.before (List.toArray [.ref q_this, .int a1, .int a2, .int a3]) s = true := hKK.ts
  have hown : s.vm.findClass RX7 = some m.cls := findClass_of_methodNamed B.named
  have hlocks := B.notSynchronized
  subst hsz
  have hD := hD0.self (sz := s.heap.size)
  generalize hAe : va_A [(q_this, .inr (6, [.int v_fault, .int v_marks, .ref q_markFirst, .ref q_markLast, .ref q_markClass, .int v_kinds, .ref q_kindFirst, .ref q_kindLast, .ref q_kindOf, .int v_rows, .ref q_owners, .ref q_isLoose, .ref q_parts, .int v_excluded, .ref q_out, .int v_size, .ref q_text, .int v_many, .ref q_work, .ref q_ranks, .int v_shown, .int v_wasAsked, .ref q_form, .int v_waiting, .ref q_waits, .ref q_met])), (q_markFirst, .inl (cI, 60, .inl v_markFirst)), (q_markLast, .inl (cI, 60, .inl v_markLast)), (q_markClass, .inl (cI, 60, .inl v_markClass)), (q_kindFirst, .inl (cI, 60, .inl v_kindFirst)), (q_kindLast, .inl (cI, 60, .inl v_kindLast)), (q_kindOf, .inl (cI, 60, .inl v_kindOf)), (q_owners, .inl (cI, 120, .inl v_owners)), (q_isLoose, .inl (cZ, 120, .inl v_isLoose)), (q_parts, .inl (cI, 360, .inl v_parts)), (q_out, .inl (cI, 60, .inl v_out)), (q_text, .inl (cI, 1000, .inl v_text)), (q_work, .inl (cI, 2010, .inl v_work)), (q_ranks, .inl (cI, 2010, .inl v_ranks)), (q_form, .inl (cI, 2000, .inl v_form)), (q_waits, .inl (cI, 1000, .inl v_waits)), (q_met, .inl (cZ, 120, .inl v_met))] s.heap.size = A at hD ⊢
  have hA : ∀ q : Nat, s.heap.size ≤ q → A q := fun q h => by rw [← hAe]; exact Or.inr h
  have hS : va_S A s.heap s.heap [] := va_S.rf
  have hl := lv_entry ([.ref q_this, .int a1, .int a2, .int a3]) (n := 5) (Nat.le_of_ble_eq_true rfl)
  rw [lg_entry_eq]
  generalize (lg_sl ([.ref q_this, .int a1, .int a2, .int a3]) ++ List.replicate (5 - (lg_sl ([.ref q_this, .int a1, .int a2, .int a3])).length) Slot.unset).toArray = ls at hl ⊢
  have hl : lv_has ls 5 [(0, .ref q_this), (1, .int a1), (2, .int a2), (3, .int a3)] := hl
  obtain ⟨QQ, hQQ⟩ : ∃ z, z = MQ below (va_Qv (fun (u : Int32 × Int32 × (Nat → Int32) × (Nat → Int32) × (Nat → Int32)) => post u.1 u.2.1 u.2.2.1 u.2.2.2.1 u.2.2.2.2) (fun (u : Int32 × Int32 × (Nat → Int32) × (Nat → Int32) × (Nat → Int32)) (t : State) => va_P (dC, dI) vwC [(q_this, .inr (6, [.int u.1, .int u.2.1, .ref q_markFirst, .ref q_markLast, .ref q_markClass, .int v_kinds, .ref q_kindFirst, .ref q_kindLast, .ref q_kindOf, .int v_rows, .ref q_owners, .ref q_isLoose, .ref q_parts, .int v_excluded, .ref q_out, .int v_size, .ref q_text, .int v_many, .ref q_work, .ref q_ranks, .int v_shown, .int v_wasAsked, .ref q_form, .int v_waiting, .ref q_waits, .ref q_met])), (q_markFirst, .inl (cI, 60, .inl u.2.2.1)), (q_markLast, .inl (cI, 60, .inl u.2.2.2.1)), (q_markClass, .inl (cI, 60, .inl u.2.2.2.2)), (q_kindFirst, .inl (cI, 60, .inl v_kindFirst)), (q_kindLast, .inl (cI, 60, .inl v_kindLast)), (q_kindOf, .inl (cI, 60, .inl v_kindOf)), (q_owners, .inl (cI, 120, .inl v_owners)), (q_isLoose, .inl (cZ, 120, .inl v_isLoose)), (q_parts, .inl (cI, 360, .inl v_parts)), (q_out, .inl (cI, 60, .inl v_out)), (q_text, .inl (cI, 1000, .inl v_text)), (q_work, .inl (cI, 2010, .inl v_work)), (q_ranks, .inl (cI, 2010, .inl v_ranks)), (q_form, .inl (cI, 2000, .inl v_form)), (q_waits, .inl (cI, 1000, .inl v_waits)), (q_met, .inl (cZ, 120, .inl v_met))] t.heap ∧ va_D A [(q_this, .inr (6, [.int u.1, .int u.2.1, .ref q_markFirst, .ref q_markLast, .ref q_markClass, .int v_kinds, .ref q_kindFirst, .ref q_kindLast, .ref q_kindOf, .int v_rows, .ref q_owners, .ref q_isLoose, .ref q_parts, .int v_excluded, .ref q_out, .int v_size, .ref q_text, .int v_many, .ref q_work, .ref q_ranks, .int v_shown, .int v_wasAsked, .ref q_form, .int v_waiting, .ref q_waits, .ref q_met])), (q_markFirst, .inl (cI, 60, .inl u.2.2.1)), (q_markLast, .inl (cI, 60, .inl u.2.2.2.1)), (q_markClass, .inl (cI, 60, .inl u.2.2.2.2)), (q_kindFirst, .inl (cI, 60, .inl v_kindFirst)), (q_kindLast, .inl (cI, 60, .inl v_kindLast)), (q_kindOf, .inl (cI, 60, .inl v_kindOf)), (q_owners, .inl (cI, 120, .inl v_owners)), (q_isLoose, .inl (cZ, 120, .inl v_isLoose)), (q_parts, .inl (cI, 360, .inl v_parts)), (q_out, .inl (cI, 60, .inl v_out)), (q_text, .inl (cI, 1000, .inl v_text)), (q_work, .inl (cI, 2010, .inl v_work)), (q_ranks, .inl (cI, 2010, .inl v_ranks)), (q_form, .inl (cI, 2000, .inl v_form)), (q_waits, .inl (cI, 1000, .inl v_waits)), (q_met, .inl (cZ, 120, .inl v_met))]) A) (List.toArray [.ref q_this, .int a1, .int a2, .int a3]) s 0 0 A := ⟨_, rfl⟩
  rw [← hQQ]
  have P50 : ∀ (v_fault : Int32) (v_marks : Int32) (v_markFirst : Nat → Int32) (v_markLast : Nat → Int32) (v_markClass : Nat → Int32) (s0 : Int32) , w_X7_mark_50 post v_marks v_markFirst v_markLast v_markClass a1 a2 a3 s0 → ∀ (H : Heap) (locs : List Loc), va_P (dC, dI) vwC [(q_this, .inr (6, [.int v_fault, .int v_marks, .ref q_markFirst, .ref q_markLast, .ref q_markClass, .int v_kinds, .ref q_kindFirst, .ref q_kindLast, .ref q_kindOf, .int v_rows, .ref q_owners, .ref q_isLoose, .ref q_parts, .int v_excluded, .ref q_out, .int v_size, .ref q_text, .int v_many, .ref q_work, .ref q_ranks, .int v_shown, .int v_wasAsked, .ref q_form, .int v_waiting, .ref q_waits, .ref q_met])), (q_markFirst, .inl (cI, 60, .inl v_markFirst)), (q_markLast, .inl (cI, 60, .inl v_markLast)), (q_markClass, .inl (cI, 60, .inl v_markClass)), (q_kindFirst, .inl (cI, 60, .inl v_kindFirst)), (q_kindLast, .inl (cI, 60, .inl v_kindLast)), (q_kindOf, .inl (cI, 60, .inl v_kindOf)), (q_owners, .inl (cI, 120, .inl v_owners)), (q_isLoose, .inl (cZ, 120, .inl v_isLoose)), (q_parts, .inl (cI, 360, .inl v_parts)), (q_out, .inl (cI, 60, .inl v_out)), (q_text, .inl (cI, 1000, .inl v_text)), (q_work, .inl (cI, 2010, .inl v_work)), (q_ranks, .inl (cI, 2010, .inl v_ranks)), (q_form, .inl (cI, 2000, .inl v_form)), (q_waits, .inl (cI, 1000, .inl v_waits)), (q_met, .inl (cZ, 120, .inl v_met))] H → va_D A [(q_this, .inr (6, [.int v_fault, .int v_marks, .ref q_markFirst, .ref q_markLast, .ref q_markClass, .int v_kinds, .ref q_kindFirst, .ref q_kindLast, .ref q_kindOf, .int v_rows, .ref q_owners, .ref q_isLoose, .ref q_parts, .int v_excluded, .ref q_out, .int v_size, .ref q_text, .int v_many, .ref q_work, .ref q_ranks, .int v_shown, .int v_wasAsked, .ref q_form, .int v_waiting, .ref q_waits, .ref q_met])), (q_markFirst, .inl (cI, 60, .inl v_markFirst)), (q_markLast, .inl (cI, 60, .inl v_markLast)), (q_markClass, .inl (cI, 60, .inl v_markClass)), (q_kindFirst, .inl (cI, 60, .inl v_kindFirst)), (q_kindLast, .inl (cI, 60, .inl v_kindLast)), (q_kindOf, .inl (cI, 60, .inl v_kindOf)), (q_owners, .inl (cI, 120, .inl v_owners)), (q_isLoose, .inl (cZ, 120, .inl v_isLoose)), (q_parts, .inl (cI, 360, .inl v_parts)), (q_out, .inl (cI, 60, .inl v_out)), (q_text, .inl (cI, 1000, .inl v_text)), (q_work, .inl (cI, 2010, .inl v_work)), (q_ranks, .inl (cI, 2010, .inl v_ranks)), (q_form, .inl (cI, 2000, .inl v_form)), (q_waits, .inl (cI, 1000, .inl v_waits)), (q_met, .inl (cZ, 120, .inl v_met))] → va_S A s.heap H locs → ∀ (ls : Array Slot), lv_has ls 5 [(0, .ref q_this), (1, .int a1), (2, .int a2), (3, .int a3)] → W p l e (headSpec [.code yX7_mark cX7_mark 5 none] ({ frames := 2, cells := 0, slots := 0, locals := 41 } : Room)).room s m (List.toArray [.ref q_this, .int a1, .int a2, .int a3]) below meth c H locs 0 0 QQ (F0 m 50 ls [.int s0, .ref q_this]) := by
    intro v_fault v_marks v_markFirst v_markLast v_markClass s0 h H locs hP hD hS ls hl
    have hPc := hP.sub (ws' := [(q_this, .inr (6, [.int v_fault, .int v_marks, .ref q_markFirst, .ref q_markLast, .ref q_markClass, .int v_kinds, .ref q_kindFirst, .ref q_kindLast, .ref q_kindOf, .int v_rows, .ref q_owners, .ref q_isLoose, .ref q_parts, .int v_excluded, .ref q_out, .int v_size, .ref q_text, .int v_many, .ref q_work, .ref q_ranks, .int v_shown, .int v_wasAsked, .ref q_form, .int v_waiting, .ref q_waits, .ref q_met])), (q_markFirst, .inl (cI, 60, .inl v_markFirst)), (q_markLast, .inl (cI, 60, .inl v_markLast)), (q_markClass, .inl (cI, 60, .inl v_markClass)), (q_kindFirst, .inl (cI, 60, .inl v_kindFirst)), (q_kindLast, .inl (cI, 60, .inl v_kindLast)), (q_kindOf, .inl (cI, 60, .inl v_kindOf)), (q_owners, .inl (cI, 120, .inl v_owners)), (q_isLoose, .inl (cZ, 120, .inl v_isLoose)), (q_parts, .inl (cI, 360, .inl v_parts)), (q_out, .inl (cI, 60, .inl v_out)), (q_text, .inl (cI, 1000, .inl v_text)), (q_work, .inl (cI, 2010, .inl v_work)), (q_ranks, .inl (cI, 2010, .inl v_ranks)), (q_form, .inl (cI, 2000, .inl v_form)), (q_waits, .inl (cI, 1000, .inl v_waits)), (q_met, .inl (cZ, 120, .inl v_met))]) [0, 1, 2, 3, 4, 5, 6, 7, 8, 9, 10, 11, 12, 13, 14, 15, 16] rfl
    have hDc := hD.sub (ws' := [(q_this, .inr (6, [.int v_fault, .int v_marks, .ref q_markFirst, .ref q_markLast, .ref q_markClass, .int v_kinds, .ref q_kindFirst, .ref q_kindLast, .ref q_kindOf, .int v_rows, .ref q_owners, .ref q_isLoose, .ref q_parts, .int v_excluded, .ref q_out, .int v_size, .ref q_text, .int v_many, .ref q_work, .ref q_ranks, .int v_shown, .int v_wasAsked, .ref q_form, .int v_waiting, .ref q_waits, .ref q_met])), (q_markFirst, .inl (cI, 60, .inl v_markFirst)), (q_markLast, .inl (cI, 60, .inl v_markLast)), (q_markClass, .inl (cI, 60, .inl v_markClass)), (q_kindFirst, .inl (cI, 60, .inl v_kindFirst)), (q_kindLast, .inl (cI, 60, .inl v_kindLast)), (q_kindOf, .inl (cI, 60, .inl v_kindOf)), (q_owners, .inl (cI, 120, .inl v_owners)), (q_isLoose, .inl (cZ, 120, .inl v_isLoose)), (q_parts, .inl (cI, 360, .inl v_parts)), (q_out, .inl (cI, 60, .inl v_out)), (q_text, .inl (cI, 1000, .inl v_text)), (q_work, .inl (cI, 2010, .inl v_work)), (q_ranks, .inl (cI, 2010, .inl v_ranks)), (q_form, .inl (cI, 2000, .inl v_form)), (q_waits, .inl (cI, 1000, .inl v_waits)), (q_met, .inl (cZ, 120, .inl v_met))]) [0, 1, 2, 3, 4, 5, 6, 7, 8, 9, 10, 11, 12, 13, 14, 15, 16] (by decide) rfl
    have hFc := va_free (wc := [(q_this, .inr (6, [.int v_fault, .int v_marks, .ref q_markFirst, .ref q_markLast, .ref q_markClass, .int v_kinds, .ref q_kindFirst, .ref q_kindLast, .ref q_kindOf, .int v_rows, .ref q_owners, .ref q_isLoose, .ref q_parts, .int v_excluded, .ref q_out, .int v_size, .ref q_text, .int v_many, .ref q_work, .ref q_ranks, .int v_shown, .int v_wasAsked, .ref q_form, .int v_waiting, .ref q_waits, .ref q_met])), (q_markFirst, .inl (cI, 60, .inl v_markFirst)), (q_markLast, .inl (cI, 60, .inl v_markLast)), (q_markClass, .inl (cI, 60, .inl v_markClass)), (q_kindFirst, .inl (cI, 60, .inl v_kindFirst)), (q_kindLast, .inl (cI, 60, .inl v_kindLast)), (q_kindOf, .inl (cI, 60, .inl v_kindOf)), (q_owners, .inl (cI, 120, .inl v_owners)), (q_isLoose, .inl (cZ, 120, .inl v_isLoose)), (q_parts, .inl (cI, 360, .inl v_parts)), (q_out, .inl (cI, 60, .inl v_out)), (q_text, .inl (cI, 1000, .inl v_text)), (q_work, .inl (cI, 2010, .inl v_work)), (q_ranks, .inl (cI, 2010, .inl v_ranks)), (q_form, .inl (cI, 2000, .inl v_form)), (q_waits, .inl (cI, 1000, .inl v_waits)), (q_met, .inl (cZ, 120, .inl v_met))]) hD hS hA [0, 1, 2, 3, 4, 5, 6, 7, 8, 9, 10, 11, 12, 13, 14, 15, 16] rfl
    refine va_calli (va_runV (As := [.int s0]) (rest := []) ⟨hx, hb, hml, hown, hts⟩ (m_X7_refused l dC dI cI cZ cJ q_this q_markFirst q_markLast q_markClass q_kindFirst q_kindLast q_kindOf q_owners q_isLoose q_parts q_out q_text q_work q_ranks q_form q_waits q_met v_fault v_marks v_kinds v_rows v_excluded v_size v_many v_shown v_wasAsked v_waiting v_markFirst v_markLast v_markClass v_kindFirst v_kindLast v_kindOf v_owners v_isLoose v_parts v_out v_text v_work v_ranks v_form v_waits v_met s0 H.size _ h) (cwV 1 hts (na_gV tw672 tw674 tp33 tw7 tw675 rfl) rfl rfl rfl (by decide +kernel) ⟨Nat.le_of_ble_eq_true rfl, Nat.le_of_ble_eq_true rfl⟩) ⟨fun a U g mk q => by obtain ⟨q0, q1, qP, qK, qD⟩ := q; exact ⟨q0, q1, qP, qK.same rfl, qD⟩, va_recv hK hPc (ci := 6) (q0 := 0) rfl rfl, fun U hU hW => ⟨rfl, by rw [hU], by rw [hU]; exact hPc, hKK.warm hW, hDc.weaken (fun _ _ _ _ => trivial)⟩⟩ rfl rfl hl.1 rfl (lv_room (Nat.le_of_ble_eq_true rfl)) dX7_mark_50 ⟨Nat.zero_le _, Nat.zero_le _⟩) hS (fun q _ h => hFc q h) hFc (fun r_50 u t H1 locs ht hvm h hB hz1 hk1 hS => ?_)
    obtain ⟨v_fault_50, rfl⟩ : ∃ z, z = u := ⟨_, rfl⟩
    obtain ⟨hP1, hD1⟩ := hB
    rw [ht] at hP1
    try dsimp only at h hP1 hD1
    obtain ⟨hP, hD⟩ := va_join (wr := []) (w1 := [(q_this, .inr (6, [.int v_fault_50, .int v_marks, .ref q_markFirst, .ref q_markLast, .ref q_markClass, .int v_kinds, .ref q_kindFirst, .ref q_kindLast, .ref q_kindOf, .int v_rows, .ref q_owners, .ref q_isLoose, .ref q_parts, .int v_excluded, .ref q_out, .int v_size, .ref q_text, .int v_many, .ref q_work, .ref q_ranks, .int v_shown, .int v_wasAsked, .ref q_form, .int v_waiting, .ref q_waits, .ref q_met])), (q_markFirst, .inl (cI, 60, .inl v_markFirst)), (q_markLast, .inl (cI, 60, .inl v_markLast)), (q_markClass, .inl (cI, 60, .inl v_markClass)), (q_kindFirst, .inl (cI, 60, .inl v_kindFirst)), (q_kindLast, .inl (cI, 60, .inl v_kindLast)), (q_kindOf, .inl (cI, 60, .inl v_kindOf)), (q_owners, .inl (cI, 120, .inl v_owners)), (q_isLoose, .inl (cZ, 120, .inl v_isLoose)), (q_parts, .inl (cI, 360, .inl v_parts)), (q_out, .inl (cI, 60, .inl v_out)), (q_text, .inl (cI, 1000, .inl v_text)), (q_work, .inl (cI, 2010, .inl v_work)), (q_ranks, .inl (cI, 2010, .inl v_ranks)), (q_form, .inl (cI, 2000, .inl v_form)), (q_waits, .inl (cI, 1000, .inl v_waits)), (q_met, .inl (cZ, 120, .inl v_met))]) hP hD [0, 1, 2, 3, 4, 5, 6, 7, 8, 9, 10, 11, 12, 13, 14, 15, 16] [] rfl rfl (by decide) (by decide) hk1 hFc hP1 hD1
    generalize H1 = H at hP hS ⊢
    have hP : va_P (dC, dI) vwC [(q_this, .inr (6, [.int v_fault_50, .int v_marks, .ref q_markFirst, .ref q_markLast, .ref q_markClass, .int v_kinds, .ref q_kindFirst, .ref q_kindLast, .ref q_kindOf, .int v_rows, .ref q_owners, .ref q_isLoose, .ref q_parts, .int v_excluded, .ref q_out, .int v_size, .ref q_text, .int v_many, .ref q_work, .ref q_ranks, .int v_shown, .int v_wasAsked, .ref q_form, .int v_waiting, .ref q_waits, .ref q_met])), (q_markFirst, .inl (cI, 60, .inl v_markFirst)), (q_markLast, .inl (cI, 60, .inl v_markLast)), (q_markClass, .inl (cI, 60, .inl v_markClass)), (q_kindFirst, .inl (cI, 60, .inl v_kindFirst)), (q_kindLast, .inl (cI, 60, .inl v_kindLast)), (q_kindOf, .inl (cI, 60, .inl v_kindOf)), (q_owners, .inl (cI, 120, .inl v_owners)), (q_isLoose, .inl (cZ, 120, .inl v_isLoose)), (q_parts, .inl (cI, 360, .inl v_parts)), (q_out, .inl (cI, 60, .inl v_out)), (q_text, .inl (cI, 1000, .inl v_text)), (q_work, .inl (cI, 2010, .inl v_work)), (q_ranks, .inl (cI, 2010, .inl v_ranks)), (q_form, .inl (cI, 2000, .inl v_form)), (q_waits, .inl (cI, 1000, .inl v_waits)), (q_met, .inl (cZ, 120, .inl v_met))] H := hP.sub [0, 1, 2, 3, 4, 5, 6, 7, 8, 9, 10, 11, 12, 13, 14, 15, 16] rfl
    have hD : va_D A [(q_this, .inr (6, [.int v_fault_50, .int v_marks, .ref q_markFirst, .ref q_markLast, .ref q_markClass, .int v_kinds, .ref q_kindFirst, .ref q_kindLast, .ref q_kindOf, .int v_rows, .ref q_owners, .ref q_isLoose, .ref q_parts, .int v_excluded, .ref q_out, .int v_size, .ref q_text, .int v_many, .ref q_work, .ref q_ranks, .int v_shown, .int v_wasAsked, .ref q_form, .int v_waiting, .ref q_waits, .ref q_met])), (q_markFirst, .inl (cI, 60, .inl v_markFirst)), (q_markLast, .inl (cI, 60, .inl v_markLast)), (q_markClass, .inl (cI, 60, .inl v_markClass)), (q_kindFirst, .inl (cI, 60, .inl v_kindFirst)), (q_kindLast, .inl (cI, 60, .inl v_kindLast)), (q_kindOf, .inl (cI, 60, .inl v_kindOf)), (q_owners, .inl (cI, 120, .inl v_owners)), (q_isLoose, .inl (cZ, 120, .inl v_isLoose)), (q_parts, .inl (cI, 360, .inl v_parts)), (q_out, .inl (cI, 60, .inl v_out)), (q_text, .inl (cI, 1000, .inl v_text)), (q_work, .inl (cI, 2010, .inl v_work)), (q_ranks, .inl (cI, 2010, .inl v_ranks)), (q_form, .inl (cI, 2000, .inl v_form)), (q_waits, .inl (cI, 1000, .inl v_waits)), (q_met, .inl (cZ, 120, .inl v_met))] := hD.sub [0, 1, 2, 3, 4, 5, 6, 7, 8, 9, 10, 11, 12, 13, 14, 15, 16] (by decide) rfl
    refine lv_if_ne (tgt := 96) hx hb dX7_mark_53 (by decide) (fun c9 => ?_) (fun c9 => ?_)
    · replace h := h.1 c9
      rw [hQQ]
      exact W.vret hx hb hr (fun t ht hW => ⟨⟨(v_fault_50, v_marks, v_markFirst, v_markLast, v_markClass), rfl, h, by rw [ht]; exact hP, hD⟩, hS.F ht⟩) hS.2.2 dX7_mark_96
    · replace h := h.2 c9
      refine lv_aload_n hx hb dX7_mark_56 rfl (lv_at hl 0 rfl) ?_
      refine va_get (D := (dC, dI)) (ci := 6) (v := .ref q_markFirst) (C := RX7) (T := TX7) (N := 26) hx hb hts inX7 hown hK hP 0 rfl rfl 2 (by decide) (hts _ tw580) (fun _ h9 => h9) rfl dX7_mark_57 ?_
      refine lv_aload_n hx hb dX7_mark_60 rfl (lv_at hl 0 rfl) ?_
      refine va_get (D := (dC, dI)) (ci := 6) (v := .int v_marks) (C := RX7) (T := TX7) (N := 26) hx hb hts inX7 hown hK hP 0 rfl rfl 1 (by decide) (hts _ tw579) (fun _ h9 => h9) rfl dX7_mark_61 ?_
      refine lv_iload_n hx hb dX7_mark_64 rfl (lv_at hl 1 rfl) ?_
      obtain ⟨hin, h⟩ := h
      refine va_iast hx hb hK hP hD hS 1 0 rfl rfl hin dX7_mark_65 (fun H locs hP hD hS => ?_)
      have hP : va_P (dC, dI) vwC [(q_this, .inr (6, [.int v_fault_50, .int v_marks, .ref q_markFirst, .ref q_markLast, .ref q_markClass, .int v_kinds, .ref q_kindFirst, .ref q_kindLast, .ref q_kindOf, .int v_rows, .ref q_owners, .ref q_isLoose, .ref q_parts, .int v_excluded, .ref q_out, .int v_size, .ref q_text, .int v_many, .ref q_work, .ref q_ranks, .int v_shown, .int v_wasAsked, .ref q_form, .int v_waiting, .ref q_waits, .ref q_met])), (q_markFirst, .inl (cI, 60, .inl (upd v_markFirst v_marks.toNatClampNeg a1))), (q_markLast, .inl (cI, 60, .inl v_markLast)), (q_markClass, .inl (cI, 60, .inl v_markClass)), (q_kindFirst, .inl (cI, 60, .inl v_kindFirst)), (q_kindLast, .inl (cI, 60, .inl v_kindLast)), (q_kindOf, .inl (cI, 60, .inl v_kindOf)), (q_owners, .inl (cI, 120, .inl v_owners)), (q_isLoose, .inl (cZ, 120, .inl v_isLoose)), (q_parts, .inl (cI, 360, .inl v_parts)), (q_out, .inl (cI, 60, .inl v_out)), (q_text, .inl (cI, 1000, .inl v_text)), (q_work, .inl (cI, 2010, .inl v_work)), (q_ranks, .inl (cI, 2010, .inl v_ranks)), (q_form, .inl (cI, 2000, .inl v_form)), (q_waits, .inl (cI, 1000, .inl v_waits)), (q_met, .inl (cZ, 120, .inl v_met))] H := hP
      have hD : va_D A [(q_this, .inr (6, [.int v_fault_50, .int v_marks, .ref q_markFirst, .ref q_markLast, .ref q_markClass, .int v_kinds, .ref q_kindFirst, .ref q_kindLast, .ref q_kindOf, .int v_rows, .ref q_owners, .ref q_isLoose, .ref q_parts, .int v_excluded, .ref q_out, .int v_size, .ref q_text, .int v_many, .ref q_work, .ref q_ranks, .int v_shown, .int v_wasAsked, .ref q_form, .int v_waiting, .ref q_waits, .ref q_met])), (q_markFirst, .inl (cI, 60, .inl (upd v_markFirst v_marks.toNatClampNeg a1))), (q_markLast, .inl (cI, 60, .inl v_markLast)), (q_markClass, .inl (cI, 60, .inl v_markClass)), (q_kindFirst, .inl (cI, 60, .inl v_kindFirst)), (q_kindLast, .inl (cI, 60, .inl v_kindLast)), (q_kindOf, .inl (cI, 60, .inl v_kindOf)), (q_owners, .inl (cI, 120, .inl v_owners)), (q_isLoose, .inl (cZ, 120, .inl v_isLoose)), (q_parts, .inl (cI, 360, .inl v_parts)), (q_out, .inl (cI, 60, .inl v_out)), (q_text, .inl (cI, 1000, .inl v_text)), (q_work, .inl (cI, 2010, .inl v_work)), (q_ranks, .inl (cI, 2010, .inl v_ranks)), (q_form, .inl (cI, 2000, .inl v_form)), (q_waits, .inl (cI, 1000, .inl v_waits)), (q_met, .inl (cZ, 120, .inl v_met))] := hD
      refine lv_aload_n hx hb dX7_mark_66 rfl (lv_at hl 0 rfl) ?_
      refine va_get (D := (dC, dI)) (ci := 6) (v := .ref q_markLast) (C := RX7) (T := TX7) (N := 26) hx hb hts inX7 hown hK hP 0 rfl rfl 3 (by decide) (hts _ tw581) (fun _ h9 => h9) rfl dX7_mark_67 ?_
      refine lv_aload_n hx hb dX7_mark_70 rfl (lv_at hl 0 rfl) ?_
      refine va_get (D := (dC, dI)) (ci := 6) (v := .int v_marks) (C := RX7) (T := TX7) (N := 26) hx hb hts inX7 hown hK hP 0 rfl rfl 1 (by decide) (hts _ tw579) (fun _ h9 => h9) rfl dX7_mark_71 ?_
      refine lv_iload_n hx hb dX7_mark_74 rfl (lv_at hl 2 rfl) ?_
      obtain ⟨hin, h⟩ := h
      refine va_iast hx hb hK hP hD hS 2 0 rfl rfl hin dX7_mark_75 (fun H locs hP hD hS => ?_)
      have hP : va_P (dC, dI) vwC [(q_this, .inr (6, [.int v_fault_50, .int v_marks, .ref q_markFirst, .ref q_markLast, .ref q_markClass, .int v_kinds, .ref q_kindFirst, .ref q_kindLast, .ref q_kindOf, .int v_rows, .ref q_owners, .ref q_isLoose, .ref q_parts, .int v_excluded, .ref q_out, .int v_size, .ref q_text, .int v_many, .ref q_work, .ref q_ranks, .int v_shown, .int v_wasAsked, .ref q_form, .int v_waiting, .ref q_waits, .ref q_met])), (q_markFirst, .inl (cI, 60, .inl (upd v_markFirst v_marks.toNatClampNeg a1))), (q_markLast, .inl (cI, 60, .inl (upd v_markLast v_marks.toNatClampNeg a2))), (q_markClass, .inl (cI, 60, .inl v_markClass)), (q_kindFirst, .inl (cI, 60, .inl v_kindFirst)), (q_kindLast, .inl (cI, 60, .inl v_kindLast)), (q_kindOf, .inl (cI, 60, .inl v_kindOf)), (q_owners, .inl (cI, 120, .inl v_owners)), (q_isLoose, .inl (cZ, 120, .inl v_isLoose)), (q_parts, .inl (cI, 360, .inl v_parts)), (q_out, .inl (cI, 60, .inl v_out)), (q_text, .inl (cI, 1000, .inl v_text)), (q_work, .inl (cI, 2010, .inl v_work)), (q_ranks, .inl (cI, 2010, .inl v_ranks)), (q_form, .inl (cI, 2000, .inl v_form)), (q_waits, .inl (cI, 1000, .inl v_waits)), (q_met, .inl (cZ, 120, .inl v_met))] H := hP
      have hD : va_D A [(q_this, .inr (6, [.int v_fault_50, .int v_marks, .ref q_markFirst, .ref q_markLast, .ref q_markClass, .int v_kinds, .ref q_kindFirst, .ref q_kindLast, .ref q_kindOf, .int v_rows, .ref q_owners, .ref q_isLoose, .ref q_parts, .int v_excluded, .ref q_out, .int v_size, .ref q_text, .int v_many, .ref q_work, .ref q_ranks, .int v_shown, .int v_wasAsked, .ref q_form, .int v_waiting, .ref q_waits, .ref q_met])), (q_markFirst, .inl (cI, 60, .inl (upd v_markFirst v_marks.toNatClampNeg a1))), (q_markLast, .inl (cI, 60, .inl (upd v_markLast v_marks.toNatClampNeg a2))), (q_markClass, .inl (cI, 60, .inl v_markClass)), (q_kindFirst, .inl (cI, 60, .inl v_kindFirst)), (q_kindLast, .inl (cI, 60, .inl v_kindLast)), (q_kindOf, .inl (cI, 60, .inl v_kindOf)), (q_owners, .inl (cI, 120, .inl v_owners)), (q_isLoose, .inl (cZ, 120, .inl v_isLoose)), (q_parts, .inl (cI, 360, .inl v_parts)), (q_out, .inl (cI, 60, .inl v_out)), (q_text, .inl (cI, 1000, .inl v_text)), (q_work, .inl (cI, 2010, .inl v_work)), (q_ranks, .inl (cI, 2010, .inl v_ranks)), (q_form, .inl (cI, 2000, .inl v_form)), (q_waits, .inl (cI, 1000, .inl v_waits)), (q_met, .inl (cZ, 120, .inl v_met))] := hD
      refine lv_aload_n hx hb dX7_mark_76 rfl (lv_at hl 0 rfl) ?_
      refine va_get (D := (dC, dI)) (ci := 6) (v := .ref q_markClass) (C := RX7) (T := TX7) (N := 26) hx hb hts inX7 hown hK hP 0 rfl rfl 4 (by decide) (hts _ tw582) (fun _ h9 => h9) rfl dX7_mark_77 ?_
      refine lv_aload_n hx hb dX7_mark_80 rfl (lv_at hl 0 rfl) ?_
      refine va_get (D := (dC, dI)) (ci := 6) (v := .int v_marks) (C := RX7) (T := TX7) (N := 26) hx hb hts inX7 hown hK hP 0 rfl rfl 1 (by decide) (hts _ tw579) (fun _ h9 => h9) rfl dX7_mark_81 ?_
      refine lv_iload_n hx hb dX7_mark_84 rfl (lv_at hl 3 rfl) ?_
      obtain ⟨hin, h⟩ := h
      refine va_iast hx hb hK hP hD hS 3 0 rfl rfl hin dX7_mark_85 (fun H locs hP hD hS => ?_)
      have hP : va_P (dC, dI) vwC [(q_this, .inr (6, [.int v_fault_50, .int v_marks, .ref q_markFirst, .ref q_markLast, .ref q_markClass, .int v_kinds, .ref q_kindFirst, .ref q_kindLast, .ref q_kindOf, .int v_rows, .ref q_owners, .ref q_isLoose, .ref q_parts, .int v_excluded, .ref q_out, .int v_size, .ref q_text, .int v_many, .ref q_work, .ref q_ranks, .int v_shown, .int v_wasAsked, .ref q_form, .int v_waiting, .ref q_waits, .ref q_met])), (q_markFirst, .inl (cI, 60, .inl (upd v_markFirst v_marks.toNatClampNeg a1))), (q_markLast, .inl (cI, 60, .inl (upd v_markLast v_marks.toNatClampNeg a2))), (q_markClass, .inl (cI, 60, .inl (upd v_markClass v_marks.toNatClampNeg a3))), (q_kindFirst, .inl (cI, 60, .inl v_kindFirst)), (q_kindLast, .inl (cI, 60, .inl v_kindLast)), (q_kindOf, .inl (cI, 60, .inl v_kindOf)), (q_owners, .inl (cI, 120, .inl v_owners)), (q_isLoose, .inl (cZ, 120, .inl v_isLoose)), (q_parts, .inl (cI, 360, .inl v_parts)), (q_out, .inl (cI, 60, .inl v_out)), (q_text, .inl (cI, 1000, .inl v_text)), (q_work, .inl (cI, 2010, .inl v_work)), (q_ranks, .inl (cI, 2010, .inl v_ranks)), (q_form, .inl (cI, 2000, .inl v_form)), (q_waits, .inl (cI, 1000, .inl v_waits)), (q_met, .inl (cZ, 120, .inl v_met))] H := hP
      have hD : va_D A [(q_this, .inr (6, [.int v_fault_50, .int v_marks, .ref q_markFirst, .ref q_markLast, .ref q_markClass, .int v_kinds, .ref q_kindFirst, .ref q_kindLast, .ref q_kindOf, .int v_rows, .ref q_owners, .ref q_isLoose, .ref q_parts, .int v_excluded, .ref q_out, .int v_size, .ref q_text, .int v_many, .ref q_work, .ref q_ranks, .int v_shown, .int v_wasAsked, .ref q_form, .int v_waiting, .ref q_waits, .ref q_met])), (q_markFirst, .inl (cI, 60, .inl (upd v_markFirst v_marks.toNatClampNeg a1))), (q_markLast, .inl (cI, 60, .inl (upd v_markLast v_marks.toNatClampNeg a2))), (q_markClass, .inl (cI, 60, .inl (upd v_markClass v_marks.toNatClampNeg a3))), (q_kindFirst, .inl (cI, 60, .inl v_kindFirst)), (q_kindLast, .inl (cI, 60, .inl v_kindLast)), (q_kindOf, .inl (cI, 60, .inl v_kindOf)), (q_owners, .inl (cI, 120, .inl v_owners)), (q_isLoose, .inl (cZ, 120, .inl v_isLoose)), (q_parts, .inl (cI, 360, .inl v_parts)), (q_out, .inl (cI, 60, .inl v_out)), (q_text, .inl (cI, 1000, .inl v_text)), (q_work, .inl (cI, 2010, .inl v_work)), (q_ranks, .inl (cI, 2010, .inl v_ranks)), (q_form, .inl (cI, 2000, .inl v_form)), (q_waits, .inl (cI, 1000, .inl v_waits)), (q_met, .inl (cZ, 120, .inl v_met))] := hD
      refine lv_aload_n hx hb dX7_mark_86 rfl (lv_at hl 0 rfl) ?_
      refine lv_dup hx hb dX7_mark_87 rfl ?_
      refine va_get (D := (dC, dI)) (ci := 6) (v := .int v_marks) (C := RX7) (T := TX7) (N := 26) hx hb hts inX7 hown hK hP 0 rfl rfl 1 (by decide) (hts _ tw579) (fun _ h9 => h9) rfl dX7_mark_88 ?_
      refine lv_iconst (v := (1 : Int32)) hx hb dX7_mark_91 (by decide) ?_
      refine lv_iadd hx hb dX7_mark_92 ?_
      refine va_put (D := (dC, dI)) (ci := 6) (v := .int (v_marks + (1 : Int32))) (ty := .int) (C := RX7) (T := TX7) (N := 26) hx hb hts inX7 tyX7 tyX7_ok nmX7 hown hK hP hD hS 0 rfl rfl 1 (by decide) (hts _ tw579) (fun _ h9 => h9) rfl (by decide +kernel) rfl rfl (Nat.le_of_ble_eq_true rfl) dX7_mark_93 (fun H locs hP hD hS => ?_)
      have hP : va_P (dC, dI) vwC [(q_this, .inr (6, [.int v_fault_50, .int (v_marks + (1 : Int32)), .ref q_markFirst, .ref q_markLast, .ref q_markClass, .int v_kinds, .ref q_kindFirst, .ref q_kindLast, .ref q_kindOf, .int v_rows, .ref q_owners, .ref q_isLoose, .ref q_parts, .int v_excluded, .ref q_out, .int v_size, .ref q_text, .int v_many, .ref q_work, .ref q_ranks, .int v_shown, .int v_wasAsked, .ref q_form, .int v_waiting, .ref q_waits, .ref q_met])), (q_markFirst, .inl (cI, 60, .inl (upd v_markFirst v_marks.toNatClampNeg a1))), (q_markLast, .inl (cI, 60, .inl (upd v_markLast v_marks.toNatClampNeg a2))), (q_markClass, .inl (cI, 60, .inl (upd v_markClass v_marks.toNatClampNeg a3))), (q_kindFirst, .inl (cI, 60, .inl v_kindFirst)), (q_kindLast, .inl (cI, 60, .inl v_kindLast)), (q_kindOf, .inl (cI, 60, .inl v_kindOf)), (q_owners, .inl (cI, 120, .inl v_owners)), (q_isLoose, .inl (cZ, 120, .inl v_isLoose)), (q_parts, .inl (cI, 360, .inl v_parts)), (q_out, .inl (cI, 60, .inl v_out)), (q_text, .inl (cI, 1000, .inl v_text)), (q_work, .inl (cI, 2010, .inl v_work)), (q_ranks, .inl (cI, 2010, .inl v_ranks)), (q_form, .inl (cI, 2000, .inl v_form)), (q_waits, .inl (cI, 1000, .inl v_waits)), (q_met, .inl (cZ, 120, .inl v_met))] H := hP
      have hD : va_D A [(q_this, .inr (6, [.int v_fault_50, .int (v_marks + (1 : Int32)), .ref q_markFirst, .ref q_markLast, .ref q_markClass, .int v_kinds, .ref q_kindFirst, .ref q_kindLast, .ref q_kindOf, .int v_rows, .ref q_owners, .ref q_isLoose, .ref q_parts, .int v_excluded, .ref q_out, .int v_size, .ref q_text, .int v_many, .ref q_work, .ref q_ranks, .int v_shown, .int v_wasAsked, .ref q_form, .int v_waiting, .ref q_waits, .ref q_met])), (q_markFirst, .inl (cI, 60, .inl (upd v_markFirst v_marks.toNatClampNeg a1))), (q_markLast, .inl (cI, 60, .inl (upd v_markLast v_marks.toNatClampNeg a2))), (q_markClass, .inl (cI, 60, .inl (upd v_markClass v_marks.toNatClampNeg a3))), (q_kindFirst, .inl (cI, 60, .inl v_kindFirst)), (q_kindLast, .inl (cI, 60, .inl v_kindLast)), (q_kindOf, .inl (cI, 60, .inl v_kindOf)), (q_owners, .inl (cI, 120, .inl v_owners)), (q_isLoose, .inl (cZ, 120, .inl v_isLoose)), (q_parts, .inl (cI, 360, .inl v_parts)), (q_out, .inl (cI, 60, .inl v_out)), (q_text, .inl (cI, 1000, .inl v_text)), (q_work, .inl (cI, 2010, .inl v_work)), (q_ranks, .inl (cI, 2010, .inl v_ranks)), (q_form, .inl (cI, 2000, .inl v_form)), (q_waits, .inl (cI, 1000, .inl v_waits)), (q_met, .inl (cZ, 120, .inl v_met))] := hD
      rw [hQQ]
      exact W.vret hx hb hr (fun t ht hW => ⟨⟨(v_fault_50, (v_marks + (1 : Int32)), (upd v_markFirst v_marks.toNatClampNeg a1), (upd v_markLast v_marks.toNatClampNeg a2), (upd v_markClass v_marks.toNatClampNeg a3)), rfl, h, by rw [ht]; exact hP, hD⟩, hS.F ht⟩) hS.2.2 dX7_mark_96
  have P24 : ∀ (v_fault : Int32) (v_marks : Int32) (v_markFirst : Nat → Int32) (v_markLast : Nat → Int32) (v_markClass : Nat → Int32) (s0 : Int32) , w_X7_mark_24 post v_marks v_markFirst v_markLast v_markClass a1 a2 a3 s0 → ∀ (H : Heap) (locs : List Loc), va_P (dC, dI) vwC [(q_this, .inr (6, [.int v_fault, .int v_marks, .ref q_markFirst, .ref q_markLast, .ref q_markClass, .int v_kinds, .ref q_kindFirst, .ref q_kindLast, .ref q_kindOf, .int v_rows, .ref q_owners, .ref q_isLoose, .ref q_parts, .int v_excluded, .ref q_out, .int v_size, .ref q_text, .int v_many, .ref q_work, .ref q_ranks, .int v_shown, .int v_wasAsked, .ref q_form, .int v_waiting, .ref q_waits, .ref q_met])), (q_markFirst, .inl (cI, 60, .inl v_markFirst)), (q_markLast, .inl (cI, 60, .inl v_markLast)), (q_markClass, .inl (cI, 60, .inl v_markClass)), (q_kindFirst, .inl (cI, 60, .inl v_kindFirst)), (q_kindLast, .inl (cI, 60, .inl v_kindLast)), (q_kindOf, .inl (cI, 60, .inl v_kindOf)), (q_owners, .inl (cI, 120, .inl v_owners)), (q_isLoose, .inl (cZ, 120, .inl v_isLoose)), (q_parts, .inl (cI, 360, .inl v_parts)), (q_out, .inl (cI, 60, .inl v_out)), (q_text, .inl (cI, 1000, .inl v_text)), (q_work, .inl (cI, 2010, .inl v_work)), (q_ranks, .inl (cI, 2010, .inl v_ranks)), (q_form, .inl (cI, 2000, .inl v_form)), (q_waits, .inl (cI, 1000, .inl v_waits)), (q_met, .inl (cZ, 120, .inl v_met))] H → va_D A [(q_this, .inr (6, [.int v_fault, .int v_marks, .ref q_markFirst, .ref q_markLast, .ref q_markClass, .int v_kinds, .ref q_kindFirst, .ref q_kindLast, .ref q_kindOf, .int v_rows, .ref q_owners, .ref q_isLoose, .ref q_parts, .int v_excluded, .ref q_out, .int v_size, .ref q_text, .int v_many, .ref q_work, .ref q_ranks, .int v_shown, .int v_wasAsked, .ref q_form, .int v_waiting, .ref q_waits, .ref q_met])), (q_markFirst, .inl (cI, 60, .inl v_markFirst)), (q_markLast, .inl (cI, 60, .inl v_markLast)), (q_markClass, .inl (cI, 60, .inl v_markClass)), (q_kindFirst, .inl (cI, 60, .inl v_kindFirst)), (q_kindLast, .inl (cI, 60, .inl v_kindLast)), (q_kindOf, .inl (cI, 60, .inl v_kindOf)), (q_owners, .inl (cI, 120, .inl v_owners)), (q_isLoose, .inl (cZ, 120, .inl v_isLoose)), (q_parts, .inl (cI, 360, .inl v_parts)), (q_out, .inl (cI, 60, .inl v_out)), (q_text, .inl (cI, 1000, .inl v_text)), (q_work, .inl (cI, 2010, .inl v_work)), (q_ranks, .inl (cI, 2010, .inl v_ranks)), (q_form, .inl (cI, 2000, .inl v_form)), (q_waits, .inl (cI, 1000, .inl v_waits)), (q_met, .inl (cZ, 120, .inl v_met))] → va_S A s.heap H locs → ∀ (ls : Array Slot), lv_has ls 5 [(0, .ref q_this), (1, .int a1), (2, .int a2), (3, .int a3)] → W p l e (headSpec [.code yX7_mark cX7_mark 5 none] ({ frames := 2, cells := 0, slots := 0, locals := 41 } : Room)).room s m (List.toArray [.ref q_this, .int a1, .int a2, .int a3]) below meth c H locs 0 0 QQ (F0 m 24 ls [.int s0]) := by
    intro v_fault v_marks v_markFirst v_markLast v_markClass s0 h H locs hP hD hS ls hl
    refine lv_istore (lv' := [(4, .int s0), (0, .ref q_this), (1, .int a1), (2, .int a2), (3, .int a3)]) hx hb dX7_mark_24 hl (by decide) rfl (fun ls hl => ?_)
    refine lv_aload_n hx hb dX7_mark_26 rfl (lv_at hl 1 rfl) ?_
    refine lv_iload hx hb dX7_mark_27 (lv_at hl 0 rfl) ?_
    refine lv_if_ne (tgt := 36) hx hb dX7_mark_29 (by decide) (fun c9 => ?_) (fun c9 => ?_)
    · replace h := h.1 c9
      refine lv_aload_n hx hb dX7_mark_36 rfl (lv_at hl 1 rfl) ?_
      refine va_get (D := (dC, dI)) (ci := 6) (v := .int v_marks) (C := RX7) (T := TX7) (N := 26) hx hb hts inX7 hown hK hP 0 rfl rfl 1 (by decide) (hts _ tw579) (fun _ h9 => h9) rfl dX7_mark_37 ?_
      refine lv_bipush (v := (60 : Int32)) hx hb dX7_mark_40 (by decide) ?_
      refine lv_icmp_ne (tgt := 49) hx hb dX7_mark_42 (by decide) (fun c9 => ?_) (fun c9 => ?_)
      · replace h := h.1 c9
        refine lv_iconst (v := (0 : Int32)) hx hb dX7_mark_49 (by decide) ?_
        refine P50 v_fault v_marks v_markFirst v_markLast v_markClass (0 : Int32) h _ _ hP hD hS ls (lv_sub hl [1, 2, 3, 4] rfl)
      · replace h := h.2 c9
        refine lv_iconst (v := (2 : Int32)) hx hb dX7_mark_45 (by decide) ?_
        refine lv_goto (tgt := 50) hx hb dX7_mark_46 (by decide) ?_
        refine P50 v_fault v_marks v_markFirst v_markLast v_markClass (2 : Int32) h _ _ hP hD hS ls (lv_sub hl [1, 2, 3, 4] rfl)
    · replace h := h.2 c9
      refine lv_iconst (v := (1 : Int32)) hx hb dX7_mark_32 (by decide) ?_
      refine lv_goto (tgt := 50) hx hb dX7_mark_33 (by decide) ?_
      refine P50 v_fault v_marks v_markFirst v_markLast v_markClass (1 : Int32) h _ _ hP hD hS ls (lv_sub hl [1, 2, 3, 4] rfl)
  have P23 : ∀ (v_fault : Int32) (v_marks : Int32) (v_markFirst : Nat → Int32) (v_markLast : Nat → Int32) (v_markClass : Nat → Int32) , w_X7_mark_23 post v_marks v_markFirst v_markLast v_markClass a1 a2 a3 → ∀ (H : Heap) (locs : List Loc), va_P (dC, dI) vwC [(q_this, .inr (6, [.int v_fault, .int v_marks, .ref q_markFirst, .ref q_markLast, .ref q_markClass, .int v_kinds, .ref q_kindFirst, .ref q_kindLast, .ref q_kindOf, .int v_rows, .ref q_owners, .ref q_isLoose, .ref q_parts, .int v_excluded, .ref q_out, .int v_size, .ref q_text, .int v_many, .ref q_work, .ref q_ranks, .int v_shown, .int v_wasAsked, .ref q_form, .int v_waiting, .ref q_waits, .ref q_met])), (q_markFirst, .inl (cI, 60, .inl v_markFirst)), (q_markLast, .inl (cI, 60, .inl v_markLast)), (q_markClass, .inl (cI, 60, .inl v_markClass)), (q_kindFirst, .inl (cI, 60, .inl v_kindFirst)), (q_kindLast, .inl (cI, 60, .inl v_kindLast)), (q_kindOf, .inl (cI, 60, .inl v_kindOf)), (q_owners, .inl (cI, 120, .inl v_owners)), (q_isLoose, .inl (cZ, 120, .inl v_isLoose)), (q_parts, .inl (cI, 360, .inl v_parts)), (q_out, .inl (cI, 60, .inl v_out)), (q_text, .inl (cI, 1000, .inl v_text)), (q_work, .inl (cI, 2010, .inl v_work)), (q_ranks, .inl (cI, 2010, .inl v_ranks)), (q_form, .inl (cI, 2000, .inl v_form)), (q_waits, .inl (cI, 1000, .inl v_waits)), (q_met, .inl (cZ, 120, .inl v_met))] H → va_D A [(q_this, .inr (6, [.int v_fault, .int v_marks, .ref q_markFirst, .ref q_markLast, .ref q_markClass, .int v_kinds, .ref q_kindFirst, .ref q_kindLast, .ref q_kindOf, .int v_rows, .ref q_owners, .ref q_isLoose, .ref q_parts, .int v_excluded, .ref q_out, .int v_size, .ref q_text, .int v_many, .ref q_work, .ref q_ranks, .int v_shown, .int v_wasAsked, .ref q_form, .int v_waiting, .ref q_waits, .ref q_met])), (q_markFirst, .inl (cI, 60, .inl v_markFirst)), (q_markLast, .inl (cI, 60, .inl v_markLast)), (q_markClass, .inl (cI, 60, .inl v_markClass)), (q_kindFirst, .inl (cI, 60, .inl v_kindFirst)), (q_kindLast, .inl (cI, 60, .inl v_kindLast)), (q_kindOf, .inl (cI, 60, .inl v_kindOf)), (q_owners, .inl (cI, 120, .inl v_owners)), (q_isLoose, .inl (cZ, 120, .inl v_isLoose)), (q_parts, .inl (cI, 360, .inl v_parts)), (q_out, .inl (cI, 60, .inl v_out)), (q_text, .inl (cI, 1000, .inl v_text)), (q_work, .inl (cI, 2010, .inl v_work)), (q_ranks, .inl (cI, 2010, .inl v_ranks)), (q_form, .inl (cI, 2000, .inl v_form)), (q_waits, .inl (cI, 1000, .inl v_waits)), (q_met, .inl (cZ, 120, .inl v_met))] → va_S A s.heap H locs → ∀ (ls : Array Slot), lv_has ls 5 [(0, .ref q_this), (1, .int a1), (2, .int a2), (3, .int a3)] → W p l e (headSpec [.code yX7_mark cX7_mark 5 none] ({ frames := 2, cells := 0, slots := 0, locals := 41 } : Room)).room s m (List.toArray [.ref q_this, .int a1, .int a2, .int a3]) below meth c H locs 0 0 QQ (F0 m 23 ls []) := by
    intro v_fault v_marks v_markFirst v_markLast v_markClass h H locs hP hD hS ls hl
    refine lv_iconst (v := (0 : Int32)) hx hb dX7_mark_23 (by decide) ?_
    refine P24 v_fault v_marks v_markFirst v_markLast v_markClass (0 : Int32) h _ _ hP hD hS ls (lv_sub hl [0, 1, 2, 3] rfl)
  refine lv_iload_n hx hb dX7_mark_0 rfl (lv_at hl 1 rfl) ?_
  refine lv_iload_n hx hb dX7_mark_1 rfl (lv_at hl 2 rfl) ?_
  have hPc := hP.sub (ws' := []) [] rfl
  refine na_calls (va_runS (As := [.int a1, .int a2]) (rest := []) ⟨hx, hb, hml, hown, hts⟩ (m_X7_isRange l dC dI cI cZ cJ a1 a2 _ h) (cwS 2 hts (na_gS tw665 tw666 tw7 tw667 rfl) rfl rfl rfl (by decide +kernel) ⟨Nat.le_of_ble_eq_true rfl, Nat.le_of_ble_eq_true rfl⟩) ⟨fun a U g mk q => by obtain ⟨q0, qP, qK⟩ := q; exact ⟨q0, qP, qK.same rfl⟩, fun U hU hW => ⟨rfl, by rw [hU]; exact hPc, hKK.warm hW⟩⟩ rfl rfl hl.1 rfl (lv_room (Nat.le_of_ble_eq_true rfl)) dX7_mark_2 ⟨Nat.zero_le _, Nat.zero_le _⟩) (fun r_2 h => ?_)
  refine lv_if_eq (tgt := 23) hx hb dX7_mark_5 (by decide) (fun c9 => ?_) (fun c9 => ?_)
  · replace h := h.1 c9
    refine P23 v_fault v_marks v_markFirst v_markLast v_markClass h _ _ hP hD hS ls (lv_sub hl [0, 1, 2, 3] rfl)
  · replace h := h.2 c9
    refine lv_iload_n hx hb dX7_mark_8 rfl (lv_at hl 3 rfl) ?_
    refine lv_if_lt (tgt := 23) hx hb dX7_mark_9 (by decide) (fun c9 => ?_) (fun c9 => ?_)
    · replace h := h.1 c9
      refine P23 v_fault v_marks v_markFirst v_markLast v_markClass h _ _ hP hD hS ls (lv_sub hl [0, 1, 2, 3] rfl)
    · replace h := h.2 c9
      refine lv_iload_n hx hb dX7_mark_12 rfl (lv_at hl 3 rfl) ?_
      refine lv_sipush (v := (254 : Int32)) hx hb dX7_mark_13 (by decide) ?_
      refine lv_icmp_gt (tgt := 23) hx hb dX7_mark_16 (by decide) (fun c9 => ?_) (fun c9 => ?_)
      · replace h := h.1 c9
        refine P23 v_fault v_marks v_markFirst v_markLast v_markClass h _ _ hP hD hS ls (lv_sub hl [0, 1, 2, 3] rfl)
      · replace h := h.2 c9
        refine lv_iconst (v := (1 : Int32)) hx hb dX7_mark_19 (by decide) ?_
        refine lv_goto (tgt := 24) hx hb dX7_mark_20 (by decide) ?_
        refine P24 v_fault v_marks v_markFirst v_markLast v_markClass (1 : Int32) h _ _ hP hD hS ls (lv_sub hl [0, 1, 2, 3] rfl)
set_option maxHeartbeats 4000000 in
set_option maxRecDepth 100000 in
theorem m_X7_property (l : Launch) (dC : Nat → ClassId) (dI : Nat → Nat → Nat) (cI cZ cJ : ClassId) (q_this : Nat) (q_markFirst : Nat) (q_markLast : Nat) (q_markClass : Nat) (q_kindFirst : Nat) (q_kindLast : Nat) (q_kindOf : Nat) (q_owners : Nat) (q_isLoose : Nat) (q_parts : Nat) (q_out : Nat) (q_text : Nat) (q_work : Nat) (q_ranks : Nat) (q_form : Nat) (q_waits : Nat) (q_met : Nat) (v_fault : Int32) (v_marks : Int32) (v_kinds : Int32) (v_rows : Int32) (v_excluded : Int32) (v_size : Int32) (v_many : Int32) (v_shown : Int32) (v_wasAsked : Int32) (v_waiting : Int32) (v_markFirst : Nat → Int32) (v_markLast : Nat → Int32) (v_markClass : Nat → Int32) (v_kindFirst : Nat → Int32) (v_kindLast : Nat → Int32) (v_kindOf : Nat → Int32) (v_owners : Nat → Int32) (v_isLoose : Nat → Int32) (v_parts : Nat → Int32) (v_out : Nat → Int32) (v_text : Nat → Int32) (v_work : Nat → Int32) (v_ranks : Nat → Int32) (v_form : Nat → Int32) (v_waits : Nat → Int32) (v_met : Nat → Int32) (a1 : Int32) (a2 : Int32) (a3 : Int32) (sz : Nat) (post : Int32 → Int32 → (Nat → Int32) → (Nat → Int32) → (Nat → Int32) → Prop) (h : w_X7_property post v_kinds v_kindFirst v_kindLast v_kindOf a1 a2 a3) : Met l yX7_property [.code yX7_property cX7_property 5 none] ({ frames := 2, cells := 0, slots := 0, locals := 41 } : Room) (va_Pc [.ref q_this, .int a1, .int a2, .int a3] (fun U => U.heap.size = sz ∧ va_P (dC, dI) vwC [(q_this, .inr (6, [.int v_fault, .int v_marks, .ref q_markFirst, .ref q_markLast, .ref q_markClass, .int v_kinds, .ref q_kindFirst, .ref q_kindLast, .ref q_kindOf, .int v_rows, .ref q_owners, .ref q_isLoose, .ref q_parts, .int v_excluded, .ref q_out, .int v_size, .ref q_text, .int v_many, .ref q_work, .ref q_ranks, .int v_shown, .int v_wasAsked, .ref q_form, .int v_waiting, .ref q_waits, .ref q_met])), (q_markFirst, .inl (cI, 60, .inl v_markFirst)), (q_markLast, .inl (cI, 60, .inl v_markLast)), (q_markClass, .inl (cI, 60, .inl v_markClass)), (q_kindFirst, .inl (cI, 60, .inl v_kindFirst)), (q_kindLast, .inl (cI, 60, .inl v_kindLast)), (q_kindOf, .inl (cI, 60, .inl v_kindOf)), (q_owners, .inl (cI, 120, .inl v_owners)), (q_isLoose, .inl (cZ, 120, .inl v_isLoose)), (q_parts, .inl (cI, 360, .inl v_parts)), (q_out, .inl (cI, 60, .inl v_out)), (q_text, .inl (cI, 1000, .inl v_text)), (q_work, .inl (cI, 2010, .inl v_work)), (q_ranks, .inl (cI, 2010, .inl v_ranks)), (q_form, .inl (cI, 2000, .inl v_form)), (q_waits, .inl (cI, 1000, .inl v_waits)), (q_met, .inl (cZ, 120, .inl v_met))] U.heap ∧ KK dC dI cI cZ cJ U ∧ va_D (fun _ => True) [(q_this, .inr (6, [.int v_fault, .int v_marks, .ref q_markFirst, .ref q_markLast, .ref q_markClass, .int v_kinds, .ref q_kindFirst, .ref q_kindLast, .ref q_kindOf, .int v_rows, .ref q_owners, .ref q_isLoose, .ref q_parts, .int v_excluded, .ref q_out, .int v_size, .ref q_text, .int v_many, .ref q_work, .ref q_ranks, .int v_shown, .int v_wasAsked, .ref q_form, .int v_waiting, .ref q_waits, .ref q_met])), (q_markFirst, .inl (cI, 60, .inl v_markFirst)), (q_markLast, .inl (cI, 60, .inl v_markLast)), (q_markClass, .inl (cI, 60, .inl v_markClass)), (q_kindFirst, .inl (cI, 60, .inl v_kindFirst)), (q_kindLast, .inl (cI, 60, .inl v_kindLast)), (q_kindOf, .inl (cI, 60, .inl v_kindOf)), (q_owners, .inl (cI, 120, .inl v_owners)), (q_isLoose, .inl (cZ, 120, .inl v_isLoose)), (q_parts, .inl (cI, 360, .inl v_parts)), (q_out, .inl (cI, 60, .inl v_out)), (q_text, .inl (cI, 1000, .inl v_text)), (q_work, .inl (cI, 2010, .inl v_work)), (q_ranks, .inl (cI, 2010, .inl v_ranks)), (q_form, .inl (cI, 2000, .inl v_form)), (q_waits, .inl (cI, 1000, .inl v_waits)), (q_met, .inl (cZ, 120, .inl v_met))])) (va_Qv (fun (u : Int32 × Int32 × (Nat → Int32) × (Nat → Int32) × (Nat → Int32)) => post u.1 u.2.1 u.2.2.1 u.2.2.2.1 u.2.2.2.2) (fun (u : Int32 × Int32 × (Nat → Int32) × (Nat → Int32) × (Nat → Int32)) (t : State) => va_P (dC, dI) vwC [(q_this, .inr (6, [.int u.1, .int v_marks, .ref q_markFirst, .ref q_markLast, .ref q_markClass, .int u.2.1, .ref q_kindFirst, .ref q_kindLast, .ref q_kindOf, .int v_rows, .ref q_owners, .ref q_isLoose, .ref q_parts, .int v_excluded, .ref q_out, .int v_size, .ref q_text, .int v_many, .ref q_work, .ref q_ranks, .int v_shown, .int v_wasAsked, .ref q_form, .int v_waiting, .ref q_waits, .ref q_met])), (q_markFirst, .inl (cI, 60, .inl v_markFirst)), (q_markLast, .inl (cI, 60, .inl v_markLast)), (q_markClass, .inl (cI, 60, .inl v_markClass)), (q_kindFirst, .inl (cI, 60, .inl u.2.2.1)), (q_kindLast, .inl (cI, 60, .inl u.2.2.2.1)), (q_kindOf, .inl (cI, 60, .inl u.2.2.2.2)), (q_owners, .inl (cI, 120, .inl v_owners)), (q_isLoose, .inl (cZ, 120, .inl v_isLoose)), (q_parts, .inl (cI, 360, .inl v_parts)), (q_out, .inl (cI, 60, .inl v_out)), (q_text, .inl (cI, 1000, .inl v_text)), (q_work, .inl (cI, 2010, .inl v_work)), (q_ranks, .inl (cI, 2010, .inl v_ranks)), (q_form, .inl (cI, 2000, .inl v_form)), (q_waits, .inl (cI, 1000, .inl v_waits)), (q_met, .inl (cZ, 120, .inl v_met))] t.heap ∧ va_D (va_A [(q_this, .inr (6, [.int v_fault, .int v_marks, .ref q_markFirst, .ref q_markLast, .ref q_markClass, .int v_kinds, .ref q_kindFirst, .ref q_kindLast, .ref q_kindOf, .int v_rows, .ref q_owners, .ref q_isLoose, .ref q_parts, .int v_excluded, .ref q_out, .int v_size, .ref q_text, .int v_many, .ref q_work, .ref q_ranks, .int v_shown, .int v_wasAsked, .ref q_form, .int v_waiting, .ref q_waits, .ref q_met])), (q_markFirst, .inl (cI, 60, .inl v_markFirst)), (q_markLast, .inl (cI, 60, .inl v_markLast)), (q_markClass, .inl (cI, 60, .inl v_markClass)), (q_kindFirst, .inl (cI, 60, .inl v_kindFirst)), (q_kindLast, .inl (cI, 60, .inl v_kindLast)), (q_kindOf, .inl (cI, 60, .inl v_kindOf)), (q_owners, .inl (cI, 120, .inl v_owners)), (q_isLoose, .inl (cZ, 120, .inl v_isLoose)), (q_parts, .inl (cI, 360, .inl v_parts)), (q_out, .inl (cI, 60, .inl v_out)), (q_text, .inl (cI, 1000, .inl v_text)), (q_work, .inl (cI, 2010, .inl v_work)), (q_ranks, .inl (cI, 2010, .inl v_ranks)), (q_form, .inl (cI, 2000, .inl v_form)), (q_waits, .inl (cI, 1000, .inl v_waits)), (q_met, .inl (cZ, 120, .inl v_met))] sz) [(q_this, .inr (6, [.int u.1, .int v_marks, .ref q_markFirst, .ref q_markLast, .ref q_markClass, .int u.2.1, .ref q_kindFirst, .ref q_kindLast, .ref q_kindOf, .int v_rows, .ref q_owners, .ref q_isLoose, .ref q_parts, .int v_excluded, .ref q_out, .int v_size, .ref q_text, .int v_many, .ref q_work, .ref q_ranks, .int v_shown, .int v_wasAsked, .ref q_form, .int v_waiting, .ref q_waits, .ref q_met])), (q_markFirst, .inl (cI, 60, .inl v_markFirst)), (q_markLast, .inl (cI, 60, .inl v_markLast)), (q_markClass, .inl (cI, 60, .inl v_markClass)), (q_kindFirst, .inl (cI, 60, .inl u.2.2.1)), (q_kindLast, .inl (cI, 60, .inl u.2.2.2.1)), (q_kindOf, .inl (cI, 60, .inl u.2.2.2.2)), (q_owners, .inl (cI, 120, .inl v_owners)), (q_isLoose, .inl (cZ, 120, .inl v_isLoose)), (q_parts, .inl (cI, 360, .inl v_parts)), (q_out, .inl (cI, 60, .inl v_out)), (q_text, .inl (cI, 1000, .inl v_text)), (q_work, .inl (cI, 2010, .inl v_work)), (q_ranks, .inl (cI, 2010, .inl v_ranks)), (q_form, .inl (cI, 2000, .inl v_form)), (q_waits, .inl (cI, 1000, .inl v_waits)), (q_met, .inl (cZ, 120, .inl v_met))]) (va_A [(q_this, .inr (6, [.int v_fault, .int v_marks, .ref q_markFirst, .ref q_markLast, .ref q_markClass, .int v_kinds, .ref q_kindFirst, .ref q_kindLast, .ref q_kindOf, .int v_rows, .ref q_owners, .ref q_isLoose, .ref q_parts, .int v_excluded, .ref q_out, .int v_size, .ref q_text, .int v_many, .ref q_work, .ref q_ranks, .int v_shown, .int v_wasAsked, .ref q_form, .int v_waiting, .ref q_waits, .ref q_met])), (q_markFirst, .inl (cI, 60, .inl v_markFirst)), (q_markLast, .inl (cI, 60, .inl v_markLast)), (q_markClass, .inl (cI, 60, .inl v_markClass)), (q_kindFirst, .inl (cI, 60, .inl v_kindFirst)), (q_kindLast, .inl (cI, 60, .inl v_kindLast)), (q_kindOf, .inl (cI, 60, .inl v_kindOf)), (q_owners, .inl (cI, 120, .inl v_owners)), (q_isLoose, .inl (cZ, 120, .inl v_isLoose)), (q_parts, .inl (cI, 360, .inl v_parts)), (q_out, .inl (cI, 60, .inl v_out)), (q_text, .inl (cI, 1000, .inl v_text)), (q_work, .inl (cI, 2010, .inl v_work)), (q_ranks, .inl (cI, 2010, .inl v_ranks)), (q_form, .inl (cI, 2000, .inl v_form)), (q_waits, .inl (cI, 1000, .inl v_waits)), (q_met, .inl (cZ, 120, .inl v_met))] sz)) 0 0 (va_A [(q_this, .inr (6, [.int v_fault, .int v_marks, .ref q_markFirst, .ref q_markLast, .ref q_markClass, .int v_kinds, .ref q_kindFirst, .ref q_kindLast, .ref q_kindOf, .int v_rows, .ref q_owners, .ref q_isLoose, .ref q_parts, .int v_excluded, .ref q_out, .int v_size, .ref q_text, .int v_many, .ref q_work, .ref q_ranks, .int v_shown, .int v_wasAsked, .ref q_form, .int v_waiting, .ref q_waits, .ref q_met])), (q_markFirst, .inl (cI, 60, .inl v_markFirst)), (q_markLast, .inl (cI, 60, .inl v_markLast)), (q_markClass, .inl (cI, 60, .inl v_markClass)), (q_kindFirst, .inl (cI, 60, .inl v_kindFirst)), (q_kindLast, .inl (cI, 60, .inl v_kindLast)), (q_kindOf, .inl (cI, 60, .inl v_kindOf)), (q_owners, .inl (cI, 120, .inl v_owners)), (q_isLoose, .inl (cZ, 120, .inl v_isLoose)), (q_parts, .inl (cI, 360, .inl v_parts)), (q_out, .inl (cI, 60, .inl v_out)), (q_text, .inl (cI, 1000, .inl v_text)), (q_work, .inl (cI, 2010, .inl v_work)), (q_ranks, .inl (cI, 2010, .inl v_ranks)), (q_form, .inl (cI, 2000, .inl v_form)), (q_waits, .inl (cI, 1000, .inl v_waits)), (q_met, .inl (cZ, 120, .inl v_met))] sz) := by
  refine Met.ofW (cc := cX7_property) (maxL := 5) (ret := none) (by decide) rfl ?_
  intro p e s m args below meth c s₁ B hml hv
  obtain ⟨rfl, hsz, hP, hKK, hD0⟩ := hv
  have hK := hKK.1
  have hx := B.exec
  have hb := B.bytes
  have hr := B.returns
  have hts : ∀ w ∈ TG, w.before (List.toArray [.ref q_this, .int a1, .int a2, .int a3]) s = true := hKK.ts
  have hown : s.vm.findClass RX7 = some m.cls := findClass_of_methodNamed B.named
  have hlocks := B.notSynchronized
  subst hsz
  have hD := hD0.self (sz := s.heap.size)
  generalize hAe : va_A [(q_this, .inr (6, [.int v_fault, .int v_marks, .ref q_markFirst, .ref q_markLast, .ref q_markClass, .int v_kinds, .ref q_kindFirst, .ref q_kindLast, .ref q_kindOf, .int v_rows, .ref q_owners, .ref q_isLoose, .ref q_parts, .int v_excluded, .ref q_out, .int v_size, .ref q_text, .int v_many, .ref q_work, .ref q_ranks, .int v_shown, .int v_wasAsked, .ref q_form, .int v_waiting, .ref q_waits, .ref q_met])), (q_markFirst, .inl (cI, 60, .inl v_markFirst)), (q_markLast, .inl (cI, 60, .inl v_markLast)), (q_markClass, .inl (cI, 60, .inl v_markClass)), (q_kindFirst, .inl (cI, 60, .inl v_kindFirst)), (q_kindLast, .inl (cI, 60, .inl v_kindLast)), (q_kindOf, .inl (cI, 60, .inl v_kindOf)), (q_owners, .inl (cI, 120, .inl v_owners)), (q_isLoose, .inl (cZ, 120, .inl v_isLoose)), (q_parts, .inl (cI, 360, .inl v_parts)), (q_out, .inl (cI, 60, .inl v_out)), (q_text, .inl (cI, 1000, .inl v_text)), (q_work, .inl (cI, 2010, .inl v_work)), (q_ranks, .inl (cI, 2010, .inl v_ranks)), (q_form, .inl (cI, 2000, .inl v_form)), (q_waits, .inl (cI, 1000, .inl v_waits)), (q_met, .inl (cZ, 120, .inl v_met))] s.heap.size = A at hD ⊢
  have hA : ∀ q : Nat, s.heap.size ≤ q → A q := fun q h => by rw [← hAe]; exact Or.inr h
  have hS : va_S A s.heap s.heap [] := va_S.rf
  have hl := lv_entry ([.ref q_this, .int a1, .int a2, .int a3]) (n := 5) (Nat.le_of_ble_eq_true rfl)
  rw [lg_entry_eq]
  generalize (lg_sl ([.ref q_this, .int a1, .int a2, .int a3]) ++ List.replicate (5 - (lg_sl ([.ref q_this, .int a1, .int a2, .int a3])).length) Slot.unset).toArray = ls at hl ⊢
  have hl : lv_has ls 5 [(0, .ref q_this), (1, .int a1), (2, .int a2), (3, .int a3)] := hl
  obtain ⟨QQ, hQQ⟩ : ∃ z, z = MQ below (va_Qv (fun (u : Int32 × Int32 × (Nat → Int32) × (Nat → Int32) × (Nat → Int32)) => post u.1 u.2.1 u.2.2.1 u.2.2.2.1 u.2.2.2.2) (fun (u : Int32 × Int32 × (Nat → Int32) × (Nat → Int32) × (Nat → Int32)) (t : State) => va_P (dC, dI) vwC [(q_this, .inr (6, [.int u.1, .int v_marks, .ref q_markFirst, .ref q_markLast, .ref q_markClass, .int u.2.1, .ref q_kindFirst, .ref q_kindLast, .ref q_kindOf, .int v_rows, .ref q_owners, .ref q_isLoose, .ref q_parts, .int v_excluded, .ref q_out, .int v_size, .ref q_text, .int v_many, .ref q_work, .ref q_ranks, .int v_shown, .int v_wasAsked, .ref q_form, .int v_waiting, .ref q_waits, .ref q_met])), (q_markFirst, .inl (cI, 60, .inl v_markFirst)), (q_markLast, .inl (cI, 60, .inl v_markLast)), (q_markClass, .inl (cI, 60, .inl v_markClass)), (q_kindFirst, .inl (cI, 60, .inl u.2.2.1)), (q_kindLast, .inl (cI, 60, .inl u.2.2.2.1)), (q_kindOf, .inl (cI, 60, .inl u.2.2.2.2)), (q_owners, .inl (cI, 120, .inl v_owners)), (q_isLoose, .inl (cZ, 120, .inl v_isLoose)), (q_parts, .inl (cI, 360, .inl v_parts)), (q_out, .inl (cI, 60, .inl v_out)), (q_text, .inl (cI, 1000, .inl v_text)), (q_work, .inl (cI, 2010, .inl v_work)), (q_ranks, .inl (cI, 2010, .inl v_ranks)), (q_form, .inl (cI, 2000, .inl v_form)), (q_waits, .inl (cI, 1000, .inl v_waits)), (q_met, .inl (cZ, 120, .inl v_met))] t.heap ∧ va_D A [(q_this, .inr (6, [.int u.1, .int v_marks, .ref q_markFirst, .ref q_markLast, .ref q_markClass, .int u.2.1, .ref q_kindFirst, .ref q_kindLast, .ref q_kindOf, .int v_rows, .ref q_owners, .ref q_isLoose, .ref q_parts, .int v_excluded, .ref q_out, .int v_size, .ref q_text, .int v_many, .ref q_work, .ref q_ranks, .int v_shown, .int v_wasAsked, .ref q_form, .int v_waiting, .ref q_waits, .ref q_met])), (q_markFirst, .inl (cI, 60, .inl v_markFirst)), (q_markLast, .inl (cI, 60, .inl v_markLast)), (q_markClass, .inl (cI, 60, .inl v_markClass)), (q_kindFirst, .inl (cI, 60, .inl u.2.2.1)), (q_kindLast, .inl (cI, 60, .inl u.2.2.2.1)), (q_kindOf, .inl (cI, 60, .inl u.2.2.2.2)), (q_owners, .inl (cI, 120, .inl v_owners)), (q_isLoose, .inl (cZ, 120, .inl v_isLoose)), (q_parts, .inl (cI, 360, .inl v_parts)), (q_out, .inl (cI, 60, .inl v_out)), (q_text, .inl (cI, 1000, .inl v_text)), (q_work, .inl (cI, 2010, .inl v_work)), (q_ranks, .inl (cI, 2010, .inl v_ranks)), (q_form, .inl (cI, 2000, .inl v_form)), (q_waits, .inl (cI, 1000, .inl v_waits)), (q_met, .inl (cZ, 120, .inl v_met))]) A) (List.toArray [.ref q_this, .int a1, .int a2, .int a3]) s 0 0 A := ⟨_, rfl⟩
  rw [← hQQ]
  have P49 : ∀ (v_fault : Int32) (v_kinds : Int32) (v_kindFirst : Nat → Int32) (v_kindLast : Nat → Int32) (v_kindOf : Nat → Int32) (s0 : Int32) , w_X7_property_49 post v_kinds v_kindFirst v_kindLast v_kindOf a1 a2 a3 s0 → ∀ (H : Heap) (locs : List Loc), va_P (dC, dI) vwC [(q_this, .inr (6, [.int v_fault, .int v_marks, .ref q_markFirst, .ref q_markLast, .ref q_markClass, .int v_kinds, .ref q_kindFirst, .ref q_kindLast, .ref q_kindOf, .int v_rows, .ref q_owners, .ref q_isLoose, .ref q_parts, .int v_excluded, .ref q_out, .int v_size, .ref q_text, .int v_many, .ref q_work, .ref q_ranks, .int v_shown, .int v_wasAsked, .ref q_form, .int v_waiting, .ref q_waits, .ref q_met])), (q_markFirst, .inl (cI, 60, .inl v_markFirst)), (q_markLast, .inl (cI, 60, .inl v_markLast)), (q_markClass, .inl (cI, 60, .inl v_markClass)), (q_kindFirst, .inl (cI, 60, .inl v_kindFirst)), (q_kindLast, .inl (cI, 60, .inl v_kindLast)), (q_kindOf, .inl (cI, 60, .inl v_kindOf)), (q_owners, .inl (cI, 120, .inl v_owners)), (q_isLoose, .inl (cZ, 120, .inl v_isLoose)), (q_parts, .inl (cI, 360, .inl v_parts)), (q_out, .inl (cI, 60, .inl v_out)), (q_text, .inl (cI, 1000, .inl v_text)), (q_work, .inl (cI, 2010, .inl v_work)), (q_ranks, .inl (cI, 2010, .inl v_ranks)), (q_form, .inl (cI, 2000, .inl v_form)), (q_waits, .inl (cI, 1000, .inl v_waits)), (q_met, .inl (cZ, 120, .inl v_met))] H → va_D A [(q_this, .inr (6, [.int v_fault, .int v_marks, .ref q_markFirst, .ref q_markLast, .ref q_markClass, .int v_kinds, .ref q_kindFirst, .ref q_kindLast, .ref q_kindOf, .int v_rows, .ref q_owners, .ref q_isLoose, .ref q_parts, .int v_excluded, .ref q_out, .int v_size, .ref q_text, .int v_many, .ref q_work, .ref q_ranks, .int v_shown, .int v_wasAsked, .ref q_form, .int v_waiting, .ref q_waits, .ref q_met])), (q_markFirst, .inl (cI, 60, .inl v_markFirst)), (q_markLast, .inl (cI, 60, .inl v_markLast)), (q_markClass, .inl (cI, 60, .inl v_markClass)), (q_kindFirst, .inl (cI, 60, .inl v_kindFirst)), (q_kindLast, .inl (cI, 60, .inl v_kindLast)), (q_kindOf, .inl (cI, 60, .inl v_kindOf)), (q_owners, .inl (cI, 120, .inl v_owners)), (q_isLoose, .inl (cZ, 120, .inl v_isLoose)), (q_parts, .inl (cI, 360, .inl v_parts)), (q_out, .inl (cI, 60, .inl v_out)), (q_text, .inl (cI, 1000, .inl v_text)), (q_work, .inl (cI, 2010, .inl v_work)), (q_ranks, .inl (cI, 2010, .inl v_ranks)), (q_form, .inl (cI, 2000, .inl v_form)), (q_waits, .inl (cI, 1000, .inl v_waits)), (q_met, .inl (cZ, 120, .inl v_met))] → va_S A s.heap H locs → ∀ (ls : Array Slot), lv_has ls 5 [(0, .ref q_this), (1, .int a1), (2, .int a2), (3, .int a3)] → W p l e (headSpec [.code yX7_property cX7_property 5 none] ({ frames := 2, cells := 0, slots := 0, locals := 41 } : Room)).room s m (List.toArray [.ref q_this, .int a1, .int a2, .int a3]) below meth c H locs 0 0 QQ (F0 m 49 ls [.int s0, .ref q_this]) := by
    intro v_fault v_kinds v_kindFirst v_kindLast v_kindOf s0 h H locs hP hD hS ls hl
    have hPc := hP.sub (ws' := [(q_this, .inr (6, [.int v_fault, .int v_marks, .ref q_markFirst, .ref q_markLast, .ref q_markClass, .int v_kinds, .ref q_kindFirst, .ref q_kindLast, .ref q_kindOf, .int v_rows, .ref q_owners, .ref q_isLoose, .ref q_parts, .int v_excluded, .ref q_out, .int v_size, .ref q_text, .int v_many, .ref q_work, .ref q_ranks, .int v_shown, .int v_wasAsked, .ref q_form, .int v_waiting, .ref q_waits, .ref q_met])), (q_markFirst, .inl (cI, 60, .inl v_markFirst)), (q_markLast, .inl (cI, 60, .inl v_markLast)), (q_markClass, .inl (cI, 60, .inl v_markClass)), (q_kindFirst, .inl (cI, 60, .inl v_kindFirst)), (q_kindLast, .inl (cI, 60, .inl v_kindLast)), (q_kindOf, .inl (cI, 60, .inl v_kindOf)), (q_owners, .inl (cI, 120, .inl v_owners)), (q_isLoose, .inl (cZ, 120, .inl v_isLoose)), (q_parts, .inl (cI, 360, .inl v_parts)), (q_out, .inl (cI, 60, .inl v_out)), (q_text, .inl (cI, 1000, .inl v_text)), (q_work, .inl (cI, 2010, .inl v_work)), (q_ranks, .inl (cI, 2010, .inl v_ranks)), (q_form, .inl (cI, 2000, .inl v_form)), (q_waits, .inl (cI, 1000, .inl v_waits)), (q_met, .inl (cZ, 120, .inl v_met))]) [0, 1, 2, 3, 4, 5, 6, 7, 8, 9, 10, 11, 12, 13, 14, 15, 16] rfl
    have hDc := hD.sub (ws' := [(q_this, .inr (6, [.int v_fault, .int v_marks, .ref q_markFirst, .ref q_markLast, .ref q_markClass, .int v_kinds, .ref q_kindFirst, .ref q_kindLast, .ref q_kindOf, .int v_rows, .ref q_owners, .ref q_isLoose, .ref q_parts, .int v_excluded, .ref q_out, .int v_size, .ref q_text, .int v_many, .ref q_work, .ref q_ranks, .int v_shown, .int v_wasAsked, .ref q_form, .int v_waiting, .ref q_waits, .ref q_met])), (q_markFirst, .inl (cI, 60, .inl v_markFirst)), (q_markLast, .inl (cI, 60, .inl v_markLast)), (q_markClass, .inl (cI, 60, .inl v_markClass)), (q_kindFirst, .inl (cI, 60, .inl v_kindFirst)), (q_kindLast, .inl (cI, 60, .inl v_kindLast)), (q_kindOf, .inl (cI, 60, .inl v_kindOf)), (q_owners, .inl (cI, 120, .inl v_owners)), (q_isLoose, .inl (cZ, 120, .inl v_isLoose)), (q_parts, .inl (cI, 360, .inl v_parts)), (q_out, .inl (cI, 60, .inl v_out)), (q_text, .inl (cI, 1000, .inl v_text)), (q_work, .inl (cI, 2010, .inl v_work)), (q_ranks, .inl (cI, 2010, .inl v_ranks)), (q_form, .inl (cI, 2000, .inl v_form)), (q_waits, .inl (cI, 1000, .inl v_waits)), (q_met, .inl (cZ, 120, .inl v_met))]) [0, 1, 2, 3, 4, 5, 6, 7, 8, 9, 10, 11, 12, 13, 14, 15, 16] (by decide) rfl
    have hFc := va_free (wc := [(q_this, .inr (6, [.int v_fault, .int v_marks, .ref q_markFirst, .ref q_markLast, .ref q_markClass, .int v_kinds, .ref q_kindFirst, .ref q_kindLast, .ref q_kindOf, .int v_rows, .ref q_owners, .ref q_isLoose, .ref q_parts, .int v_excluded, .ref q_out, .int v_size, .ref q_text, .int v_many, .ref q_work, .ref q_ranks, .int v_shown, .int v_wasAsked, .ref q_form, .int v_waiting, .ref q_waits, .ref q_met])), (q_markFirst, .inl (cI, 60, .inl v_markFirst)), (q_markLast, .inl (cI, 60, .inl v_markLast)), (q_markClass, .inl (cI, 60, .inl v_markClass)), (q_kindFirst, .inl (cI, 60, .inl v_kindFirst)), (q_kindLast, .inl (cI, 60, .inl v_kindLast)), (q_kindOf, .inl (cI, 60, .inl v_kindOf)), (q_owners, .inl (cI, 120, .inl v_owners)), (q_isLoose, .inl (cZ, 120, .inl v_isLoose)), (q_parts, .inl (cI, 360, .inl v_parts)), (q_out, .inl (cI, 60, .inl v_out)), (q_text, .inl (cI, 1000, .inl v_text)), (q_work, .inl (cI, 2010, .inl v_work)), (q_ranks, .inl (cI, 2010, .inl v_ranks)), (q_form, .inl (cI, 2000, .inl v_form)), (q_waits, .inl (cI, 1000, .inl v_waits)), (q_met, .inl (cZ, 120, .inl v_met))]) hD hS hA [0, 1, 2, 3, 4, 5, 6, 7, 8, 9, 10, 11, 12, 13, 14, 15, 16] rfl
    refine va_calli (va_runV (As := [.int s0]) (rest := []) ⟨hx, hb, hml, hown, hts⟩ (m_X7_refused l dC dI cI cZ cJ q_this q_markFirst q_markLast q_markClass q_kindFirst q_kindLast q_kindOf q_owners q_isLoose q_parts q_out q_text q_work q_ranks q_form q_waits q_met v_fault v_marks v_kinds v_rows v_excluded v_size v_many v_shown v_wasAsked v_waiting v_markFirst v_markLast v_markClass v_kindFirst v_kindLast v_kindOf v_owners v_isLoose v_parts v_out v_text v_work v_ranks v_form v_waits v_met s0 H.size _ h) (cwV 1 hts (na_gV tw672 tw674 tp33 tw7 tw675 rfl) rfl rfl rfl (by decide +kernel) ⟨Nat.le_of_ble_eq_true rfl, Nat.le_of_ble_eq_true rfl⟩) ⟨fun a U g mk q => by obtain ⟨q0, q1, qP, qK, qD⟩ := q; exact ⟨q0, q1, qP, qK.same rfl, qD⟩, va_recv hK hPc (ci := 6) (q0 := 0) rfl rfl, fun U hU hW => ⟨rfl, by rw [hU], by rw [hU]; exact hPc, hKK.warm hW, hDc.weaken (fun _ _ _ _ => trivial)⟩⟩ rfl rfl hl.1 rfl (lv_room (Nat.le_of_ble_eq_true rfl)) dX7_property_49 ⟨Nat.zero_le _, Nat.zero_le _⟩) hS (fun q _ h => hFc q h) hFc (fun r_49 u t H1 locs ht hvm h hB hz1 hk1 hS => ?_)
    obtain ⟨v_fault_49, rfl⟩ : ∃ z, z = u := ⟨_, rfl⟩
    obtain ⟨hP1, hD1⟩ := hB
    rw [ht] at hP1
    try dsimp only at h hP1 hD1
    obtain ⟨hP, hD⟩ := va_join (wr := []) (w1 := [(q_this, .inr (6, [.int v_fault_49, .int v_marks, .ref q_markFirst, .ref q_markLast, .ref q_markClass, .int v_kinds, .ref q_kindFirst, .ref q_kindLast, .ref q_kindOf, .int v_rows, .ref q_owners, .ref q_isLoose, .ref q_parts, .int v_excluded, .ref q_out, .int v_size, .ref q_text, .int v_many, .ref q_work, .ref q_ranks, .int v_shown, .int v_wasAsked, .ref q_form, .int v_waiting, .ref q_waits, .ref q_met])), (q_markFirst, .inl (cI, 60, .inl v_markFirst)), (q_markLast, .inl (cI, 60, .inl v_markLast)), (q_markClass, .inl (cI, 60, .inl v_markClass)), (q_kindFirst, .inl (cI, 60, .inl v_kindFirst)), (q_kindLast, .inl (cI, 60, .inl v_kindLast)), (q_kindOf, .inl (cI, 60, .inl v_kindOf)), (q_owners, .inl (cI, 120, .inl v_owners)), (q_isLoose, .inl (cZ, 120, .inl v_isLoose)), (q_parts, .inl (cI, 360, .inl v_parts)), (q_out, .inl (cI, 60, .inl v_out)), (q_text, .inl (cI, 1000, .inl v_text)), (q_work, .inl (cI, 2010, .inl v_work)), (q_ranks, .inl (cI, 2010, .inl v_ranks)), (q_form, .inl (cI, 2000, .inl v_form)), (q_waits, .inl (cI, 1000, .inl v_waits)), (q_met, .inl (cZ, 120, .inl v_met))]) hP hD [0, 1, 2, 3, 4, 5, 6, 7, 8, 9, 10, 11, 12, 13, 14, 15, 16] [] rfl rfl (by decide) (by decide) hk1 hFc hP1 hD1
    generalize H1 = H at hP hS ⊢
    have hP : va_P (dC, dI) vwC [(q_this, .inr (6, [.int v_fault_49, .int v_marks, .ref q_markFirst, .ref q_markLast, .ref q_markClass, .int v_kinds, .ref q_kindFirst, .ref q_kindLast, .ref q_kindOf, .int v_rows, .ref q_owners, .ref q_isLoose, .ref q_parts, .int v_excluded, .ref q_out, .int v_size, .ref q_text, .int v_many, .ref q_work, .ref q_ranks, .int v_shown, .int v_wasAsked, .ref q_form, .int v_waiting, .ref q_waits, .ref q_met])), (q_markFirst, .inl (cI, 60, .inl v_markFirst)), (q_markLast, .inl (cI, 60, .inl v_markLast)), (q_markClass, .inl (cI, 60, .inl v_markClass)), (q_kindFirst, .inl (cI, 60, .inl v_kindFirst)), (q_kindLast, .inl (cI, 60, .inl v_kindLast)), (q_kindOf, .inl (cI, 60, .inl v_kindOf)), (q_owners, .inl (cI, 120, .inl v_owners)), (q_isLoose, .inl (cZ, 120, .inl v_isLoose)), (q_parts, .inl (cI, 360, .inl v_parts)), (q_out, .inl (cI, 60, .inl v_out)), (q_text, .inl (cI, 1000, .inl v_text)), (q_work, .inl (cI, 2010, .inl v_work)), (q_ranks, .inl (cI, 2010, .inl v_ranks)), (q_form, .inl (cI, 2000, .inl v_form)), (q_waits, .inl (cI, 1000, .inl v_waits)), (q_met, .inl (cZ, 120, .inl v_met))] H := hP.sub [0, 1, 2, 3, 4, 5, 6, 7, 8, 9, 10, 11, 12, 13, 14, 15, 16] rfl
    have hD : va_D A [(q_this, .inr (6, [.int v_fault_49, .int v_marks, .ref q_markFirst, .ref q_markLast, .ref q_markClass, .int v_kinds, .ref q_kindFirst, .ref q_kindLast, .ref q_kindOf, .int v_rows, .ref q_owners, .ref q_isLoose, .ref q_parts, .int v_excluded, .ref q_out, .int v_size, .ref q_text, .int v_many, .ref q_work, .ref q_ranks, .int v_shown, .int v_wasAsked, .ref q_form, .int v_waiting, .ref q_waits, .ref q_met])), (q_markFirst, .inl (cI, 60, .inl v_markFirst)), (q_markLast, .inl (cI, 60, .inl v_markLast)), (q_markClass, .inl (cI, 60, .inl v_markClass)), (q_kindFirst, .inl (cI, 60, .inl v_kindFirst)), (q_kindLast, .inl (cI, 60, .inl v_kindLast)), (q_kindOf, .inl (cI, 60, .inl v_kindOf)), (q_owners, .inl (cI, 120, .inl v_owners)), (q_isLoose, .inl (cZ, 120, .inl v_isLoose)), (q_parts, .inl (cI, 360, .inl v_parts)), (q_out, .inl (cI, 60, .inl v_out)), (q_text, .inl (cI, 1000, .inl v_text)), (q_work, .inl (cI, 2010, .inl v_work)), (q_ranks, .inl (cI, 2010, .inl v_ranks)), (q_form, .inl (cI, 2000, .inl v_form)), (q_waits, .inl (cI, 1000, .inl v_waits)), (q_met, .inl (cZ, 120, .inl v_met))] := hD.sub [0, 1, 2, 3, 4, 5, 6, 7, 8, 9, 10, 11, 12, 13, 14, 15, 16] (by decide) rfl
    refine lv_if_ne (tgt := 95) hx hb dX7_property_52 (by decide) (fun c9 => ?_) (fun c9 => ?_)
    · replace h := h.1 c9
      rw [hQQ]
      exact W.vret hx hb hr (fun t ht hW => ⟨⟨(v_fault_49, v_kinds, v_kindFirst, v_kindLast, v_kindOf), rfl, h, by rw [ht]; exact hP, hD⟩, hS.F ht⟩) hS.2.2 dX7_property_95
    · replace h := h.2 c9
      refine lv_aload_n hx hb dX7_property_55 rfl (lv_at hl 0 rfl) ?_
      refine va_get (D := (dC, dI)) (ci := 6) (v := .ref q_kindFirst) (C := RX7) (T := TX7) (N := 26) hx hb hts inX7 hown hK hP 0 rfl rfl 6 (by decide) (hts _ tw584) (fun _ h9 => h9) rfl dX7_property_56 ?_
      refine lv_aload_n hx hb dX7_property_59 rfl (lv_at hl 0 rfl) ?_
      refine va_get (D := (dC, dI)) (ci := 6) (v := .int v_kinds) (C := RX7) (T := TX7) (N := 26) hx hb hts inX7 hown hK hP 0 rfl rfl 5 (by decide) (hts _ tw583) (fun _ h9 => h9) rfl dX7_property_60 ?_
      refine lv_iload_n hx hb dX7_property_63 rfl (lv_at hl 1 rfl) ?_
      obtain ⟨hin, h⟩ := h
      refine va_iast hx hb hK hP hD hS 4 0 rfl rfl hin dX7_property_64 (fun H locs hP hD hS => ?_)
      have hP : va_P (dC, dI) vwC [(q_this, .inr (6, [.int v_fault_49, .int v_marks, .ref q_markFirst, .ref q_markLast, .ref q_markClass, .int v_kinds, .ref q_kindFirst, .ref q_kindLast, .ref q_kindOf, .int v_rows, .ref q_owners, .ref q_isLoose, .ref q_parts, .int v_excluded, .ref q_out, .int v_size, .ref q_text, .int v_many, .ref q_work, .ref q_ranks, .int v_shown, .int v_wasAsked, .ref q_form, .int v_waiting, .ref q_waits, .ref q_met])), (q_markFirst, .inl (cI, 60, .inl v_markFirst)), (q_markLast, .inl (cI, 60, .inl v_markLast)), (q_markClass, .inl (cI, 60, .inl v_markClass)), (q_kindFirst, .inl (cI, 60, .inl (upd v_kindFirst v_kinds.toNatClampNeg a1))), (q_kindLast, .inl (cI, 60, .inl v_kindLast)), (q_kindOf, .inl (cI, 60, .inl v_kindOf)), (q_owners, .inl (cI, 120, .inl v_owners)), (q_isLoose, .inl (cZ, 120, .inl v_isLoose)), (q_parts, .inl (cI, 360, .inl v_parts)), (q_out, .inl (cI, 60, .inl v_out)), (q_text, .inl (cI, 1000, .inl v_text)), (q_work, .inl (cI, 2010, .inl v_work)), (q_ranks, .inl (cI, 2010, .inl v_ranks)), (q_form, .inl (cI, 2000, .inl v_form)), (q_waits, .inl (cI, 1000, .inl v_waits)), (q_met, .inl (cZ, 120, .inl v_met))] H := hP
      have hD : va_D A [(q_this, .inr (6, [.int v_fault_49, .int v_marks, .ref q_markFirst, .ref q_markLast, .ref q_markClass, .int v_kinds, .ref q_kindFirst, .ref q_kindLast, .ref q_kindOf, .int v_rows, .ref q_owners, .ref q_isLoose, .ref q_parts, .int v_excluded, .ref q_out, .int v_size, .ref q_text, .int v_many, .ref q_work, .ref q_ranks, .int v_shown, .int v_wasAsked, .ref q_form, .int v_waiting, .ref q_waits, .ref q_met])), (q_markFirst, .inl (cI, 60, .inl v_markFirst)), (q_markLast, .inl (cI, 60, .inl v_markLast)), (q_markClass, .inl (cI, 60, .inl v_markClass)), (q_kindFirst, .inl (cI, 60, .inl (upd v_kindFirst v_kinds.toNatClampNeg a1))), (q_kindLast, .inl (cI, 60, .inl v_kindLast)), (q_kindOf, .inl (cI, 60, .inl v_kindOf)), (q_owners, .inl (cI, 120, .inl v_owners)), (q_isLoose, .inl (cZ, 120, .inl v_isLoose)), (q_parts, .inl (cI, 360, .inl v_parts)), (q_out, .inl (cI, 60, .inl v_out)), (q_text, .inl (cI, 1000, .inl v_text)), (q_work, .inl (cI, 2010, .inl v_work)), (q_ranks, .inl (cI, 2010, .inl v_ranks)), (q_form, .inl (cI, 2000, .inl v_form)), (q_waits, .inl (cI, 1000, .inl v_waits)), (q_met, .inl (cZ, 120, .inl v_met))] := hD
      refine lv_aload_n hx hb dX7_property_65 rfl (lv_at hl 0 rfl) ?_
      refine va_get (D := (dC, dI)) (ci := 6) (v := .ref q_kindLast) (C := RX7) (T := TX7) (N := 26) hx hb hts inX7 hown hK hP 0 rfl rfl 7 (by decide) (hts _ tw585) (fun _ h9 => h9) rfl dX7_property_66 ?_
      refine lv_aload_n hx hb dX7_property_69 rfl (lv_at hl 0 rfl) ?_
      refine va_get (D := (dC, dI)) (ci := 6) (v := .int v_kinds) (C := RX7) (T := TX7) (N := 26) hx hb hts inX7 hown hK hP 0 rfl rfl 5 (by decide) (hts _ tw583) (fun _ h9 => h9) rfl dX7_property_70 ?_
      refine lv_iload_n hx hb dX7_property_73 rfl (lv_at hl 2 rfl) ?_
      obtain ⟨hin, h⟩ := h
      refine va_iast hx hb hK hP hD hS 5 0 rfl rfl hin dX7_property_74 (fun H locs hP hD hS => ?_)
      have hP : va_P (dC, dI) vwC [(q_this, .inr (6, [.int v_fault_49, .int v_marks, .ref q_markFirst, .ref q_markLast, .ref q_markClass, .int v_kinds, .ref q_kindFirst, .ref q_kindLast, .ref q_kindOf, .int v_rows, .ref q_owners, .ref q_isLoose, .ref q_parts, .int v_excluded, .ref q_out, .int v_size, .ref q_text, .int v_many, .ref q_work, .ref q_ranks, .int v_shown, .int v_wasAsked, .ref q_form, .int v_waiting, .ref q_waits, .ref q_met])), (q_markFirst, .inl (cI, 60, .inl v_markFirst)), (q_markLast, .inl (cI, 60, .inl v_markLast)), (q_markClass, .inl (cI, 60, .inl v_markClass)), (q_kindFirst, .inl (cI, 60, .inl (upd v_kindFirst v_kinds.toNatClampNeg a1))), (q_kindLast, .inl (cI, 60, .inl (upd v_kindLast v_kinds.toNatClampNeg a2))), (q_kindOf, .inl (cI, 60, .inl v_kindOf)), (q_owners, .inl (cI, 120, .inl v_owners)), (q_isLoose, .inl (cZ, 120, .inl v_isLoose)), (q_parts, .inl (cI, 360, .inl v_parts)), (q_out, .inl (cI, 60, .inl v_out)), (q_text, .inl (cI, 1000, .inl v_text)), (q_work, .inl (cI, 2010, .inl v_work)), (q_ranks, .inl (cI, 2010, .inl v_ranks)), (q_form, .inl (cI, 2000, .inl v_form)), (q_waits, .inl (cI, 1000, .inl v_waits)), (q_met, .inl (cZ, 120, .inl v_met))] H := hP
      have hD : va_D A [(q_this, .inr (6, [.int v_fault_49, .int v_marks, .ref q_markFirst, .ref q_markLast, .ref q_markClass, .int v_kinds, .ref q_kindFirst, .ref q_kindLast, .ref q_kindOf, .int v_rows, .ref q_owners, .ref q_isLoose, .ref q_parts, .int v_excluded, .ref q_out, .int v_size, .ref q_text, .int v_many, .ref q_work, .ref q_ranks, .int v_shown, .int v_wasAsked, .ref q_form, .int v_waiting, .ref q_waits, .ref q_met])), (q_markFirst, .inl (cI, 60, .inl v_markFirst)), (q_markLast, .inl (cI, 60, .inl v_markLast)), (q_markClass, .inl (cI, 60, .inl v_markClass)), (q_kindFirst, .inl (cI, 60, .inl (upd v_kindFirst v_kinds.toNatClampNeg a1))), (q_kindLast, .inl (cI, 60, .inl (upd v_kindLast v_kinds.toNatClampNeg a2))), (q_kindOf, .inl (cI, 60, .inl v_kindOf)), (q_owners, .inl (cI, 120, .inl v_owners)), (q_isLoose, .inl (cZ, 120, .inl v_isLoose)), (q_parts, .inl (cI, 360, .inl v_parts)), (q_out, .inl (cI, 60, .inl v_out)), (q_text, .inl (cI, 1000, .inl v_text)), (q_work, .inl (cI, 2010, .inl v_work)), (q_ranks, .inl (cI, 2010, .inl v_ranks)), (q_form, .inl (cI, 2000, .inl v_form)), (q_waits, .inl (cI, 1000, .inl v_waits)), (q_met, .inl (cZ, 120, .inl v_met))] := hD
      refine lv_aload_n hx hb dX7_property_75 rfl (lv_at hl 0 rfl) ?_
      refine va_get (D := (dC, dI)) (ci := 6) (v := .ref q_kindOf) (C := RX7) (T := TX7) (N := 26) hx hb hts inX7 hown hK hP 0 rfl rfl 8 (by decide) (hts _ tw586) (fun _ h9 => h9) rfl dX7_property_76 ?_
      refine lv_aload_n hx hb dX7_property_79 rfl (lv_at hl 0 rfl) ?_
      refine va_get (D := (dC, dI)) (ci := 6) (v := .int v_kinds) (C := RX7) (T := TX7) (N := 26) hx hb hts inX7 hown hK hP 0 rfl rfl 5 (by decide) (hts _ tw583) (fun _ h9 => h9) rfl dX7_property_80 ?_
      refine lv_iload_n hx hb dX7_property_83 rfl (lv_at hl 3 rfl) ?_
      obtain ⟨hin, h⟩ := h
      refine va_iast hx hb hK hP hD hS 6 0 rfl rfl hin dX7_property_84 (fun H locs hP hD hS => ?_)
      have hP : va_P (dC, dI) vwC [(q_this, .inr (6, [.int v_fault_49, .int v_marks, .ref q_markFirst, .ref q_markLast, .ref q_markClass, .int v_kinds, .ref q_kindFirst, .ref q_kindLast, .ref q_kindOf, .int v_rows, .ref q_owners, .ref q_isLoose, .ref q_parts, .int v_excluded, .ref q_out, .int v_size, .ref q_text, .int v_many, .ref q_work, .ref q_ranks, .int v_shown, .int v_wasAsked, .ref q_form, .int v_waiting, .ref q_waits, .ref q_met])), (q_markFirst, .inl (cI, 60, .inl v_markFirst)), (q_markLast, .inl (cI, 60, .inl v_markLast)), (q_markClass, .inl (cI, 60, .inl v_markClass)), (q_kindFirst, .inl (cI, 60, .inl (upd v_kindFirst v_kinds.toNatClampNeg a1))), (q_kindLast, .inl (cI, 60, .inl (upd v_kindLast v_kinds.toNatClampNeg a2))), (q_kindOf, .inl (cI, 60, .inl (upd v_kindOf v_kinds.toNatClampNeg a3))), (q_owners, .inl (cI, 120, .inl v_owners)), (q_isLoose, .inl (cZ, 120, .inl v_isLoose)), (q_parts, .inl (cI, 360, .inl v_parts)), (q_out, .inl (cI, 60, .inl v_out)), (q_text, .inl (cI, 1000, .inl v_text)), (q_work, .inl (cI, 2010, .inl v_work)), (q_ranks, .inl (cI, 2010, .inl v_ranks)), (q_form, .inl (cI, 2000, .inl v_form)), (q_waits, .inl (cI, 1000, .inl v_waits)), (q_met, .inl (cZ, 120, .inl v_met))] H := hP
      have hD : va_D A [(q_this, .inr (6, [.int v_fault_49, .int v_marks, .ref q_markFirst, .ref q_markLast, .ref q_markClass, .int v_kinds, .ref q_kindFirst, .ref q_kindLast, .ref q_kindOf, .int v_rows, .ref q_owners, .ref q_isLoose, .ref q_parts, .int v_excluded, .ref q_out, .int v_size, .ref q_text, .int v_many, .ref q_work, .ref q_ranks, .int v_shown, .int v_wasAsked, .ref q_form, .int v_waiting, .ref q_waits, .ref q_met])), (q_markFirst, .inl (cI, 60, .inl v_markFirst)), (q_markLast, .inl (cI, 60, .inl v_markLast)), (q_markClass, .inl (cI, 60, .inl v_markClass)), (q_kindFirst, .inl (cI, 60, .inl (upd v_kindFirst v_kinds.toNatClampNeg a1))), (q_kindLast, .inl (cI, 60, .inl (upd v_kindLast v_kinds.toNatClampNeg a2))), (q_kindOf, .inl (cI, 60, .inl (upd v_kindOf v_kinds.toNatClampNeg a3))), (q_owners, .inl (cI, 120, .inl v_owners)), (q_isLoose, .inl (cZ, 120, .inl v_isLoose)), (q_parts, .inl (cI, 360, .inl v_parts)), (q_out, .inl (cI, 60, .inl v_out)), (q_text, .inl (cI, 1000, .inl v_text)), (q_work, .inl (cI, 2010, .inl v_work)), (q_ranks, .inl (cI, 2010, .inl v_ranks)), (q_form, .inl (cI, 2000, .inl v_form)), (q_waits, .inl (cI, 1000, .inl v_waits)), (q_met, .inl (cZ, 120, .inl v_met))] := hD
      refine lv_aload_n hx hb dX7_property_85 rfl (lv_at hl 0 rfl) ?_
      refine lv_dup hx hb dX7_property_86 rfl ?_
      refine va_get (D := (dC, dI)) (ci := 6) (v := .int v_kinds) (C := RX7) (T := TX7) (N := 26) hx hb hts inX7 hown hK hP 0 rfl rfl 5 (by decide) (hts _ tw583) (fun _ h9 => h9) rfl dX7_property_87 ?_
      refine lv_iconst (v := (1 : Int32)) hx hb dX7_property_90 (by decide) ?_
      refine lv_iadd hx hb dX7_property_91 ?_
      refine va_put (D := (dC, dI)) (ci := 6) (v := .int (v_kinds + (1 : Int32))) (ty := .int) (C := RX7) (T := TX7) (N := 26) hx hb hts inX7 tyX7 tyX7_ok nmX7 hown hK hP hD hS 0 rfl rfl 5 (by decide) (hts _ tw583) (fun _ h9 => h9) rfl (by decide +kernel) rfl rfl (Nat.le_of_ble_eq_true rfl) dX7_property_92 (fun H locs hP hD hS => ?_)
      have hP : va_P (dC, dI) vwC [(q_this, .inr (6, [.int v_fault_49, .int v_marks, .ref q_markFirst, .ref q_markLast, .ref q_markClass, .int (v_kinds + (1 : Int32)), .ref q_kindFirst, .ref q_kindLast, .ref q_kindOf, .int v_rows, .ref q_owners, .ref q_isLoose, .ref q_parts, .int v_excluded, .ref q_out, .int v_size, .ref q_text, .int v_many, .ref q_work, .ref q_ranks, .int v_shown, .int v_wasAsked, .ref q_form, .int v_waiting, .ref q_waits, .ref q_met])), (q_markFirst, .inl (cI, 60, .inl v_markFirst)), (q_markLast, .inl (cI, 60, .inl v_markLast)), (q_markClass, .inl (cI, 60, .inl v_markClass)), (q_kindFirst, .inl (cI, 60, .inl (upd v_kindFirst v_kinds.toNatClampNeg a1))), (q_kindLast, .inl (cI, 60, .inl (upd v_kindLast v_kinds.toNatClampNeg a2))), (q_kindOf, .inl (cI, 60, .inl (upd v_kindOf v_kinds.toNatClampNeg a3))), (q_owners, .inl (cI, 120, .inl v_owners)), (q_isLoose, .inl (cZ, 120, .inl v_isLoose)), (q_parts, .inl (cI, 360, .inl v_parts)), (q_out, .inl (cI, 60, .inl v_out)), (q_text, .inl (cI, 1000, .inl v_text)), (q_work, .inl (cI, 2010, .inl v_work)), (q_ranks, .inl (cI, 2010, .inl v_ranks)), (q_form, .inl (cI, 2000, .inl v_form)), (q_waits, .inl (cI, 1000, .inl v_waits)), (q_met, .inl (cZ, 120, .inl v_met))] H := hP
      have hD : va_D A [(q_this, .inr (6, [.int v_fault_49, .int v_marks, .ref q_markFirst, .ref q_markLast, .ref q_markClass, .int (v_kinds + (1 : Int32)), .ref q_kindFirst, .ref q_kindLast, .ref q_kindOf, .int v_rows, .ref q_owners, .ref q_isLoose, .ref q_parts, .int v_excluded, .ref q_out, .int v_size, .ref q_text, .int v_many, .ref q_work, .ref q_ranks, .int v_shown, .int v_wasAsked, .ref q_form, .int v_waiting, .ref q_waits, .ref q_met])), (q_markFirst, .inl (cI, 60, .inl v_markFirst)), (q_markLast, .inl (cI, 60, .inl v_markLast)), (q_markClass, .inl (cI, 60, .inl v_markClass)), (q_kindFirst, .inl (cI, 60, .inl (upd v_kindFirst v_kinds.toNatClampNeg a1))), (q_kindLast, .inl (cI, 60, .inl (upd v_kindLast v_kinds.toNatClampNeg a2))), (q_kindOf, .inl (cI, 60, .inl (upd v_kindOf v_kinds.toNatClampNeg a3))), (q_owners, .inl (cI, 120, .inl v_owners)), (q_isLoose, .inl (cZ, 120, .inl v_isLoose)), (q_parts, .inl (cI, 360, .inl v_parts)), (q_out, .inl (cI, 60, .inl v_out)), (q_text, .inl (cI, 1000, .inl v_text)), (q_work, .inl (cI, 2010, .inl v_work)), (q_ranks, .inl (cI, 2010, .inl v_ranks)), (q_form, .inl (cI, 2000, .inl v_form)), (q_waits, .inl (cI, 1000, .inl v_waits)), (q_met, .inl (cZ, 120, .inl v_met))] := hD
      rw [hQQ]
      exact W.vret hx hb hr (fun t ht hW => ⟨⟨(v_fault_49, (v_kinds + (1 : Int32)), (upd v_kindFirst v_kinds.toNatClampNeg a1), (upd v_kindLast v_kinds.toNatClampNeg a2), (upd v_kindOf v_kinds.toNatClampNeg a3)), rfl, h, by rw [ht]; exact hP, hD⟩, hS.F ht⟩) hS.2.2 dX7_property_95
  have P23 : ∀ (v_fault : Int32) (v_kinds : Int32) (v_kindFirst : Nat → Int32) (v_kindLast : Nat → Int32) (v_kindOf : Nat → Int32) (s0 : Int32) , w_X7_property_23 post v_kinds v_kindFirst v_kindLast v_kindOf a1 a2 a3 s0 → ∀ (H : Heap) (locs : List Loc), va_P (dC, dI) vwC [(q_this, .inr (6, [.int v_fault, .int v_marks, .ref q_markFirst, .ref q_markLast, .ref q_markClass, .int v_kinds, .ref q_kindFirst, .ref q_kindLast, .ref q_kindOf, .int v_rows, .ref q_owners, .ref q_isLoose, .ref q_parts, .int v_excluded, .ref q_out, .int v_size, .ref q_text, .int v_many, .ref q_work, .ref q_ranks, .int v_shown, .int v_wasAsked, .ref q_form, .int v_waiting, .ref q_waits, .ref q_met])), (q_markFirst, .inl (cI, 60, .inl v_markFirst)), (q_markLast, .inl (cI, 60, .inl v_markLast)), (q_markClass, .inl (cI, 60, .inl v_markClass)), (q_kindFirst, .inl (cI, 60, .inl v_kindFirst)), (q_kindLast, .inl (cI, 60, .inl v_kindLast)), (q_kindOf, .inl (cI, 60, .inl v_kindOf)), (q_owners, .inl (cI, 120, .inl v_owners)), (q_isLoose, .inl (cZ, 120, .inl v_isLoose)), (q_parts, .inl (cI, 360, .inl v_parts)), (q_out, .inl (cI, 60, .inl v_out)), (q_text, .inl (cI, 1000, .inl v_text)), (q_work, .inl (cI, 2010, .inl v_work)), (q_ranks, .inl (cI, 2010, .inl v_ranks)), (q_form, .inl (cI, 2000, .inl v_form)), (q_waits, .inl (cI, 1000, .inl v_waits)), (q_met, .inl (cZ, 120, .inl v_met))] H → va_D A [(q_this, .inr (6, [.int v_fault, .int v_marks, .ref q_markFirst, .ref q_markLast, .ref q_markClass, .int v_kinds, .ref q_kindFirst, .ref q_kindLast, .ref q_kindOf, .int v_rows, .ref q_owners, .ref q_isLoose, .ref q_parts, .int v_excluded, .ref q_out, .int v_size, .ref q_text, .int v_many, .ref q_work, .ref q_ranks, .int v_shown, .int v_wasAsked, .ref q_form, .int v_waiting, .ref q_waits, .ref q_met])), (q_markFirst, .inl (cI, 60, .inl v_markFirst)), (q_markLast, .inl (cI, 60, .inl v_markLast)), (q_markClass, .inl (cI, 60, .inl v_markClass)), (q_kindFirst, .inl (cI, 60, .inl v_kindFirst)), (q_kindLast, .inl (cI, 60, .inl v_kindLast)), (q_kindOf, .inl (cI, 60, .inl v_kindOf)), (q_owners, .inl (cI, 120, .inl v_owners)), (q_isLoose, .inl (cZ, 120, .inl v_isLoose)), (q_parts, .inl (cI, 360, .inl v_parts)), (q_out, .inl (cI, 60, .inl v_out)), (q_text, .inl (cI, 1000, .inl v_text)), (q_work, .inl (cI, 2010, .inl v_work)), (q_ranks, .inl (cI, 2010, .inl v_ranks)), (q_form, .inl (cI, 2000, .inl v_form)), (q_waits, .inl (cI, 1000, .inl v_waits)), (q_met, .inl (cZ, 120, .inl v_met))] → va_S A s.heap H locs → ∀ (ls : Array Slot), lv_has ls 5 [(0, .ref q_this), (1, .int a1), (2, .int a2), (3, .int a3)] → W p l e (headSpec [.code yX7_property cX7_property 5 none] ({ frames := 2, cells := 0, slots := 0, locals := 41 } : Room)).room s m (List.toArray [.ref q_this, .int a1, .int a2, .int a3]) below meth c H locs 0 0 QQ (F0 m 23 ls [.int s0]) := by
    intro v_fault v_kinds v_kindFirst v_kindLast v_kindOf s0 h H locs hP hD hS ls hl
    refine lv_istore (lv' := [(4, .int s0), (0, .ref q_this), (1, .int a1), (2, .int a2), (3, .int a3)]) hx hb dX7_property_23 hl (by decide) rfl (fun ls hl => ?_)
    refine lv_aload_n hx hb dX7_property_25 rfl (lv_at hl 1 rfl) ?_
    refine lv_iload hx hb dX7_property_26 (lv_at hl 0 rfl) ?_
    refine lv_if_ne (tgt := 35) hx hb dX7_property_28 (by decide) (fun c9 => ?_) (fun c9 => ?_)
    · replace h := h.1 c9
      refine lv_aload_n hx hb dX7_property_35 rfl (lv_at hl 1 rfl) ?_
      refine va_get (D := (dC, dI)) (ci := 6) (v := .int v_kinds) (C := RX7) (T := TX7) (N := 26) hx hb hts inX7 hown hK hP 0 rfl rfl 5 (by decide) (hts _ tw583) (fun _ h9 => h9) rfl dX7_property_36 ?_
      refine lv_bipush (v := (60 : Int32)) hx hb dX7_property_39 (by decide) ?_
      refine lv_icmp_ne (tgt := 48) hx hb dX7_property_41 (by decide) (fun c9 => ?_) (fun c9 => ?_)
      · replace h := h.1 c9
        refine lv_iconst (v := (0 : Int32)) hx hb dX7_property_48 (by decide) ?_
        refine P49 v_fault v_kinds v_kindFirst v_kindLast v_kindOf (0 : Int32) h _ _ hP hD hS ls (lv_sub hl [1, 2, 3, 4] rfl)
      · replace h := h.2 c9
        refine lv_iconst (v := (2 : Int32)) hx hb dX7_property_44 (by decide) ?_
        refine lv_goto (tgt := 49) hx hb dX7_property_45 (by decide) ?_
        refine P49 v_fault v_kinds v_kindFirst v_kindLast v_kindOf (2 : Int32) h _ _ hP hD hS ls (lv_sub hl [1, 2, 3, 4] rfl)
    · replace h := h.2 c9
      refine lv_iconst (v := (1 : Int32)) hx hb dX7_property_31 (by decide) ?_
      refine lv_goto (tgt := 49) hx hb dX7_property_32 (by decide) ?_
      refine P49 v_fault v_kinds v_kindFirst v_kindLast v_kindOf (1 : Int32) h _ _ hP hD hS ls (lv_sub hl [1, 2, 3, 4] rfl)
  have P22 : ∀ (v_fault : Int32) (v_kinds : Int32) (v_kindFirst : Nat → Int32) (v_kindLast : Nat → Int32) (v_kindOf : Nat → Int32) , w_X7_property_22 post v_kinds v_kindFirst v_kindLast v_kindOf a1 a2 a3 → ∀ (H : Heap) (locs : List Loc), va_P (dC, dI) vwC [(q_this, .inr (6, [.int v_fault, .int v_marks, .ref q_markFirst, .ref q_markLast, .ref q_markClass, .int v_kinds, .ref q_kindFirst, .ref q_kindLast, .ref q_kindOf, .int v_rows, .ref q_owners, .ref q_isLoose, .ref q_parts, .int v_excluded, .ref q_out, .int v_size, .ref q_text, .int v_many, .ref q_work, .ref q_ranks, .int v_shown, .int v_wasAsked, .ref q_form, .int v_waiting, .ref q_waits, .ref q_met])), (q_markFirst, .inl (cI, 60, .inl v_markFirst)), (q_markLast, .inl (cI, 60, .inl v_markLast)), (q_markClass, .inl (cI, 60, .inl v_markClass)), (q_kindFirst, .inl (cI, 60, .inl v_kindFirst)), (q_kindLast, .inl (cI, 60, .inl v_kindLast)), (q_kindOf, .inl (cI, 60, .inl v_kindOf)), (q_owners, .inl (cI, 120, .inl v_owners)), (q_isLoose, .inl (cZ, 120, .inl v_isLoose)), (q_parts, .inl (cI, 360, .inl v_parts)), (q_out, .inl (cI, 60, .inl v_out)), (q_text, .inl (cI, 1000, .inl v_text)), (q_work, .inl (cI, 2010, .inl v_work)), (q_ranks, .inl (cI, 2010, .inl v_ranks)), (q_form, .inl (cI, 2000, .inl v_form)), (q_waits, .inl (cI, 1000, .inl v_waits)), (q_met, .inl (cZ, 120, .inl v_met))] H → va_D A [(q_this, .inr (6, [.int v_fault, .int v_marks, .ref q_markFirst, .ref q_markLast, .ref q_markClass, .int v_kinds, .ref q_kindFirst, .ref q_kindLast, .ref q_kindOf, .int v_rows, .ref q_owners, .ref q_isLoose, .ref q_parts, .int v_excluded, .ref q_out, .int v_size, .ref q_text, .int v_many, .ref q_work, .ref q_ranks, .int v_shown, .int v_wasAsked, .ref q_form, .int v_waiting, .ref q_waits, .ref q_met])), (q_markFirst, .inl (cI, 60, .inl v_markFirst)), (q_markLast, .inl (cI, 60, .inl v_markLast)), (q_markClass, .inl (cI, 60, .inl v_markClass)), (q_kindFirst, .inl (cI, 60, .inl v_kindFirst)), (q_kindLast, .inl (cI, 60, .inl v_kindLast)), (q_kindOf, .inl (cI, 60, .inl v_kindOf)), (q_owners, .inl (cI, 120, .inl v_owners)), (q_isLoose, .inl (cZ, 120, .inl v_isLoose)), (q_parts, .inl (cI, 360, .inl v_parts)), (q_out, .inl (cI, 60, .inl v_out)), (q_text, .inl (cI, 1000, .inl v_text)), (q_work, .inl (cI, 2010, .inl v_work)), (q_ranks, .inl (cI, 2010, .inl v_ranks)), (q_form, .inl (cI, 2000, .inl v_form)), (q_waits, .inl (cI, 1000, .inl v_waits)), (q_met, .inl (cZ, 120, .inl v_met))] → va_S A s.heap H locs → ∀ (ls : Array Slot), lv_has ls 5 [(0, .ref q_this), (1, .int a1), (2, .int a2), (3, .int a3)] → W p l e (headSpec [.code yX7_property cX7_property 5 none] ({ frames := 2, cells := 0, slots := 0, locals := 41 } : Room)).room s m (List.toArray [.ref q_this, .int a1, .int a2, .int a3]) below meth c H locs 0 0 QQ (F0 m 22 ls []) := by
    intro v_fault v_kinds v_kindFirst v_kindLast v_kindOf h H locs hP hD hS ls hl
    refine lv_iconst (v := (0 : Int32)) hx hb dX7_property_22 (by decide) ?_
    refine P23 v_fault v_kinds v_kindFirst v_kindLast v_kindOf (0 : Int32) h _ _ hP hD hS ls (lv_sub hl [0, 1, 2, 3] rfl)
  refine lv_iload_n hx hb dX7_property_0 rfl (lv_at hl 1 rfl) ?_
  refine lv_iload_n hx hb dX7_property_1 rfl (lv_at hl 2 rfl) ?_
  have hPc := hP.sub (ws' := []) [] rfl
  refine na_calls (va_runS (As := [.int a1, .int a2]) (rest := []) ⟨hx, hb, hml, hown, hts⟩ (m_X7_isRange l dC dI cI cZ cJ a1 a2 _ h) (cwS 2 hts (na_gS tw665 tw666 tw7 tw667 rfl) rfl rfl rfl (by decide +kernel) ⟨Nat.le_of_ble_eq_true rfl, Nat.le_of_ble_eq_true rfl⟩) ⟨fun a U g mk q => by obtain ⟨q0, qP, qK⟩ := q; exact ⟨q0, qP, qK.same rfl⟩, fun U hU hW => ⟨rfl, by rw [hU]; exact hPc, hKK.warm hW⟩⟩ rfl rfl hl.1 rfl (lv_room (Nat.le_of_ble_eq_true rfl)) dX7_property_2 ⟨Nat.zero_le _, Nat.zero_le _⟩) (fun r_2 h => ?_)
  refine lv_if_eq (tgt := 22) hx hb dX7_property_5 (by decide) (fun c9 => ?_) (fun c9 => ?_)
  · replace h := h.1 c9
    refine P22 v_fault v_kinds v_kindFirst v_kindLast v_kindOf h _ _ hP hD hS ls (lv_sub hl [0, 1, 2, 3] rfl)
  · replace h := h.2 c9
    refine lv_iload_n hx hb dX7_property_8 rfl (lv_at hl 3 rfl) ?_
    refine lv_if_lt (tgt := 22) hx hb dX7_property_9 (by decide) (fun c9 => ?_) (fun c9 => ?_)
    · replace h := h.1 c9
      refine P22 v_fault v_kinds v_kindFirst v_kindLast v_kindOf h _ _ hP hD hS ls (lv_sub hl [0, 1, 2, 3] rfl)
    · replace h := h.2 c9
      refine lv_iload_n hx hb dX7_property_12 rfl (lv_at hl 3 rfl) ?_
      refine lv_bipush (v := (14 : Int32)) hx hb dX7_property_13 (by decide) ?_
      refine lv_icmp_gt (tgt := 22) hx hb dX7_property_15 (by decide) (fun c9 => ?_) (fun c9 => ?_)
      · replace h := h.1 c9
        refine P22 v_fault v_kinds v_kindFirst v_kindLast v_kindOf h _ _ hP hD hS ls (lv_sub hl [0, 1, 2, 3] rfl)
      · replace h := h.2 c9
        refine lv_iconst (v := (1 : Int32)) hx hb dX7_property_18 (by decide) ?_
        refine lv_goto (tgt := 23) hx hb dX7_property_19 (by decide) ?_
        refine P23 v_fault v_kinds v_kindFirst v_kindLast v_kindOf (1 : Int32) h _ _ hP hD hS ls (lv_sub hl [0, 1, 2, 3] rfl)
set_option maxHeartbeats 4000000 in
set_option maxRecDepth 100000 in
theorem m_X7_classOf (l : Launch) (dC : Nat → ClassId) (dI : Nat → Nat → Nat) (cI cZ cJ : ClassId) (q_this : Nat) (q_markFirst : Nat) (q_markLast : Nat) (q_markClass : Nat) (q_kindFirst : Nat) (q_kindLast : Nat) (q_kindOf : Nat) (q_owners : Nat) (q_isLoose : Nat) (q_parts : Nat) (q_out : Nat) (q_text : Nat) (q_work : Nat) (q_ranks : Nat) (q_form : Nat) (q_waits : Nat) (q_met : Nat) (v_fault : Int32) (v_marks : Int32) (v_kinds : Int32) (v_rows : Int32) (v_excluded : Int32) (v_size : Int32) (v_many : Int32) (v_shown : Int32) (v_wasAsked : Int32) (v_waiting : Int32) (v_markFirst : Nat → Int32) (v_markLast : Nat → Int32) (v_markClass : Nat → Int32) (v_kindFirst : Nat → Int32) (v_kindLast : Nat → Int32) (v_kindOf : Nat → Int32) (v_owners : Nat → Int32) (v_isLoose : Nat → Int32) (v_parts : Nat → Int32) (v_out : Nat → Int32) (v_text : Nat → Int32) (v_work : Nat → Int32) (v_ranks : Nat → Int32) (v_form : Nat → Int32) (v_waits : Nat → Int32) (v_met : Nat → Int32) (a1 : Int32) (post : Int32 → Prop) (h : w_X7_classOf post v_marks v_markFirst v_markLast v_markClass a1) : Met l yX7_classOf [.code yX7_classOf cX7_classOf 4 (some .int)] ({ frames := 0, cells := 0, slots := 0, locals := 0 } : Room) (va_Pc [.ref q_this, .int a1] (fun U => va_P (dC, dI) vwC [(q_this, .inr (6, [.int v_fault, .int v_marks, .ref q_markFirst, .ref q_markLast, .ref q_markClass, .int v_kinds, .ref q_kindFirst, .ref q_kindLast, .ref q_kindOf, .int v_rows, .ref q_owners, .ref q_isLoose, .ref q_parts, .int v_excluded, .ref q_out, .int v_size, .ref q_text, .int v_many, .ref q_work, .ref q_ranks, .int v_shown, .int v_wasAsked, .ref q_form, .int v_waiting, .ref q_waits, .ref q_met])), (q_markFirst, .inl (cI, 60, .inl v_markFirst)), (q_markLast, .inl (cI, 60, .inl v_markLast)), (q_markClass, .inl (cI, 60, .inl v_markClass)), (q_kindFirst, .inl (cI, 60, .inl v_kindFirst)), (q_kindLast, .inl (cI, 60, .inl v_kindLast)), (q_kindOf, .inl (cI, 60, .inl v_kindOf)), (q_owners, .inl (cI, 120, .inl v_owners)), (q_isLoose, .inl (cZ, 120, .inl v_isLoose)), (q_parts, .inl (cI, 360, .inl v_parts)), (q_out, .inl (cI, 60, .inl v_out)), (q_text, .inl (cI, 1000, .inl v_text)), (q_work, .inl (cI, 2010, .inl v_work)), (q_ranks, .inl (cI, 2010, .inl v_ranks)), (q_form, .inl (cI, 2000, .inl v_form)), (q_waits, .inl (cI, 1000, .inl v_waits)), (q_met, .inl (cZ, 120, .inl v_met))] U.heap ∧ KK dC dI cI cZ cJ U)) (vp_Si post) 0 0 (fun _ => False) := by
  refine Met.ofW (cc := cX7_classOf) (maxL := 4) (ret := (some .int)) (by decide) rfl ?_
  intro p e s m args below meth c s₁ B hml hv
  obtain ⟨rfl, hP, hKK⟩ := hv
  have hK := hKK.1
  have hx := B.exec
  have hb := B.bytes
  have hr := B.returns
  have hts : ∀ w ∈ TG, w.before (List.toArray [.ref q_this, .int a1]) s = true := hKK.ts
  have hown : s.vm.findClass RX7 = some m.cls := findClass_of_methodNamed B.named
  have hlocks := B.notSynchronized
  have hl := lv_entry ([.ref q_this, .int a1]) (n := 4) (Nat.le_of_ble_eq_true rfl)
  rw [lg_entry_eq]
  generalize (lg_sl ([.ref q_this, .int a1]) ++ List.replicate (4 - (lg_sl ([.ref q_this, .int a1])).length) Slot.unset).toArray = ls at hl ⊢
  have hl : lv_has ls 4 [(0, .ref q_this), (1, .int a1)] := hl
  obtain ⟨QQ, hQQ⟩ : ∃ z, z = MQ below (vp_Si post) (List.toArray [.ref q_this, .int a1]) s 0 0 (fun _ => False) := ⟨_, rfl⟩
  rw [← hQQ]
  have P4 : ∀ (n : Nat) (x2 : Int32) (x3 : Int32) , w_X7_classOf_4 post v_marks v_markFirst v_markLast v_markClass a1 n x2 x3 → ∀ (ls : Array Slot), lv_has ls 4 [(0, .ref q_this), (1, .int a1), (2, .int x2), (3, .int x3)] → W p l e (headSpec [.code yX7_classOf cX7_classOf 4 (some .int)] ({ frames := 0, cells := 0, slots := 0, locals := 0 } : Room)).room s m (List.toArray [.ref q_this, .int a1]) below meth c s.heap [] 0 0 QQ (F0 m 4 ls []) := by
    intro  n
    induction n with
    | zero => intro x2 x3 h; exact h.elim
    | succ n ih =>
      intro x2 x3 h ls hl
      refine lv_iload_n hx hb dX7_classOf_4 rfl (lv_at hl 3 rfl) ?_
      refine lv_aload_n hx hb dX7_classOf_5 rfl (lv_at hl 0 rfl) ?_
      refine va_get (D := (dC, dI)) (ci := 6) (v := .int v_marks) (C := RX7) (T := TX7) (N := 26) hx hb hts inX7 hown hK hP 0 rfl rfl 1 (by decide) (hts _ tw579) (fun _ h9 => h9) rfl dX7_classOf_6 ?_
      refine lv_icmp_ge (tgt := 49) hx hb dX7_classOf_9 (by decide) (fun c9 => ?_) (fun c9 => ?_)
      · replace h := h.1 c9
        refine lv_iload_n hx hb dX7_classOf_49 rfl (lv_at hl 2 rfl) ?_
        rw [hQQ]
        exact W.iret hx hb hr (fun t ht hW => ⟨_, rfl, h, ht⟩) t_nil dX7_classOf_50
      · replace h := h.2 c9
        refine lv_iload_n hx hb dX7_classOf_12 rfl (lv_at hl 1 rfl) ?_
        refine lv_aload_n hx hb dX7_classOf_13 rfl (lv_at hl 0 rfl) ?_
        refine va_get (D := (dC, dI)) (ci := 6) (v := .ref q_markFirst) (C := RX7) (T := TX7) (N := 26) hx hb hts inX7 hown hK hP 0 rfl rfl 2 (by decide) (hts _ tw580) (fun _ h9 => h9) rfl dX7_classOf_14 ?_
        refine lv_iload_n hx hb dX7_classOf_17 rfl (lv_at hl 3 rfl) ?_
        obtain ⟨hin, h⟩ := h
        refine va_iald hx hb hK hP 1 0 rfl rfl hin dX7_classOf_18 ?_
        refine lv_icmp_lt (tgt := 41) hx hb dX7_classOf_19 (by decide) (fun c9 => ?_) (fun c9 => ?_)
        · replace h := h.1 c9
          refine lv_iload_n hx hb dX7_classOf_41 rfl (lv_at hl 2 rfl) ?_
          refine lv_istore_n (lv' := [(2, .int x2), (0, .ref q_this), (1, .int a1), (3, .int x3)]) hx hb dX7_classOf_42 rfl hl (by decide) rfl (fun ls hl => ?_)
          refine lv_iinc (v := x3 + (1 : Int32)) (lv' := [(3, .int (x3 + (1 : Int32))), (2, .int x2), (0, .ref q_this), (1, .int a1)]) hx hb dX7_classOf_43 hl (k := 3) rfl rfl (by decide) rfl (fun ls hl => ?_)
          refine lv_goto (tgt := 4) hx hb dX7_classOf_46 (by decide) ?_
          exact ih x2 (x3 + (1 : Int32)) h ls (lv_sub hl [2, 3, 1, 0] rfl)
        · replace h := h.2 c9
          refine lv_iload_n hx hb dX7_classOf_22 rfl (lv_at hl 1 rfl) ?_
          refine lv_aload_n hx hb dX7_classOf_23 rfl (lv_at hl 0 rfl) ?_
          refine va_get (D := (dC, dI)) (ci := 6) (v := .ref q_markLast) (C := RX7) (T := TX7) (N := 26) hx hb hts inX7 hown hK hP 0 rfl rfl 3 (by decide) (hts _ tw581) (fun _ h9 => h9) rfl dX7_classOf_24 ?_
          refine lv_iload_n hx hb dX7_classOf_27 rfl (lv_at hl 3 rfl) ?_
          obtain ⟨hin, h⟩ := h
          refine va_iald hx hb hK hP 2 0 rfl rfl hin dX7_classOf_28 ?_
          refine lv_icmp_gt (tgt := 41) hx hb dX7_classOf_29 (by decide) (fun c9 => ?_) (fun c9 => ?_)
          · replace h := h.1 c9
            refine lv_iload_n hx hb dX7_classOf_41 rfl (lv_at hl 2 rfl) ?_
            refine lv_istore_n (lv' := [(2, .int x2), (0, .ref q_this), (1, .int a1), (3, .int x3)]) hx hb dX7_classOf_42 rfl hl (by decide) rfl (fun ls hl => ?_)
            refine lv_iinc (v := x3 + (1 : Int32)) (lv' := [(3, .int (x3 + (1 : Int32))), (2, .int x2), (0, .ref q_this), (1, .int a1)]) hx hb dX7_classOf_43 hl (k := 3) rfl rfl (by decide) rfl (fun ls hl => ?_)
            refine lv_goto (tgt := 4) hx hb dX7_classOf_46 (by decide) ?_
            exact ih x2 (x3 + (1 : Int32)) h ls (lv_sub hl [2, 3, 1, 0] rfl)
          · replace h := h.2 c9
            refine lv_aload_n hx hb dX7_classOf_32 rfl (lv_at hl 0 rfl) ?_
            refine va_get (D := (dC, dI)) (ci := 6) (v := .ref q_markClass) (C := RX7) (T := TX7) (N := 26) hx hb hts inX7 hown hK hP 0 rfl rfl 4 (by decide) (hts _ tw582) (fun _ h9 => h9) rfl dX7_classOf_33 ?_
            refine lv_iload_n hx hb dX7_classOf_36 rfl (lv_at hl 3 rfl) ?_
            obtain ⟨hin, h⟩ := h
            refine va_iald hx hb hK hP 3 0 rfl rfl hin dX7_classOf_37 ?_
            refine lv_goto (tgt := 42) hx hb dX7_classOf_38 (by decide) ?_
            refine lv_istore_n (lv' := [(2, .int (v_markClass x3.toNatClampNeg)), (0, .ref q_this), (1, .int a1), (3, .int x3)]) hx hb dX7_classOf_42 rfl hl (by decide) rfl (fun ls hl => ?_)
            refine lv_iinc (v := x3 + (1 : Int32)) (lv' := [(3, .int (x3 + (1 : Int32))), (2, .int (v_markClass x3.toNatClampNeg)), (0, .ref q_this), (1, .int a1)]) hx hb dX7_classOf_43 hl (k := 3) rfl rfl (by decide) rfl (fun ls hl => ?_)
            refine lv_goto (tgt := 4) hx hb dX7_classOf_46 (by decide) ?_
            exact ih (v_markClass x3.toNatClampNeg) (x3 + (1 : Int32)) h ls (lv_sub hl [2, 3, 1, 0] rfl)
  refine lv_iconst (v := (0 : Int32)) hx hb dX7_classOf_0 (by decide) ?_
  refine lv_istore_n (lv' := [(2, .int (0 : Int32)), (0, .ref q_this), (1, .int a1)]) hx hb dX7_classOf_1 rfl hl (by decide) rfl (fun ls hl => ?_)
  refine lv_iconst (v := (0 : Int32)) hx hb dX7_classOf_2 (by decide) ?_
  refine lv_istore_n (lv' := [(3, .int (0 : Int32)), (2, .int (0 : Int32)), (0, .ref q_this), (1, .int a1)]) hx hb dX7_classOf_3 rfl hl (by decide) rfl (fun ls hl => ?_)
  obtain ⟨k4, h⟩ := h
  refine P4 k4 (0 : Int32) (0 : Int32) h ls (lv_sub hl [2, 3, 1, 0] rfl)
set_option maxHeartbeats 4000000 in
set_option maxRecDepth 100000 in
theorem m_X7_kind (l : Launch) (dC : Nat → ClassId) (dI : Nat → Nat → Nat) (cI cZ cJ : ClassId) (q_this : Nat) (q_markFirst : Nat) (q_markLast : Nat) (q_markClass : Nat) (q_kindFirst : Nat) (q_kindLast : Nat) (q_kindOf : Nat) (q_owners : Nat) (q_isLoose : Nat) (q_parts : Nat) (q_out : Nat) (q_text : Nat) (q_work : Nat) (q_ranks : Nat) (q_form : Nat) (q_waits : Nat) (q_met : Nat) (v_fault : Int32) (v_marks : Int32) (v_kinds : Int32) (v_rows : Int32) (v_excluded : Int32) (v_size : Int32) (v_many : Int32) (v_shown : Int32) (v_wasAsked : Int32) (v_waiting : Int32) (v_markFirst : Nat → Int32) (v_markLast : Nat → Int32) (v_markClass : Nat → Int32) (v_kindFirst : Nat → Int32) (v_kindLast : Nat → Int32) (v_kindOf : Nat → Int32) (v_owners : Nat → Int32) (v_isLoose : Nat → Int32) (v_parts : Nat → Int32) (v_out : Nat → Int32) (v_text : Nat → Int32) (v_work : Nat → Int32) (v_ranks : Nat → Int32) (v_form : Nat → Int32) (v_waits : Nat → Int32) (v_met : Nat → Int32) (a1 : Int32) (post : Int32 → Prop) (h : w_X7_kind post v_kinds v_kindFirst v_kindLast v_kindOf a1) : Met l yX7_kind [.code yX7_kind cX7_kind 4 (some .int)] ({ frames := 0, cells := 0, slots := 0, locals := 0 } : Room) (va_Pc [.ref q_this, .int a1] (fun U => va_P (dC, dI) vwC [(q_this, .inr (6, [.int v_fault, .int v_marks, .ref q_markFirst, .ref q_markLast, .ref q_markClass, .int v_kinds, .ref q_kindFirst, .ref q_kindLast, .ref q_kindOf, .int v_rows, .ref q_owners, .ref q_isLoose, .ref q_parts, .int v_excluded, .ref q_out, .int v_size, .ref q_text, .int v_many, .ref q_work, .ref q_ranks, .int v_shown, .int v_wasAsked, .ref q_form, .int v_waiting, .ref q_waits, .ref q_met])), (q_markFirst, .inl (cI, 60, .inl v_markFirst)), (q_markLast, .inl (cI, 60, .inl v_markLast)), (q_markClass, .inl (cI, 60, .inl v_markClass)), (q_kindFirst, .inl (cI, 60, .inl v_kindFirst)), (q_kindLast, .inl (cI, 60, .inl v_kindLast)), (q_kindOf, .inl (cI, 60, .inl v_kindOf)), (q_owners, .inl (cI, 120, .inl v_owners)), (q_isLoose, .inl (cZ, 120, .inl v_isLoose)), (q_parts, .inl (cI, 360, .inl v_parts)), (q_out, .inl (cI, 60, .inl v_out)), (q_text, .inl (cI, 1000, .inl v_text)), (q_work, .inl (cI, 2010, .inl v_work)), (q_ranks, .inl (cI, 2010, .inl v_ranks)), (q_form, .inl (cI, 2000, .inl v_form)), (q_waits, .inl (cI, 1000, .inl v_waits)), (q_met, .inl (cZ, 120, .inl v_met))] U.heap ∧ KK dC dI cI cZ cJ U)) (vp_Si post) 0 0 (fun _ => False) := by
  refine Met.ofW (cc := cX7_kind) (maxL := 4) (ret := (some .int)) (by decide) rfl ?_
  intro p e s m args below meth c s₁ B hml hv
  obtain ⟨rfl, hP, hKK⟩ := hv
  have hK := hKK.1
  have hx := B.exec
  have hb := B.bytes
  have hr := B.returns
  have hts : ∀ w ∈ TG, w.before (List.toArray [.ref q_this, .int a1]) s = true := hKK.ts
  have hown : s.vm.findClass RX7 = some m.cls := findClass_of_methodNamed B.named
  have hlocks := B.notSynchronized
  have hl := lv_entry ([.ref q_this, .int a1]) (n := 4) (Nat.le_of_ble_eq_true rfl)
  rw [lg_entry_eq]
  generalize (lg_sl ([.ref q_this, .int a1]) ++ List.replicate (4 - (lg_sl ([.ref q_this, .int a1])).length) Slot.unset).toArray = ls at hl ⊢
  have hl : lv_has ls 4 [(0, .ref q_this), (1, .int a1)] := hl
  obtain ⟨QQ, hQQ⟩ : ∃ z, z = MQ below (vp_Si post) (List.toArray [.ref q_this, .int a1]) s 0 0 (fun _ => False) := ⟨_, rfl⟩
  rw [← hQQ]
  have P4 : ∀ (n : Nat) (x2 : Int32) (x3 : Int32) , w_X7_kind_4 post v_kinds v_kindFirst v_kindLast v_kindOf a1 n x2 x3 → ∀ (ls : Array Slot), lv_has ls 4 [(0, .ref q_this), (1, .int a1), (2, .int x2), (3, .int x3)] → W p l e (headSpec [.code yX7_kind cX7_kind 4 (some .int)] ({ frames := 0, cells := 0, slots := 0, locals := 0 } : Room)).room s m (List.toArray [.ref q_this, .int a1]) below meth c s.heap [] 0 0 QQ (F0 m 4 ls []) := by
    intro  n
    induction n with
    | zero => intro x2 x3 h; exact h.elim
    | succ n ih =>
      intro x2 x3 h ls hl
      refine lv_iload_n hx hb dX7_kind_4 rfl (lv_at hl 3 rfl) ?_
      refine lv_aload_n hx hb dX7_kind_5 rfl (lv_at hl 0 rfl) ?_
      refine va_get (D := (dC, dI)) (ci := 6) (v := .int v_kinds) (C := RX7) (T := TX7) (N := 26) hx hb hts inX7 hown hK hP 0 rfl rfl 5 (by decide) (hts _ tw583) (fun _ h9 => h9) rfl dX7_kind_6 ?_
      refine lv_icmp_ge (tgt := 49) hx hb dX7_kind_9 (by decide) (fun c9 => ?_) (fun c9 => ?_)
      · replace h := h.1 c9
        refine lv_iload_n hx hb dX7_kind_49 rfl (lv_at hl 2 rfl) ?_
        rw [hQQ]
        exact W.iret hx hb hr (fun t ht hW => ⟨_, rfl, h, ht⟩) t_nil dX7_kind_50
      · replace h := h.2 c9
        refine lv_iload_n hx hb dX7_kind_12 rfl (lv_at hl 1 rfl) ?_
        refine lv_aload_n hx hb dX7_kind_13 rfl (lv_at hl 0 rfl) ?_
        refine va_get (D := (dC, dI)) (ci := 6) (v := .ref q_kindFirst) (C := RX7) (T := TX7) (N := 26) hx hb hts inX7 hown hK hP 0 rfl rfl 6 (by decide) (hts _ tw584) (fun _ h9 => h9) rfl dX7_kind_14 ?_
        refine lv_iload_n hx hb dX7_kind_17 rfl (lv_at hl 3 rfl) ?_
        obtain ⟨hin, h⟩ := h
        refine va_iald hx hb hK hP 4 0 rfl rfl hin dX7_kind_18 ?_
        refine lv_icmp_lt (tgt := 41) hx hb dX7_kind_19 (by decide) (fun c9 => ?_) (fun c9 => ?_)
        · replace h := h.1 c9
          refine lv_iload_n hx hb dX7_kind_41 rfl (lv_at hl 2 rfl) ?_
          refine lv_istore_n (lv' := [(2, .int x2), (0, .ref q_this), (1, .int a1), (3, .int x3)]) hx hb dX7_kind_42 rfl hl (by decide) rfl (fun ls hl => ?_)
          refine lv_iinc (v := x3 + (1 : Int32)) (lv' := [(3, .int (x3 + (1 : Int32))), (2, .int x2), (0, .ref q_this), (1, .int a1)]) hx hb dX7_kind_43 hl (k := 3) rfl rfl (by decide) rfl (fun ls hl => ?_)
          refine lv_goto (tgt := 4) hx hb dX7_kind_46 (by decide) ?_
          exact ih x2 (x3 + (1 : Int32)) h ls (lv_sub hl [2, 3, 1, 0] rfl)
        · replace h := h.2 c9
          refine lv_iload_n hx hb dX7_kind_22 rfl (lv_at hl 1 rfl) ?_
          refine lv_aload_n hx hb dX7_kind_23 rfl (lv_at hl 0 rfl) ?_
          refine va_get (D := (dC, dI)) (ci := 6) (v := .ref q_kindLast) (C := RX7) (T := TX7) (N := 26) hx hb hts inX7 hown hK hP 0 rfl rfl 7 (by decide) (hts _ tw585) (fun _ h9 => h9) rfl dX7_kind_24 ?_
          refine lv_iload_n hx hb dX7_kind_27 rfl (lv_at hl 3 rfl) ?_
          obtain ⟨hin, h⟩ := h
          refine va_iald hx hb hK hP 5 0 rfl rfl hin dX7_kind_28 ?_
          refine lv_icmp_gt (tgt := 41) hx hb dX7_kind_29 (by decide) (fun c9 => ?_) (fun c9 => ?_)
          · replace h := h.1 c9
            refine lv_iload_n hx hb dX7_kind_41 rfl (lv_at hl 2 rfl) ?_
            refine lv_istore_n (lv' := [(2, .int x2), (0, .ref q_this), (1, .int a1), (3, .int x3)]) hx hb dX7_kind_42 rfl hl (by decide) rfl (fun ls hl => ?_)
            refine lv_iinc (v := x3 + (1 : Int32)) (lv' := [(3, .int (x3 + (1 : Int32))), (2, .int x2), (0, .ref q_this), (1, .int a1)]) hx hb dX7_kind_43 hl (k := 3) rfl rfl (by decide) rfl (fun ls hl => ?_)
            refine lv_goto (tgt := 4) hx hb dX7_kind_46 (by decide) ?_
            exact ih x2 (x3 + (1 : Int32)) h ls (lv_sub hl [2, 3, 1, 0] rfl)
          · replace h := h.2 c9
            refine lv_aload_n hx hb dX7_kind_32 rfl (lv_at hl 0 rfl) ?_
            refine va_get (D := (dC, dI)) (ci := 6) (v := .ref q_kindOf) (C := RX7) (T := TX7) (N := 26) hx hb hts inX7 hown hK hP 0 rfl rfl 8 (by decide) (hts _ tw586) (fun _ h9 => h9) rfl dX7_kind_33 ?_
            refine lv_iload_n hx hb dX7_kind_36 rfl (lv_at hl 3 rfl) ?_
            obtain ⟨hin, h⟩ := h
            refine va_iald hx hb hK hP 6 0 rfl rfl hin dX7_kind_37 ?_
            refine lv_goto (tgt := 42) hx hb dX7_kind_38 (by decide) ?_
            refine lv_istore_n (lv' := [(2, .int (v_kindOf x3.toNatClampNeg)), (0, .ref q_this), (1, .int a1), (3, .int x3)]) hx hb dX7_kind_42 rfl hl (by decide) rfl (fun ls hl => ?_)
            refine lv_iinc (v := x3 + (1 : Int32)) (lv' := [(3, .int (x3 + (1 : Int32))), (2, .int (v_kindOf x3.toNatClampNeg)), (0, .ref q_this), (1, .int a1)]) hx hb dX7_kind_43 hl (k := 3) rfl rfl (by decide) rfl (fun ls hl => ?_)
            refine lv_goto (tgt := 4) hx hb dX7_kind_46 (by decide) ?_
            exact ih (v_kindOf x3.toNatClampNeg) (x3 + (1 : Int32)) h ls (lv_sub hl [2, 3, 1, 0] rfl)
  refine lv_iconst (v := (0 : Int32)) hx hb dX7_kind_0 (by decide) ?_
  refine lv_istore_n (lv' := [(2, .int (0 : Int32)), (0, .ref q_this), (1, .int a1)]) hx hb dX7_kind_1 rfl hl (by decide) rfl (fun ls hl => ?_)
  refine lv_iconst (v := (0 : Int32)) hx hb dX7_kind_2 (by decide) ?_
  refine lv_istore_n (lv' := [(3, .int (0 : Int32)), (2, .int (0 : Int32)), (0, .ref q_this), (1, .int a1)]) hx hb dX7_kind_3 rfl hl (by decide) rfl (fun ls hl => ?_)
  obtain ⟨k4, h⟩ := h
  refine P4 k4 (0 : Int32) (0 : Int32) h ls (lv_sub hl [2, 3, 1, 0] rfl)
set_option maxHeartbeats 4000000 in
set_option maxRecDepth 100000 in
theorem m_X7_isSyllable (l : Launch) (dC : Nat → ClassId) (dI : Nat → Nat → Nat) (cI cZ cJ : ClassId) (a1 : Int32) (post : Int32 → Prop) (h : w_X7_isSyllable post a1) : Met l yX7_isSyllable [.code yX7_isSyllable cX7_isSyllable 1 (some .boolean)] ({ frames := 0, cells := 0, slots := 0, locals := 0 } : Room) (va_Pc [.int a1] (fun U => va_P (dC, dI) vwC [] U.heap ∧ KK dC dI cI cZ cJ U)) (vp_Si post) 0 0 (fun _ => False) := by
  refine Met.ofW (cc := cX7_isSyllable) (maxL := 1) (ret := (some .boolean)) (by decide) rfl ?_
  intro p e s m args below meth c s₁ B hml hv
  obtain ⟨rfl, hP, hKK⟩ := hv
  have hK := hKK.1
  have hx := B.exec
  have hb := B.bytes
  have hr := B.returns
  have hts : ∀ w ∈ TG, w.before (List.toArray [.int a1]) s = true := hKK.ts
  have hown : s.vm.findClass RX7 = some m.cls := findClass_of_methodNamed B.named
  have hlocks := B.notSynchronized
  have hl := lv_entry ([.int a1]) (n := 1) (Nat.le_of_ble_eq_true rfl)
  rw [lg_entry_eq]
  generalize (lg_sl ([.int a1]) ++ List.replicate (1 - (lg_sl ([.int a1])).length) Slot.unset).toArray = ls at hl ⊢
  have hl : lv_has ls 1 [(0, .int a1)] := hl
  obtain ⟨QQ, hQQ⟩ : ∃ z, z = MQ below (vp_Si post) (List.toArray [.int a1]) s 0 0 (fun _ => False) := ⟨_, rfl⟩
  rw [← hQQ]
  refine lv_iload_n hx hb dX7_isSyllable_0 rfl (lv_at hl 0 rfl) ?_
  refine lv_ldc (v := (44032 : Int32)) hx hb hown (hts _ tw691) dX7_isSyllable_1 ?_
  refine lv_icmp_lt (tgt := 16) hx hb dX7_isSyllable_3 (by decide) (fun c9 => ?_) (fun c9 => ?_)
  · replace h := h.1 c9
    refine lv_iconst (v := (0 : Int32)) hx hb dX7_isSyllable_16 (by decide) ?_
    rw [hQQ]
    exact W.zret (ty := .boolean) hx hb hr (by decide) (fun t ht hW => ⟨_, rfl, h, ht⟩) t_nil dX7_isSyllable_17
  · replace h := h.2 c9
    refine lv_iload_n hx hb dX7_isSyllable_6 rfl (lv_at hl 0 rfl) ?_
    refine lv_ldc (v := (55203 : Int32)) hx hb hown (hts _ tw692) dX7_isSyllable_7 ?_
    refine lv_icmp_gt (tgt := 16) hx hb dX7_isSyllable_9 (by decide) (fun c9 => ?_) (fun c9 => ?_)
    · replace h := h.1 c9
      refine lv_iconst (v := (0 : Int32)) hx hb dX7_isSyllable_16 (by decide) ?_
      rw [hQQ]
      exact W.zret (ty := .boolean) hx hb hr (by decide) (fun t ht hW => ⟨_, rfl, h, ht⟩) t_nil dX7_isSyllable_17
    · replace h := h.2 c9
      refine lv_iconst (v := (1 : Int32)) hx hb dX7_isSyllable_12 (by decide) ?_
      refine lv_goto (tgt := 17) hx hb dX7_isSyllable_13 (by decide) ?_
      rw [hQQ]
      exact W.zret (ty := .boolean) hx hb hr (by decide) (fun t ht hW => ⟨_, rfl, h, ht⟩) t_nil dX7_isSyllable_17
set_option maxHeartbeats 4000000 in
set_option maxRecDepth 100000 in
theorem m_X7_rowOf (l : Launch) (dC : Nat → ClassId) (dI : Nat → Nat → Nat) (cI cZ cJ : ClassId) (q_this : Nat) (q_markFirst : Nat) (q_markLast : Nat) (q_markClass : Nat) (q_kindFirst : Nat) (q_kindLast : Nat) (q_kindOf : Nat) (q_owners : Nat) (q_isLoose : Nat) (q_parts : Nat) (q_out : Nat) (q_text : Nat) (q_work : Nat) (q_ranks : Nat) (q_form : Nat) (q_waits : Nat) (q_met : Nat) (v_fault : Int32) (v_marks : Int32) (v_kinds : Int32) (v_rows : Int32) (v_excluded : Int32) (v_size : Int32) (v_many : Int32) (v_shown : Int32) (v_wasAsked : Int32) (v_waiting : Int32) (v_markFirst : Nat → Int32) (v_markLast : Nat → Int32) (v_markClass : Nat → Int32) (v_kindFirst : Nat → Int32) (v_kindLast : Nat → Int32) (v_kindOf : Nat → Int32) (v_owners : Nat → Int32) (v_isLoose : Nat → Int32) (v_parts : Nat → Int32) (v_out : Nat → Int32) (v_text : Nat → Int32) (v_work : Nat → Int32) (v_ranks : Nat → Int32) (v_form : Nat → Int32) (v_waits : Nat → Int32) (v_met : Nat → Int32) (a1 : Int32) (post : Int32 → Prop) (h : w_X7_rowOf post v_rows v_owners a1) : Met l yX7_rowOf [.code yX7_rowOf cX7_rowOf 4 (some .int)] ({ frames := 0, cells := 0, slots := 0, locals := 0 } : Room) (va_Pc [.ref q_this, .int a1] (fun U => va_P (dC, dI) vwC [(q_this, .inr (6, [.int v_fault, .int v_marks, .ref q_markFirst, .ref q_markLast, .ref q_markClass, .int v_kinds, .ref q_kindFirst, .ref q_kindLast, .ref q_kindOf, .int v_rows, .ref q_owners, .ref q_isLoose, .ref q_parts, .int v_excluded, .ref q_out, .int v_size, .ref q_text, .int v_many, .ref q_work, .ref q_ranks, .int v_shown, .int v_wasAsked, .ref q_form, .int v_waiting, .ref q_waits, .ref q_met])), (q_markFirst, .inl (cI, 60, .inl v_markFirst)), (q_markLast, .inl (cI, 60, .inl v_markLast)), (q_markClass, .inl (cI, 60, .inl v_markClass)), (q_kindFirst, .inl (cI, 60, .inl v_kindFirst)), (q_kindLast, .inl (cI, 60, .inl v_kindLast)), (q_kindOf, .inl (cI, 60, .inl v_kindOf)), (q_owners, .inl (cI, 120, .inl v_owners)), (q_isLoose, .inl (cZ, 120, .inl v_isLoose)), (q_parts, .inl (cI, 360, .inl v_parts)), (q_out, .inl (cI, 60, .inl v_out)), (q_text, .inl (cI, 1000, .inl v_text)), (q_work, .inl (cI, 2010, .inl v_work)), (q_ranks, .inl (cI, 2010, .inl v_ranks)), (q_form, .inl (cI, 2000, .inl v_form)), (q_waits, .inl (cI, 1000, .inl v_waits)), (q_met, .inl (cZ, 120, .inl v_met))] U.heap ∧ KK dC dI cI cZ cJ U)) (vp_Si post) 0 0 (fun _ => False) := by
  refine Met.ofW (cc := cX7_rowOf) (maxL := 4) (ret := (some .int)) (by decide) rfl ?_
  intro p e s m args below meth c s₁ B hml hv
  obtain ⟨rfl, hP, hKK⟩ := hv
  have hK := hKK.1
  have hx := B.exec
  have hb := B.bytes
  have hr := B.returns
  have hts : ∀ w ∈ TG, w.before (List.toArray [.ref q_this, .int a1]) s = true := hKK.ts
  have hown : s.vm.findClass RX7 = some m.cls := findClass_of_methodNamed B.named
  have hlocks := B.notSynchronized
  have hl := lv_entry ([.ref q_this, .int a1]) (n := 4) (Nat.le_of_ble_eq_true rfl)
  rw [lg_entry_eq]
  generalize (lg_sl ([.ref q_this, .int a1]) ++ List.replicate (4 - (lg_sl ([.ref q_this, .int a1])).length) Slot.unset).toArray = ls at hl ⊢
  have hl : lv_has ls 4 [(0, .ref q_this), (1, .int a1)] := hl
  obtain ⟨QQ, hQQ⟩ : ∃ z, z = MQ below (vp_Si post) (List.toArray [.ref q_this, .int a1]) s 0 0 (fun _ => False) := ⟨_, rfl⟩
  rw [← hQQ]
  have P4 : ∀ (n : Nat) (x2 : Int32) (x3 : Int32) , w_X7_rowOf_4 post v_rows v_owners a1 n x2 x3 → ∀ (ls : Array Slot), lv_has ls 4 [(0, .ref q_this), (1, .int a1), (2, .int x2), (3, .int x3)] → W p l e (headSpec [.code yX7_rowOf cX7_rowOf 4 (some .int)] ({ frames := 0, cells := 0, slots := 0, locals := 0 } : Room)).room s m (List.toArray [.ref q_this, .int a1]) below meth c s.heap [] 0 0 QQ (F0 m 4 ls []) := by
    intro  n
    induction n with
    | zero => intro x2 x3 h; exact h.elim
    | succ n ih =>
      intro x2 x3 h ls hl
      refine lv_iload_n hx hb dX7_rowOf_4 rfl (lv_at hl 3 rfl) ?_
      refine lv_aload_n hx hb dX7_rowOf_5 rfl (lv_at hl 0 rfl) ?_
      refine va_get (D := (dC, dI)) (ci := 6) (v := .int v_rows) (C := RX7) (T := TX7) (N := 26) hx hb hts inX7 hown hK hP 0 rfl rfl 9 (by decide) (hts _ tw587) (fun _ h9 => h9) rfl dX7_rowOf_6 ?_
      refine lv_icmp_ge (tgt := 34) hx hb dX7_rowOf_9 (by decide) (fun c9 => ?_) (fun c9 => ?_)
      · replace h := h.1 c9
        refine lv_iload_n hx hb dX7_rowOf_34 rfl (lv_at hl 2 rfl) ?_
        rw [hQQ]
        exact W.iret hx hb hr (fun t ht hW => ⟨_, rfl, h, ht⟩) t_nil dX7_rowOf_35
      · replace h := h.2 c9
        refine lv_aload_n hx hb dX7_rowOf_12 rfl (lv_at hl 0 rfl) ?_
        refine va_get (D := (dC, dI)) (ci := 6) (v := .ref q_owners) (C := RX7) (T := TX7) (N := 26) hx hb hts inX7 hown hK hP 0 rfl rfl 10 (by decide) (hts _ tw588) (fun _ h9 => h9) rfl dX7_rowOf_13 ?_
        refine lv_iload_n hx hb dX7_rowOf_16 rfl (lv_at hl 3 rfl) ?_
        obtain ⟨hin, h⟩ := h
        refine va_iald hx hb hK hP 7 0 rfl rfl hin dX7_rowOf_17 ?_
        refine lv_iload_n hx hb dX7_rowOf_18 rfl (lv_at hl 1 rfl) ?_
        refine lv_icmp_ne (tgt := 26) hx hb dX7_rowOf_19 (by decide) (fun c9 => ?_) (fun c9 => ?_)
        · replace h := h.1 c9
          refine lv_iload_n hx hb dX7_rowOf_26 rfl (lv_at hl 2 rfl) ?_
          refine lv_istore_n (lv' := [(2, .int x2), (0, .ref q_this), (1, .int a1), (3, .int x3)]) hx hb dX7_rowOf_27 rfl hl (by decide) rfl (fun ls hl => ?_)
          refine lv_iinc (v := x3 + (1 : Int32)) (lv' := [(3, .int (x3 + (1 : Int32))), (2, .int x2), (0, .ref q_this), (1, .int a1)]) hx hb dX7_rowOf_28 hl (k := 3) rfl rfl (by decide) rfl (fun ls hl => ?_)
          refine lv_goto (tgt := 4) hx hb dX7_rowOf_31 (by decide) ?_
          exact ih x2 (x3 + (1 : Int32)) h ls (lv_sub hl [2, 3, 1, 0] rfl)
        · replace h := h.2 c9
          refine lv_iload_n hx hb dX7_rowOf_22 rfl (lv_at hl 3 rfl) ?_
          refine lv_goto (tgt := 27) hx hb dX7_rowOf_23 (by decide) ?_
          refine lv_istore_n (lv' := [(2, .int x3), (0, .ref q_this), (1, .int a1), (3, .int x3)]) hx hb dX7_rowOf_27 rfl hl (by decide) rfl (fun ls hl => ?_)
          refine lv_iinc (v := x3 + (1 : Int32)) (lv' := [(3, .int (x3 + (1 : Int32))), (2, .int x3), (0, .ref q_this), (1, .int a1)]) hx hb dX7_rowOf_28 hl (k := 3) rfl rfl (by decide) rfl (fun ls hl => ?_)
          refine lv_goto (tgt := 4) hx hb dX7_rowOf_31 (by decide) ?_
          exact ih x3 (x3 + (1 : Int32)) h ls (lv_sub hl [2, 3, 1, 0] rfl)
  refine lv_iconst (v := (-1 : Int32)) hx hb dX7_rowOf_0 (by decide) ?_
  refine lv_istore_n (lv' := [(2, .int (-1 : Int32)), (0, .ref q_this), (1, .int a1)]) hx hb dX7_rowOf_1 rfl hl (by decide) rfl (fun ls hl => ?_)
  refine lv_iconst (v := (0 : Int32)) hx hb dX7_rowOf_2 (by decide) ?_
  refine lv_istore_n (lv' := [(3, .int (0 : Int32)), (2, .int (-1 : Int32)), (0, .ref q_this), (1, .int a1)]) hx hb dX7_rowOf_3 rfl hl (by decide) rfl (fun ls hl => ?_)
  obtain ⟨k4, h⟩ := h
  refine P4 k4 (-1 : Int32) (0 : Int32) h ls (lv_sub hl [2, 3, 1, 0] rfl)
set_option maxHeartbeats 4000000 in
set_option maxRecDepth 100000 in
theorem m_X7_partOf (l : Launch) (dC : Nat → ClassId) (dI : Nat → Nat → Nat) (cI cZ cJ : ClassId) (q_this : Nat) (q_markFirst : Nat) (q_markLast : Nat) (q_markClass : Nat) (q_kindFirst : Nat) (q_kindLast : Nat) (q_kindOf : Nat) (q_owners : Nat) (q_isLoose : Nat) (q_parts : Nat) (q_out : Nat) (q_text : Nat) (q_work : Nat) (q_ranks : Nat) (q_form : Nat) (q_waits : Nat) (q_met : Nat) (v_fault : Int32) (v_marks : Int32) (v_kinds : Int32) (v_rows : Int32) (v_excluded : Int32) (v_size : Int32) (v_many : Int32) (v_shown : Int32) (v_wasAsked : Int32) (v_waiting : Int32) (v_markFirst : Nat → Int32) (v_markLast : Nat → Int32) (v_markClass : Nat → Int32) (v_kindFirst : Nat → Int32) (v_kindLast : Nat → Int32) (v_kindOf : Nat → Int32) (v_owners : Nat → Int32) (v_isLoose : Nat → Int32) (v_parts : Nat → Int32) (v_out : Nat → Int32) (v_text : Nat → Int32) (v_work : Nat → Int32) (v_ranks : Nat → Int32) (v_form : Nat → Int32) (v_waits : Nat → Int32) (v_met : Nat → Int32) (a1 : Int32) (a2 : Int32) (a3 : Int32) (post : Int32 → Prop) (h : w_X7_partOf post v_rows v_owners v_isLoose v_parts a1 a2 a3) : Met l yX7_partOf [.code yX7_partOf cX7_partOf 6 (some .int)] ({ frames := 1, cells := 0, slots := 0, locals := 23 } : Room) (va_Pc [.ref q_this, .int a1, .int a2, .int a3] (fun U => va_P (dC, dI) vwC [(q_this, .inr (6, [.int v_fault, .int v_marks, .ref q_markFirst, .ref q_markLast, .ref q_markClass, .int v_kinds, .ref q_kindFirst, .ref q_kindLast, .ref q_kindOf, .int v_rows, .ref q_owners, .ref q_isLoose, .ref q_parts, .int v_excluded, .ref q_out, .int v_size, .ref q_text, .int v_many, .ref q_work, .ref q_ranks, .int v_shown, .int v_wasAsked, .ref q_form, .int v_waiting, .ref q_waits, .ref q_met])), (q_markFirst, .inl (cI, 60, .inl v_markFirst)), (q_markLast, .inl (cI, 60, .inl v_markLast)), (q_markClass, .inl (cI, 60, .inl v_markClass)), (q_kindFirst, .inl (cI, 60, .inl v_kindFirst)), (q_kindLast, .inl (cI, 60, .inl v_kindLast)), (q_kindOf, .inl (cI, 60, .inl v_kindOf)), (q_owners, .inl (cI, 120, .inl v_owners)), (q_isLoose, .inl (cZ, 120, .inl v_isLoose)), (q_parts, .inl (cI, 360, .inl v_parts)), (q_out, .inl (cI, 60, .inl v_out)), (q_text, .inl (cI, 1000, .inl v_text)), (q_work, .inl (cI, 2010, .inl v_work)), (q_ranks, .inl (cI, 2010, .inl v_ranks)), (q_form, .inl (cI, 2000, .inl v_form)), (q_waits, .inl (cI, 1000, .inl v_waits)), (q_met, .inl (cZ, 120, .inl v_met))] U.heap ∧ KK dC dI cI cZ cJ U)) (vp_Si post) 0 0 (fun _ => False) := by
  refine Met.ofW (cc := cX7_partOf) (maxL := 6) (ret := (some .int)) (by decide) rfl ?_
  intro p e s m args below meth c s₁ B hml hv
  obtain ⟨rfl, hP, hKK⟩ := hv
  have hK := hKK.1
  have hx := B.exec
  have hb := B.bytes
  have hr := B.returns
  have hts : ∀ w ∈ TG, w.before (List.toArray [.ref q_this, .int a1, .int a2, .int a3]) s = true := hKK.ts
  have hown : s.vm.findClass RX7 = some m.cls := findClass_of_methodNamed B.named
  have hlocks := B.notSynchronized
  have hl := lv_entry ([.ref q_this, .int a1, .int a2, .int a3]) (n := 6) (Nat.le_of_ble_eq_true rfl)
  rw [lg_entry_eq]
  generalize (lg_sl ([.ref q_this, .int a1, .int a2, .int a3]) ++ List.replicate (6 - (lg_sl ([.ref q_this, .int a1, .int a2, .int a3])).length) Slot.unset).toArray = ls at hl ⊢
  have hl : lv_has ls 6 [(0, .ref q_this), (1, .int a1), (2, .int a2), (3, .int a3)] := hl
  obtain ⟨QQ, hQQ⟩ : ∃ z, z = MQ below (vp_Si post) (List.toArray [.ref q_this, .int a1, .int a2, .int a3]) s 0 0 (fun _ => False) := ⟨_, rfl⟩
  rw [← hQQ]
  have P117 : ∀ (x4 : Int32) , w_X7_partOf_117 post v_parts a2 x4 → ∀ (ls : Array Slot), lv_has ls 6 [(0, .ref q_this), (2, .int a2), (4, .int x4)] → W p l e (headSpec [.code yX7_partOf cX7_partOf 6 (some .int)] ({ frames := 1, cells := 0, slots := 0, locals := 23 } : Room)).room s m (List.toArray [.ref q_this, .int a1, .int a2, .int a3]) below meth c s.heap [] 0 0 QQ (F0 m 117 ls []) := by
    intro x4 h ls hl
    refine lv_aload_n hx hb dX7_partOf_117 rfl (lv_at hl 0 rfl) ?_
    refine va_get (D := (dC, dI)) (ci := 6) (v := .ref q_parts) (C := RX7) (T := TX7) (N := 26) hx hb hts inX7 hown hK hP 0 rfl rfl 12 (by decide) (hts _ tw590) (fun _ h9 => h9) rfl dX7_partOf_118 ?_
    refine lv_iconst (v := (3 : Int32)) hx hb dX7_partOf_121 (by decide) ?_
    refine lv_iload hx hb dX7_partOf_122 (lv_at hl 2 rfl) ?_
    refine lv_imul hx hb dX7_partOf_124 ?_
    refine lv_iload_n hx hb dX7_partOf_125 rfl (lv_at hl 1 rfl) ?_
    refine lv_iadd hx hb dX7_partOf_126 ?_
    obtain ⟨hin, h⟩ := h
    refine va_iald hx hb hK hP 9 0 rfl rfl hin dX7_partOf_127 ?_
    rw [hQQ]
    exact W.iret hx hb hr (fun t ht hW => ⟨_, rfl, h, ht⟩) t_nil dX7_partOf_128
  refine lv_iload_n hx hb dX7_partOf_0 rfl (lv_at hl 1 rfl) ?_
  have hPc := hP.sub (ws' := []) [] rfl
  refine na_calls (va_runS (As := [.int a1]) (rest := []) ⟨hx, hb, hml, hown, hts⟩ (m_X7_isSyllable l dC dI cI cZ cJ a1 _ h) (cwS 1 hts (na_gS tw688 tw689 tw7 tw690 rfl) rfl rfl rfl (by decide +kernel) ⟨Nat.le_of_ble_eq_true rfl, Nat.le_of_ble_eq_true rfl⟩) ⟨fun a U g mk q => by obtain ⟨q0, qP, qK⟩ := q; exact ⟨q0, qP, qK.same rfl⟩, fun U hU hW => ⟨rfl, by rw [hU]; exact hPc, hKK.warm hW⟩⟩ rfl rfl hl.1 rfl (lv_room (Nat.le_of_ble_eq_true rfl)) dX7_partOf_1 ⟨Nat.zero_le _, Nat.zero_le _⟩) (fun r_1 h => ?_)
  refine lv_if_eq (tgt := 82) hx hb dX7_partOf_4 (by decide) (fun c9 => ?_) (fun c9 => ?_)
  · replace h := h.1 c9
    refine lv_aload_n hx hb dX7_partOf_82 rfl (lv_at hl 0 rfl) ?_
    refine lv_iload_n hx hb dX7_partOf_83 rfl (lv_at hl 1 rfl) ?_
    have hPc := hP.sub (ws' := [(q_this, .inr (6, [.int v_fault, .int v_marks, .ref q_markFirst, .ref q_markLast, .ref q_markClass, .int v_kinds, .ref q_kindFirst, .ref q_kindLast, .ref q_kindOf, .int v_rows, .ref q_owners, .ref q_isLoose, .ref q_parts, .int v_excluded, .ref q_out, .int v_size, .ref q_text, .int v_many, .ref q_work, .ref q_ranks, .int v_shown, .int v_wasAsked, .ref q_form, .int v_waiting, .ref q_waits, .ref q_met])), (q_markFirst, .inl (cI, 60, .inl v_markFirst)), (q_markLast, .inl (cI, 60, .inl v_markLast)), (q_markClass, .inl (cI, 60, .inl v_markClass)), (q_kindFirst, .inl (cI, 60, .inl v_kindFirst)), (q_kindLast, .inl (cI, 60, .inl v_kindLast)), (q_kindOf, .inl (cI, 60, .inl v_kindOf)), (q_owners, .inl (cI, 120, .inl v_owners)), (q_isLoose, .inl (cZ, 120, .inl v_isLoose)), (q_parts, .inl (cI, 360, .inl v_parts)), (q_out, .inl (cI, 60, .inl v_out)), (q_text, .inl (cI, 1000, .inl v_text)), (q_work, .inl (cI, 2010, .inl v_work)), (q_ranks, .inl (cI, 2010, .inl v_ranks)), (q_form, .inl (cI, 2000, .inl v_form)), (q_waits, .inl (cI, 1000, .inl v_waits)), (q_met, .inl (cZ, 120, .inl v_met))]) [0, 1, 2, 3, 4, 5, 6, 7, 8, 9, 10, 11, 12, 13, 14, 15, 16] rfl
    refine na_calls (va_runV (As := [.int a1]) (rest := []) ⟨hx, hb, hml, hown, hts⟩ (m_X7_rowOf l dC dI cI cZ cJ q_this q_markFirst q_markLast q_markClass q_kindFirst q_kindLast q_kindOf q_owners q_isLoose q_parts q_out q_text q_work q_ranks q_form q_waits q_met v_fault v_marks v_kinds v_rows v_excluded v_size v_many v_shown v_wasAsked v_waiting v_markFirst v_markLast v_markClass v_kindFirst v_kindLast v_kindOf v_owners v_isLoose v_parts v_out v_text v_work v_ranks v_form v_waits v_met a1 _ h) (cwV 1 hts (na_gV tw693 tw695 tp35 tw7 tw696 rfl) rfl rfl rfl (by decide +kernel) ⟨Nat.le_of_ble_eq_true rfl, Nat.le_of_ble_eq_true rfl⟩) ⟨fun a U g mk q => by obtain ⟨q0, qP, qK⟩ := q; exact ⟨q0, qP, qK.same rfl⟩, va_recv hK hPc (ci := 6) (q0 := 0) rfl rfl, fun U hU hW => ⟨rfl, by rw [hU]; exact hPc, hKK.warm hW⟩⟩ rfl rfl hl.1 rfl (lv_room (Nat.le_of_ble_eq_true rfl)) dX7_partOf_84 ⟨Nat.zero_le _, Nat.zero_le _⟩) (fun r_84 h => ?_)
    refine lv_istore (lv' := [(4, .int r_84), (0, .ref q_this), (1, .int a1), (2, .int a2), (3, .int a3)]) hx hb dX7_partOf_87 hl (by decide) rfl (fun ls hl => ?_)
    refine lv_iload hx hb dX7_partOf_89 (lv_at hl 0 rfl) ?_
    refine lv_if_lt (tgt := 113) hx hb dX7_partOf_91 (by decide) (fun c9 => ?_) (fun c9 => ?_)
    · replace h := h.1 c9
      refine lv_iconst (v := (-1 : Int32)) hx hb dX7_partOf_113 (by decide) ?_
      refine lv_goto (tgt := 128) hx hb dX7_partOf_114 (by decide) ?_
      rw [hQQ]
      exact W.iret hx hb hr (fun t ht hW => ⟨_, rfl, h, ht⟩) t_nil dX7_partOf_128
    · replace h := h.2 c9
      refine lv_iload_n hx hb dX7_partOf_94 rfl (lv_at hl 3 rfl) ?_
      refine lv_iconst (v := (2 : Int32)) hx hb dX7_partOf_95 (by decide) ?_
      refine lv_icmp_gt (tgt := 113) hx hb dX7_partOf_96 (by decide) (fun c9 => ?_) (fun c9 => ?_)
      · replace h := h.1 c9
        refine lv_iconst (v := (-1 : Int32)) hx hb dX7_partOf_113 (by decide) ?_
        refine lv_goto (tgt := 128) hx hb dX7_partOf_114 (by decide) ?_
        rw [hQQ]
        exact W.iret hx hb hr (fun t ht hW => ⟨_, rfl, h, ht⟩) t_nil dX7_partOf_128
      · replace h := h.2 c9
        refine lv_aload_n hx hb dX7_partOf_99 rfl (lv_at hl 1 rfl) ?_
        refine va_get (D := (dC, dI)) (ci := 6) (v := .ref q_isLoose) (C := RX7) (T := TX7) (N := 26) hx hb hts inX7 hown hK hP 0 rfl rfl 11 (by decide) (hts _ tw589) (fun _ h9 => h9) rfl dX7_partOf_100 ?_
        refine lv_iload hx hb dX7_partOf_103 (lv_at hl 0 rfl) ?_
        obtain ⟨hin, h⟩ := h
        refine va_zald hx hb hK hP 8 1 rfl rfl hin dX7_partOf_105 ?_
        refine lv_if_eq (tgt := 117) hx hb dX7_partOf_106 (by decide) (fun c9 => ?_) (fun c9 => ?_)
        · replace h := h.1 c9
          refine P117 r_84 h ls (lv_sub hl [1, 3, 0] rfl)
        · replace h := h.2 c9
          refine lv_iload_n hx hb dX7_partOf_109 rfl (lv_at hl 4 rfl) ?_
          refine lv_if_ne (tgt := 117) hx hb dX7_partOf_110 (by decide) (fun c9 => ?_) (fun c9 => ?_)
          · replace h := h.1 c9
            refine P117 r_84 h ls (lv_sub hl [1, 3, 0] rfl)
          · replace h := h.2 c9
            refine lv_iconst (v := (-1 : Int32)) hx hb dX7_partOf_113 (by decide) ?_
            refine lv_goto (tgt := 128) hx hb dX7_partOf_114 (by decide) ?_
            rw [hQQ]
            exact W.iret hx hb hr (fun t ht hW => ⟨_, rfl, h, ht⟩) t_nil dX7_partOf_128
  · replace h := h.2 c9
    refine lv_iload_n hx hb dX7_partOf_7 rfl (lv_at hl 1 rfl) ?_
    refine lv_ldc (v := (44032 : Int32)) hx hb hown (hts _ tw691) dX7_partOf_8 ?_
    refine lv_isub hx hb dX7_partOf_10 ?_
    refine lv_istore (lv' := [(4, .int (a1 - (44032 : Int32))), (0, .ref q_this), (1, .int a1), (2, .int a2), (3, .int a3)]) hx hb dX7_partOf_11 hl (by decide) rfl (fun ls hl => ?_)
    refine lv_iload hx hb dX7_partOf_13 (lv_at hl 0 rfl) ?_
    refine lv_bipush (v := (28 : Int32)) hx hb dX7_partOf_15 (by decide) ?_
    refine lv_irem hx hb dX7_partOf_17 (by decide) ?_
    refine lv_istore (lv' := [(5, .int ((a1 - (44032 : Int32)) - (a1 - (44032 : Int32)) / (28 : Int32) * (28 : Int32))), (4, .int (a1 - (44032 : Int32))), (0, .ref q_this), (1, .int a1), (2, .int a2), (3, .int a3)]) hx hb dX7_partOf_18 hl (by decide) rfl (fun ls hl => ?_)
    refine lv_iload_n hx hb dX7_partOf_20 rfl (lv_at hl 4 rfl) ?_
    refine lv_iconst (v := (1 : Int32)) hx hb dX7_partOf_21 (by decide) ?_
    refine lv_icmp_le (tgt := 27) hx hb dX7_partOf_22 (by decide) (fun c9 => ?_) (fun c9 => ?_)
    · replace h := h.1 c9
      refine lv_iload hx hb dX7_partOf_27 (lv_at hl 0 rfl) ?_
      refine lv_if_le (tgt := 52) hx hb dX7_partOf_29 (by decide) (fun c9 => ?_) (fun c9 => ?_)
      · replace h := h.1 c9
        refine lv_iload_n hx hb dX7_partOf_52 rfl (lv_at hl 4 rfl) ?_
        refine lv_if_ne (tgt := 69) hx hb dX7_partOf_53 (by decide) (fun c9 => ?_) (fun c9 => ?_)
        · replace h := h.1 c9
          refine lv_sipush (v := (4449 : Int32)) hx hb dX7_partOf_69 (by decide) ?_
          refine lv_iload hx hb dX7_partOf_72 (lv_at hl 1 rfl) ?_
          refine lv_bipush (v := (28 : Int32)) hx hb dX7_partOf_74 (by decide) ?_
          refine lv_idiv hx hb dX7_partOf_76 (by decide) ?_
          refine lv_bipush (v := (21 : Int32)) hx hb dX7_partOf_77 (by decide) ?_
          refine lv_irem hx hb dX7_partOf_79 (by decide) ?_
          refine lv_iadd hx hb dX7_partOf_80 ?_
          rw [hQQ]
          exact W.iret hx hb hr (fun t ht hW => ⟨_, rfl, h, ht⟩) t_nil dX7_partOf_81
        · replace h := h.2 c9
          refine lv_sipush (v := (4352 : Int32)) hx hb dX7_partOf_56 (by decide) ?_
          refine lv_iload hx hb dX7_partOf_59 (lv_at hl 1 rfl) ?_
          refine lv_sipush (v := (588 : Int32)) hx hb dX7_partOf_61 (by decide) ?_
          refine lv_idiv hx hb dX7_partOf_64 (by decide) ?_
          refine lv_iadd hx hb dX7_partOf_65 ?_
          refine lv_goto (tgt := 81) hx hb dX7_partOf_66 (by decide) ?_
          rw [hQQ]
          exact W.iret hx hb hr (fun t ht hW => ⟨_, rfl, h, ht⟩) t_nil dX7_partOf_81
      · replace h := h.2 c9
        refine lv_iload_n hx hb dX7_partOf_32 rfl (lv_at hl 4 rfl) ?_
        refine lv_if_ne (tgt := 43) hx hb dX7_partOf_33 (by decide) (fun c9 => ?_) (fun c9 => ?_)
        · replace h := h.1 c9
          refine lv_sipush (v := (4519 : Int32)) hx hb dX7_partOf_43 (by decide) ?_
          refine lv_iload hx hb dX7_partOf_46 (lv_at hl 0 rfl) ?_
          refine lv_iadd hx hb dX7_partOf_48 ?_
          refine lv_goto (tgt := 81) hx hb dX7_partOf_49 (by decide) ?_
          rw [hQQ]
          exact W.iret hx hb hr (fun t ht hW => ⟨_, rfl, h, ht⟩) t_nil dX7_partOf_81
        · replace h := h.2 c9
          refine lv_iload_n hx hb dX7_partOf_36 rfl (lv_at hl 3 rfl) ?_
          refine lv_iload hx hb dX7_partOf_37 (lv_at hl 0 rfl) ?_
          refine lv_isub hx hb dX7_partOf_39 ?_
          refine lv_goto (tgt := 81) hx hb dX7_partOf_40 (by decide) ?_
          rw [hQQ]
          exact W.iret hx hb hr (fun t ht hW => ⟨_, rfl, h, ht⟩) t_nil dX7_partOf_81
    · replace h := h.2 c9
      refine lv_iconst (v := (-1 : Int32)) hx hb dX7_partOf_25 (by decide) ?_
      rw [hQQ]
      exact W.iret hx hb hr (fun t ht hW => ⟨_, rfl, h, ht⟩) t_nil dX7_partOf_26
set_option maxHeartbeats 4000000 in
set_option maxRecDepth 100000 in
theorem m_X7_wholeOf (l : Launch) (dC : Nat → ClassId) (dI : Nat → Nat → Nat) (cI cZ cJ : ClassId) (q_this : Nat) (q_markFirst : Nat) (q_markLast : Nat) (q_markClass : Nat) (q_kindFirst : Nat) (q_kindLast : Nat) (q_kindOf : Nat) (q_owners : Nat) (q_isLoose : Nat) (q_parts : Nat) (q_out : Nat) (q_text : Nat) (q_work : Nat) (q_ranks : Nat) (q_form : Nat) (q_waits : Nat) (q_met : Nat) (v_fault : Int32) (v_marks : Int32) (v_kinds : Int32) (v_rows : Int32) (v_excluded : Int32) (v_size : Int32) (v_many : Int32) (v_shown : Int32) (v_wasAsked : Int32) (v_waiting : Int32) (v_markFirst : Nat → Int32) (v_markLast : Nat → Int32) (v_markClass : Nat → Int32) (v_kindFirst : Nat → Int32) (v_kindLast : Nat → Int32) (v_kindOf : Nat → Int32) (v_owners : Nat → Int32) (v_isLoose : Nat → Int32) (v_parts : Nat → Int32) (v_out : Nat → Int32) (v_text : Nat → Int32) (v_work : Nat → Int32) (v_ranks : Nat → Int32) (v_form : Nat → Int32) (v_waits : Nat → Int32) (v_met : Nat → Int32) (a1 : Int32) (a2 : Int32) (post : Int32 → Prop) (h : w_X7_wholeOf post v_rows v_owners v_isLoose v_parts a1 a2) : Met l yX7_wholeOf [.code yX7_wholeOf cX7_wholeOf 6 (some .int)] ({ frames := 1, cells := 0, slots := 0, locals := 20 } : Room) (va_Pc [.ref q_this, .int a1, .int a2] (fun U => va_P (dC, dI) vwC [(q_this, .inr (6, [.int v_fault, .int v_marks, .ref q_markFirst, .ref q_markLast, .ref q_markClass, .int v_kinds, .ref q_kindFirst, .ref q_kindLast, .ref q_kindOf, .int v_rows, .ref q_owners, .ref q_isLoose, .ref q_parts, .int v_excluded, .ref q_out, .int v_size, .ref q_text, .int v_many, .ref q_work, .ref q_ranks, .int v_shown, .int v_wasAsked, .ref q_form, .int v_waiting, .ref q_waits, .ref q_met])), (q_markFirst, .inl (cI, 60, .inl v_markFirst)), (q_markLast, .inl (cI, 60, .inl v_markLast)), (q_markClass, .inl (cI, 60, .inl v_markClass)), (q_kindFirst, .inl (cI, 60, .inl v_kindFirst)), (q_kindLast, .inl (cI, 60, .inl v_kindLast)), (q_kindOf, .inl (cI, 60, .inl v_kindOf)), (q_owners, .inl (cI, 120, .inl v_owners)), (q_isLoose, .inl (cZ, 120, .inl v_isLoose)), (q_parts, .inl (cI, 360, .inl v_parts)), (q_out, .inl (cI, 60, .inl v_out)), (q_text, .inl (cI, 1000, .inl v_text)), (q_work, .inl (cI, 2010, .inl v_work)), (q_ranks, .inl (cI, 2010, .inl v_ranks)), (q_form, .inl (cI, 2000, .inl v_form)), (q_waits, .inl (cI, 1000, .inl v_waits)), (q_met, .inl (cZ, 120, .inl v_met))] U.heap ∧ KK dC dI cI cZ cJ U)) (vp_Si post) 0 0 (fun _ => False) := by
  refine Met.ofW (cc := cX7_wholeOf) (maxL := 6) (ret := (some .int)) (by decide) rfl ?_
  intro p e s m args below meth c s₁ B hml hv
  obtain ⟨rfl, hP, hKK⟩ := hv
  have hK := hKK.1
  have hx := B.exec
  have hb := B.bytes
  have hr := B.returns
  have hts : ∀ w ∈ TG, w.before (List.toArray [.ref q_this, .int a1, .int a2]) s = true := hKK.ts
  have hown : s.vm.findClass RX7 = some m.cls := findClass_of_methodNamed B.named
  have hlocks := B.notSynchronized
  have hl := lv_entry ([.ref q_this, .int a1, .int a2]) (n := 6) (Nat.le_of_ble_eq_true rfl)
  rw [lg_entry_eq]
  generalize (lg_sl ([.ref q_this, .int a1, .int a2]) ++ List.replicate (6 - (lg_sl ([.ref q_this, .int a1, .int a2])).length) Slot.unset).toArray = ls at hl ⊢
  have hl : lv_has ls 6 [(0, .ref q_this), (1, .int a1), (2, .int a2)] := hl
  obtain ⟨QQ, hQQ⟩ : ∃ z, z = MQ below (vp_Si post) (List.toArray [.ref q_this, .int a1, .int a2]) s 0 0 (fun _ => False) := ⟨_, rfl⟩
  rw [← hQQ]
  have P104 : ∀ (n : Nat) (x4 : Int32) (x5 : Int32) , w_X7_wholeOf_104 post v_rows v_owners v_isLoose v_parts a1 a2 n x4 x5 → ∀ (ls : Array Slot), lv_has ls 6 [(0, .ref q_this), (1, .int a1), (2, .int a2), (4, .int x4), (5, .int x5)] → W p l e (headSpec [.code yX7_wholeOf cX7_wholeOf 6 (some .int)] ({ frames := 1, cells := 0, slots := 0, locals := 20 } : Room)).room s m (List.toArray [.ref q_this, .int a1, .int a2]) below meth c s.heap [] 0 0 QQ (F0 m 104 ls []) := by
    intro  n
    induction n with
    | zero => intro x4 x5 h; exact h.elim
    | succ n ih =>
      intro x4 x5 h ls hl
      refine lv_iload hx hb dX7_wholeOf_104 (lv_at hl 4 rfl) ?_
      refine lv_aload_n hx hb dX7_wholeOf_106 rfl (lv_at hl 0 rfl) ?_
      refine va_get (D := (dC, dI)) (ci := 6) (v := .int v_rows) (C := RX7) (T := TX7) (N := 26) hx hb hts inX7 hown hK hP 0 rfl rfl 9 (by decide) (hts _ tw587) (fun _ h9 => h9) rfl dX7_wholeOf_107 ?_
      refine lv_icmp_ge (tgt := 171) hx hb dX7_wholeOf_110 (by decide) (fun c9 => ?_) (fun c9 => ?_)
      · replace h := h.1 c9
        refine lv_iload hx hb dX7_wholeOf_171 (lv_at hl 3 rfl) ?_
        rw [hQQ]
        exact W.iret hx hb hr (fun t ht hW => ⟨_, rfl, h, ht⟩) t_nil dX7_wholeOf_173
      · replace h := h.2 c9
        refine lv_aload_n hx hb dX7_wholeOf_113 rfl (lv_at hl 0 rfl) ?_
        refine va_get (D := (dC, dI)) (ci := 6) (v := .ref q_isLoose) (C := RX7) (T := TX7) (N := 26) hx hb hts inX7 hown hK hP 0 rfl rfl 11 (by decide) (hts _ tw589) (fun _ h9 => h9) rfl dX7_wholeOf_114 ?_
        refine lv_iload hx hb dX7_wholeOf_117 (lv_at hl 4 rfl) ?_
        obtain ⟨hin, h⟩ := h
        refine va_zald hx hb hK hP 8 1 rfl rfl hin dX7_wholeOf_119 ?_
        refine lv_if_ne (tgt := 161) hx hb dX7_wholeOf_120 (by decide) (fun c9 => ?_) (fun c9 => ?_)
        · replace h := h.1 c9
          refine lv_iload hx hb dX7_wholeOf_161 (lv_at hl 3 rfl) ?_
          refine lv_istore (lv' := [(4, .int x4), (0, .ref q_this), (1, .int a1), (2, .int a2), (5, .int x5)]) hx hb dX7_wholeOf_163 hl (by decide) rfl (fun ls hl => ?_)
          refine lv_iinc (v := x5 + (1 : Int32)) (lv' := [(5, .int (x5 + (1 : Int32))), (4, .int x4), (0, .ref q_this), (1, .int a1), (2, .int a2)]) hx hb dX7_wholeOf_165 hl (k := 4) rfl rfl (by decide) rfl (fun ls hl => ?_)
          refine lv_goto (tgt := 104) hx hb dX7_wholeOf_168 (by decide) ?_
          exact ih x4 (x5 + (1 : Int32)) h ls (lv_sub hl [2, 3, 4, 1, 0] rfl)
        · replace h := h.2 c9
          refine lv_aload_n hx hb dX7_wholeOf_123 rfl (lv_at hl 0 rfl) ?_
          refine va_get (D := (dC, dI)) (ci := 6) (v := .ref q_parts) (C := RX7) (T := TX7) (N := 26) hx hb hts inX7 hown hK hP 0 rfl rfl 12 (by decide) (hts _ tw590) (fun _ h9 => h9) rfl dX7_wholeOf_124 ?_
          refine lv_iconst (v := (3 : Int32)) hx hb dX7_wholeOf_127 (by decide) ?_
          refine lv_iload hx hb dX7_wholeOf_128 (lv_at hl 4 rfl) ?_
          refine lv_imul hx hb dX7_wholeOf_130 ?_
          obtain ⟨hin, h⟩ := h
          refine va_iald hx hb hK hP 9 0 rfl rfl hin dX7_wholeOf_131 ?_
          refine lv_iload_n hx hb dX7_wholeOf_132 rfl (lv_at hl 1 rfl) ?_
          refine lv_icmp_ne (tgt := 161) hx hb dX7_wholeOf_133 (by decide) (fun c9 => ?_) (fun c9 => ?_)
          · replace h := h.1 c9
            refine lv_iload hx hb dX7_wholeOf_161 (lv_at hl 3 rfl) ?_
            refine lv_istore (lv' := [(4, .int x4), (0, .ref q_this), (1, .int a1), (2, .int a2), (5, .int x5)]) hx hb dX7_wholeOf_163 hl (by decide) rfl (fun ls hl => ?_)
            refine lv_iinc (v := x5 + (1 : Int32)) (lv' := [(5, .int (x5 + (1 : Int32))), (4, .int x4), (0, .ref q_this), (1, .int a1), (2, .int a2)]) hx hb dX7_wholeOf_165 hl (k := 4) rfl rfl (by decide) rfl (fun ls hl => ?_)
            refine lv_goto (tgt := 104) hx hb dX7_wholeOf_168 (by decide) ?_
            exact ih x4 (x5 + (1 : Int32)) h ls (lv_sub hl [2, 3, 4, 1, 0] rfl)
          · replace h := h.2 c9
            refine lv_aload_n hx hb dX7_wholeOf_136 rfl (lv_at hl 0 rfl) ?_
            refine va_get (D := (dC, dI)) (ci := 6) (v := .ref q_parts) (C := RX7) (T := TX7) (N := 26) hx hb hts inX7 hown hK hP 0 rfl rfl 12 (by decide) (hts _ tw590) (fun _ h9 => h9) rfl dX7_wholeOf_137 ?_
            refine lv_iconst (v := (3 : Int32)) hx hb dX7_wholeOf_140 (by decide) ?_
            refine lv_iload hx hb dX7_wholeOf_141 (lv_at hl 4 rfl) ?_
            refine lv_imul hx hb dX7_wholeOf_143 ?_
            refine lv_iconst (v := (1 : Int32)) hx hb dX7_wholeOf_144 (by decide) ?_
            refine lv_iadd hx hb dX7_wholeOf_145 ?_
            obtain ⟨hin, h⟩ := h
            refine va_iald hx hb hK hP 9 0 rfl rfl hin dX7_wholeOf_146 ?_
            refine lv_iload_n hx hb dX7_wholeOf_147 rfl (lv_at hl 2 rfl) ?_
            refine lv_icmp_ne (tgt := 161) hx hb dX7_wholeOf_148 (by decide) (fun c9 => ?_) (fun c9 => ?_)
            · replace h := h.1 c9
              refine lv_iload hx hb dX7_wholeOf_161 (lv_at hl 3 rfl) ?_
              refine lv_istore (lv' := [(4, .int x4), (0, .ref q_this), (1, .int a1), (2, .int a2), (5, .int x5)]) hx hb dX7_wholeOf_163 hl (by decide) rfl (fun ls hl => ?_)
              refine lv_iinc (v := x5 + (1 : Int32)) (lv' := [(5, .int (x5 + (1 : Int32))), (4, .int x4), (0, .ref q_this), (1, .int a1), (2, .int a2)]) hx hb dX7_wholeOf_165 hl (k := 4) rfl rfl (by decide) rfl (fun ls hl => ?_)
              refine lv_goto (tgt := 104) hx hb dX7_wholeOf_168 (by decide) ?_
              exact ih x4 (x5 + (1 : Int32)) h ls (lv_sub hl [2, 3, 4, 1, 0] rfl)
            · replace h := h.2 c9
              refine lv_aload_n hx hb dX7_wholeOf_151 rfl (lv_at hl 0 rfl) ?_
              refine va_get (D := (dC, dI)) (ci := 6) (v := .ref q_owners) (C := RX7) (T := TX7) (N := 26) hx hb hts inX7 hown hK hP 0 rfl rfl 10 (by decide) (hts _ tw588) (fun _ h9 => h9) rfl dX7_wholeOf_152 ?_
              refine lv_iload hx hb dX7_wholeOf_155 (lv_at hl 4 rfl) ?_
              obtain ⟨hin, h⟩ := h
              refine va_iald hx hb hK hP 7 0 rfl rfl hin dX7_wholeOf_157 ?_
              refine lv_goto (tgt := 163) hx hb dX7_wholeOf_158 (by decide) ?_
              refine lv_istore (lv' := [(4, .int (v_owners x5.toNatClampNeg)), (0, .ref q_this), (1, .int a1), (2, .int a2), (5, .int x5)]) hx hb dX7_wholeOf_163 hl (by decide) rfl (fun ls hl => ?_)
              refine lv_iinc (v := x5 + (1 : Int32)) (lv' := [(5, .int (x5 + (1 : Int32))), (4, .int (v_owners x5.toNatClampNeg)), (0, .ref q_this), (1, .int a1), (2, .int a2)]) hx hb dX7_wholeOf_165 hl (k := 4) rfl rfl (by decide) rfl (fun ls hl => ?_)
              refine lv_goto (tgt := 104) hx hb dX7_wholeOf_168 (by decide) ?_
              exact ih (v_owners x5.toNatClampNeg) (x5 + (1 : Int32)) h ls (lv_sub hl [2, 3, 4, 1, 0] rfl)
  have P33 : ∀ (s0 : Int32) , w_X7_wholeOf_33 post v_rows v_owners v_isLoose v_parts a1 a2 s0 → ∀ (ls : Array Slot), lv_has ls 6 [(0, .ref q_this), (1, .int a1), (2, .int a2)] → W p l e (headSpec [.code yX7_wholeOf cX7_wholeOf 6 (some .int)] ({ frames := 1, cells := 0, slots := 0, locals := 20 } : Room)).room s m (List.toArray [.ref q_this, .int a1, .int a2]) below meth c s.heap [] 0 0 QQ (F0 m 33 ls [.int s0]) := by
    intro s0 h ls hl
    refine lv_istore_n (lv' := [(3, .int s0), (0, .ref q_this), (1, .int a1), (2, .int a2)]) hx hb dX7_wholeOf_33 rfl hl (by decide) rfl (fun ls hl => ?_)
    refine lv_iload_n hx hb dX7_wholeOf_34 rfl (lv_at hl 0 rfl) ?_
    refine lv_if_eq (tgt := 59) hx hb dX7_wholeOf_35 (by decide) (fun c9 => ?_) (fun c9 => ?_)
    · replace h := h.1 c9
      refine lv_iload_n hx hb dX7_wholeOf_59 rfl (lv_at hl 2 rfl) ?_
      have hPc := hP.sub (ws' := []) [] rfl
      refine na_calls (va_runS (As := [.int a1]) (rest := []) ⟨hx, hb, hml, hown, hts⟩ (m_X7_isSyllable l dC dI cI cZ cJ a1 _ h) (cwS 1 hts (na_gS tw688 tw689 tw7 tw690 rfl) rfl rfl rfl (by decide +kernel) ⟨Nat.le_of_ble_eq_true rfl, Nat.le_of_ble_eq_true rfl⟩) ⟨fun a U g mk q => by obtain ⟨q0, qP, qK⟩ := q; exact ⟨q0, qP, qK.same rfl⟩, fun U hU hW => ⟨rfl, by rw [hU]; exact hPc, hKK.warm hW⟩⟩ rfl rfl hl.1 rfl (lv_room (Nat.le_of_ble_eq_true rfl)) dX7_wholeOf_60 ⟨Nat.zero_le _, Nat.zero_le _⟩) (fun r_60 h => ?_)
      refine lv_if_eq (tgt := 98) hx hb dX7_wholeOf_63 (by decide) (fun c9 => ?_) (fun c9 => ?_)
      · replace h := h.1 c9
        refine lv_iconst (v := (-1 : Int32)) hx hb dX7_wholeOf_98 (by decide) ?_
        refine lv_istore (lv' := [(4, .int (-1 : Int32)), (3, .int s0), (0, .ref q_this), (1, .int a1), (2, .int a2)]) hx hb dX7_wholeOf_99 hl (by decide) rfl (fun ls hl => ?_)
        refine lv_iconst (v := (0 : Int32)) hx hb dX7_wholeOf_101 (by decide) ?_
        refine lv_istore (lv' := [(5, .int (0 : Int32)), (4, .int (-1 : Int32)), (3, .int s0), (0, .ref q_this), (1, .int a1), (2, .int a2)]) hx hb dX7_wholeOf_102 hl (by decide) rfl (fun ls hl => ?_)
        obtain ⟨k104, h⟩ := h
        refine P104 k104 (-1 : Int32) (0 : Int32) h ls (lv_sub hl [3, 4, 5, 1, 0] rfl)
      · replace h := h.2 c9
        refine lv_iload_n hx hb dX7_wholeOf_66 rfl (lv_at hl 2 rfl) ?_
        refine lv_ldc (v := (44032 : Int32)) hx hb hown (hts _ tw691) dX7_wholeOf_67 ?_
        refine lv_isub hx hb dX7_wholeOf_69 ?_
        refine lv_bipush (v := (28 : Int32)) hx hb dX7_wholeOf_70 (by decide) ?_
        refine lv_irem hx hb dX7_wholeOf_72 (by decide) ?_
        refine lv_if_ne (tgt := 98) hx hb dX7_wholeOf_73 (by decide) (fun c9 => ?_) (fun c9 => ?_)
        · replace h := h.1 c9
          refine lv_iconst (v := (-1 : Int32)) hx hb dX7_wholeOf_98 (by decide) ?_
          refine lv_istore (lv' := [(4, .int (-1 : Int32)), (3, .int s0), (0, .ref q_this), (1, .int a1), (2, .int a2)]) hx hb dX7_wholeOf_99 hl (by decide) rfl (fun ls hl => ?_)
          refine lv_iconst (v := (0 : Int32)) hx hb dX7_wholeOf_101 (by decide) ?_
          refine lv_istore (lv' := [(5, .int (0 : Int32)), (4, .int (-1 : Int32)), (3, .int s0), (0, .ref q_this), (1, .int a1), (2, .int a2)]) hx hb dX7_wholeOf_102 hl (by decide) rfl (fun ls hl => ?_)
          obtain ⟨k104, h⟩ := h
          refine P104 k104 (-1 : Int32) (0 : Int32) h ls (lv_sub hl [3, 4, 5, 1, 0] rfl)
        · replace h := h.2 c9
          refine lv_iload_n hx hb dX7_wholeOf_76 rfl (lv_at hl 3 rfl) ?_
          refine lv_sipush (v := (4520 : Int32)) hx hb dX7_wholeOf_77 (by decide) ?_
          refine lv_icmp_lt (tgt := 98) hx hb dX7_wholeOf_80 (by decide) (fun c9 => ?_) (fun c9 => ?_)
          · replace h := h.1 c9
            refine lv_iconst (v := (-1 : Int32)) hx hb dX7_wholeOf_98 (by decide) ?_
            refine lv_istore (lv' := [(4, .int (-1 : Int32)), (3, .int s0), (0, .ref q_this), (1, .int a1), (2, .int a2)]) hx hb dX7_wholeOf_99 hl (by decide) rfl (fun ls hl => ?_)
            refine lv_iconst (v := (0 : Int32)) hx hb dX7_wholeOf_101 (by decide) ?_
            refine lv_istore (lv' := [(5, .int (0 : Int32)), (4, .int (-1 : Int32)), (3, .int s0), (0, .ref q_this), (1, .int a1), (2, .int a2)]) hx hb dX7_wholeOf_102 hl (by decide) rfl (fun ls hl => ?_)
            obtain ⟨k104, h⟩ := h
            refine P104 k104 (-1 : Int32) (0 : Int32) h ls (lv_sub hl [3, 4, 5, 1, 0] rfl)
          · replace h := h.2 c9
            refine lv_iload_n hx hb dX7_wholeOf_83 rfl (lv_at hl 3 rfl) ?_
            refine lv_sipush (v := (4546 : Int32)) hx hb dX7_wholeOf_84 (by decide) ?_
            refine lv_icmp_gt (tgt := 98) hx hb dX7_wholeOf_87 (by decide) (fun c9 => ?_) (fun c9 => ?_)
            · replace h := h.1 c9
              refine lv_iconst (v := (-1 : Int32)) hx hb dX7_wholeOf_98 (by decide) ?_
              refine lv_istore (lv' := [(4, .int (-1 : Int32)), (3, .int s0), (0, .ref q_this), (1, .int a1), (2, .int a2)]) hx hb dX7_wholeOf_99 hl (by decide) rfl (fun ls hl => ?_)
              refine lv_iconst (v := (0 : Int32)) hx hb dX7_wholeOf_101 (by decide) ?_
              refine lv_istore (lv' := [(5, .int (0 : Int32)), (4, .int (-1 : Int32)), (3, .int s0), (0, .ref q_this), (1, .int a1), (2, .int a2)]) hx hb dX7_wholeOf_102 hl (by decide) rfl (fun ls hl => ?_)
              obtain ⟨k104, h⟩ := h
              refine P104 k104 (-1 : Int32) (0 : Int32) h ls (lv_sub hl [3, 4, 5, 1, 0] rfl)
            · replace h := h.2 c9
              refine lv_iload_n hx hb dX7_wholeOf_90 rfl (lv_at hl 2 rfl) ?_
              refine lv_iload_n hx hb dX7_wholeOf_91 rfl (lv_at hl 3 rfl) ?_
              refine lv_iadd hx hb dX7_wholeOf_92 ?_
              refine lv_sipush (v := (4519 : Int32)) hx hb dX7_wholeOf_93 (by decide) ?_
              refine lv_isub hx hb dX7_wholeOf_96 ?_
              rw [hQQ]
              exact W.iret hx hb hr (fun t ht hW => ⟨_, rfl, h, ht⟩) t_nil dX7_wholeOf_97
    · replace h := h.2 c9
      refine lv_ldc (v := (44032 : Int32)) hx hb hown (hts _ tw691) dX7_wholeOf_38 ?_
      refine lv_iload_n hx hb dX7_wholeOf_40 rfl (lv_at hl 2 rfl) ?_
      refine lv_sipush (v := (4352 : Int32)) hx hb dX7_wholeOf_41 (by decide) ?_
      refine lv_isub hx hb dX7_wholeOf_44 ?_
      refine lv_bipush (v := (21 : Int32)) hx hb dX7_wholeOf_45 (by decide) ?_
      refine lv_imul hx hb dX7_wholeOf_47 ?_
      refine lv_iload_n hx hb dX7_wholeOf_48 rfl (lv_at hl 3 rfl) ?_
      refine lv_iadd hx hb dX7_wholeOf_49 ?_
      refine lv_sipush (v := (4449 : Int32)) hx hb dX7_wholeOf_50 (by decide) ?_
      refine lv_isub hx hb dX7_wholeOf_53 ?_
      refine lv_bipush (v := (28 : Int32)) hx hb dX7_wholeOf_54 (by decide) ?_
      refine lv_imul hx hb dX7_wholeOf_56 ?_
      refine lv_iadd hx hb dX7_wholeOf_57 ?_
      rw [hQQ]
      exact W.iret hx hb hr (fun t ht hW => ⟨_, rfl, h, ht⟩) t_nil dX7_wholeOf_58
  have P32 : w_X7_wholeOf_32 post v_rows v_owners v_isLoose v_parts a1 a2 → ∀ (ls : Array Slot), lv_has ls 6 [(0, .ref q_this), (1, .int a1), (2, .int a2)] → W p l e (headSpec [.code yX7_wholeOf cX7_wholeOf 6 (some .int)] ({ frames := 1, cells := 0, slots := 0, locals := 20 } : Room)).room s m (List.toArray [.ref q_this, .int a1, .int a2]) below meth c s.heap [] 0 0 QQ (F0 m 32 ls []) := by
    intro  h ls hl
    refine lv_iconst (v := (0 : Int32)) hx hb dX7_wholeOf_32 (by decide) ?_
    refine P33 (0 : Int32) h ls (lv_sub hl [0, 1, 2] rfl)
  refine lv_iload_n hx hb dX7_wholeOf_0 rfl (lv_at hl 1 rfl) ?_
  refine lv_sipush (v := (4352 : Int32)) hx hb dX7_wholeOf_1 (by decide) ?_
  refine lv_icmp_lt (tgt := 32) hx hb dX7_wholeOf_4 (by decide) (fun c9 => ?_) (fun c9 => ?_)
  · replace h := h.1 c9
    refine P32 h ls (lv_sub hl [0, 1, 2] rfl)
  · replace h := h.2 c9
    refine lv_iload_n hx hb dX7_wholeOf_7 rfl (lv_at hl 1 rfl) ?_
    refine lv_sipush (v := (4370 : Int32)) hx hb dX7_wholeOf_8 (by decide) ?_
    refine lv_icmp_gt (tgt := 32) hx hb dX7_wholeOf_11 (by decide) (fun c9 => ?_) (fun c9 => ?_)
    · replace h := h.1 c9
      refine P32 h ls (lv_sub hl [0, 1, 2] rfl)
    · replace h := h.2 c9
      refine lv_iload_n hx hb dX7_wholeOf_14 rfl (lv_at hl 2 rfl) ?_
      refine lv_sipush (v := (4449 : Int32)) hx hb dX7_wholeOf_15 (by decide) ?_
      refine lv_icmp_lt (tgt := 32) hx hb dX7_wholeOf_18 (by decide) (fun c9 => ?_) (fun c9 => ?_)
      · replace h := h.1 c9
        refine P32 h ls (lv_sub hl [0, 1, 2] rfl)
      · replace h := h.2 c9
        refine lv_iload_n hx hb dX7_wholeOf_21 rfl (lv_at hl 2 rfl) ?_
        refine lv_sipush (v := (4469 : Int32)) hx hb dX7_wholeOf_22 (by decide) ?_
        refine lv_icmp_gt (tgt := 32) hx hb dX7_wholeOf_25 (by decide) (fun c9 => ?_) (fun c9 => ?_)
        · replace h := h.1 c9
          refine P32 h ls (lv_sub hl [0, 1, 2] rfl)
        · replace h := h.2 c9
          refine lv_iconst (v := (1 : Int32)) hx hb dX7_wholeOf_28 (by decide) ?_
          refine lv_goto (tgt := 33) hx hb dX7_wholeOf_29 (by decide) ?_
          refine P33 (1 : Int32) h ls (lv_sub hl [0, 1, 2] rfl)
set_option maxHeartbeats 4000000 in
set_option maxRecDepth 100000 in
theorem m_X7_await (l : Launch) (dC : Nat → ClassId) (dI : Nat → Nat → Nat) (cI cZ cJ : ClassId) (q_this : Nat) (q_markFirst : Nat) (q_markLast : Nat) (q_markClass : Nat) (q_kindFirst : Nat) (q_kindLast : Nat) (q_kindOf : Nat) (q_owners : Nat) (q_isLoose : Nat) (q_parts : Nat) (q_out : Nat) (q_text : Nat) (q_work : Nat) (q_ranks : Nat) (q_form : Nat) (q_waits : Nat) (q_met : Nat) (v_fault : Int32) (v_marks : Int32) (v_kinds : Int32) (v_rows : Int32) (v_excluded : Int32) (v_size : Int32) (v_many : Int32) (v_shown : Int32) (v_wasAsked : Int32) (v_waiting : Int32) (v_markFirst : Nat → Int32) (v_markLast : Nat → Int32) (v_markClass : Nat → Int32) (v_kindFirst : Nat → Int32) (v_kindLast : Nat → Int32) (v_kindOf : Nat → Int32) (v_owners : Nat → Int32) (v_isLoose : Nat → Int32) (v_parts : Nat → Int32) (v_out : Nat → Int32) (v_text : Nat → Int32) (v_work : Nat → Int32) (v_ranks : Nat → Int32) (v_form : Nat → Int32) (v_waits : Nat → Int32) (v_met : Nat → Int32) (a1 : Int32) (sz : Nat) (post : Int32 → (Nat → Int32) → Prop) (h : w_X7_await post v_waiting v_waits a1) : Met l yX7_await [.code yX7_await cX7_await 2 none] ({ frames := 0, cells := 0, slots := 0, locals := 0 } : Room) (va_Pc [.ref q_this, .int a1] (fun U => U.heap.size = sz ∧ va_P (dC, dI) vwC [(q_this, .inr (6, [.int v_fault, .int v_marks, .ref q_markFirst, .ref q_markLast, .ref q_markClass, .int v_kinds, .ref q_kindFirst, .ref q_kindLast, .ref q_kindOf, .int v_rows, .ref q_owners, .ref q_isLoose, .ref q_parts, .int v_excluded, .ref q_out, .int v_size, .ref q_text, .int v_many, .ref q_work, .ref q_ranks, .int v_shown, .int v_wasAsked, .ref q_form, .int v_waiting, .ref q_waits, .ref q_met])), (q_markFirst, .inl (cI, 60, .inl v_markFirst)), (q_markLast, .inl (cI, 60, .inl v_markLast)), (q_markClass, .inl (cI, 60, .inl v_markClass)), (q_kindFirst, .inl (cI, 60, .inl v_kindFirst)), (q_kindLast, .inl (cI, 60, .inl v_kindLast)), (q_kindOf, .inl (cI, 60, .inl v_kindOf)), (q_owners, .inl (cI, 120, .inl v_owners)), (q_isLoose, .inl (cZ, 120, .inl v_isLoose)), (q_parts, .inl (cI, 360, .inl v_parts)), (q_out, .inl (cI, 60, .inl v_out)), (q_text, .inl (cI, 1000, .inl v_text)), (q_work, .inl (cI, 2010, .inl v_work)), (q_ranks, .inl (cI, 2010, .inl v_ranks)), (q_form, .inl (cI, 2000, .inl v_form)), (q_waits, .inl (cI, 1000, .inl v_waits)), (q_met, .inl (cZ, 120, .inl v_met))] U.heap ∧ KK dC dI cI cZ cJ U ∧ va_D (fun _ => True) [(q_this, .inr (6, [.int v_fault, .int v_marks, .ref q_markFirst, .ref q_markLast, .ref q_markClass, .int v_kinds, .ref q_kindFirst, .ref q_kindLast, .ref q_kindOf, .int v_rows, .ref q_owners, .ref q_isLoose, .ref q_parts, .int v_excluded, .ref q_out, .int v_size, .ref q_text, .int v_many, .ref q_work, .ref q_ranks, .int v_shown, .int v_wasAsked, .ref q_form, .int v_waiting, .ref q_waits, .ref q_met])), (q_markFirst, .inl (cI, 60, .inl v_markFirst)), (q_markLast, .inl (cI, 60, .inl v_markLast)), (q_markClass, .inl (cI, 60, .inl v_markClass)), (q_kindFirst, .inl (cI, 60, .inl v_kindFirst)), (q_kindLast, .inl (cI, 60, .inl v_kindLast)), (q_kindOf, .inl (cI, 60, .inl v_kindOf)), (q_owners, .inl (cI, 120, .inl v_owners)), (q_isLoose, .inl (cZ, 120, .inl v_isLoose)), (q_parts, .inl (cI, 360, .inl v_parts)), (q_out, .inl (cI, 60, .inl v_out)), (q_text, .inl (cI, 1000, .inl v_text)), (q_work, .inl (cI, 2010, .inl v_work)), (q_ranks, .inl (cI, 2010, .inl v_ranks)), (q_form, .inl (cI, 2000, .inl v_form)), (q_waits, .inl (cI, 1000, .inl v_waits)), (q_met, .inl (cZ, 120, .inl v_met))])) (va_Qv (fun (u : Int32 × (Nat → Int32)) => post u.1 u.2) (fun (u : Int32 × (Nat → Int32)) (t : State) => va_P (dC, dI) vwC [(q_this, .inr (6, [.int v_fault, .int v_marks, .ref q_markFirst, .ref q_markLast, .ref q_markClass, .int v_kinds, .ref q_kindFirst, .ref q_kindLast, .ref q_kindOf, .int v_rows, .ref q_owners, .ref q_isLoose, .ref q_parts, .int v_excluded, .ref q_out, .int v_size, .ref q_text, .int v_many, .ref q_work, .ref q_ranks, .int v_shown, .int v_wasAsked, .ref q_form, .int u.1, .ref q_waits, .ref q_met])), (q_markFirst, .inl (cI, 60, .inl v_markFirst)), (q_markLast, .inl (cI, 60, .inl v_markLast)), (q_markClass, .inl (cI, 60, .inl v_markClass)), (q_kindFirst, .inl (cI, 60, .inl v_kindFirst)), (q_kindLast, .inl (cI, 60, .inl v_kindLast)), (q_kindOf, .inl (cI, 60, .inl v_kindOf)), (q_owners, .inl (cI, 120, .inl v_owners)), (q_isLoose, .inl (cZ, 120, .inl v_isLoose)), (q_parts, .inl (cI, 360, .inl v_parts)), (q_out, .inl (cI, 60, .inl v_out)), (q_text, .inl (cI, 1000, .inl v_text)), (q_work, .inl (cI, 2010, .inl v_work)), (q_ranks, .inl (cI, 2010, .inl v_ranks)), (q_form, .inl (cI, 2000, .inl v_form)), (q_waits, .inl (cI, 1000, .inl u.2)), (q_met, .inl (cZ, 120, .inl v_met))] t.heap ∧ va_D (va_A [(q_this, .inr (6, [.int v_fault, .int v_marks, .ref q_markFirst, .ref q_markLast, .ref q_markClass, .int v_kinds, .ref q_kindFirst, .ref q_kindLast, .ref q_kindOf, .int v_rows, .ref q_owners, .ref q_isLoose, .ref q_parts, .int v_excluded, .ref q_out, .int v_size, .ref q_text, .int v_many, .ref q_work, .ref q_ranks, .int v_shown, .int v_wasAsked, .ref q_form, .int v_waiting, .ref q_waits, .ref q_met])), (q_markFirst, .inl (cI, 60, .inl v_markFirst)), (q_markLast, .inl (cI, 60, .inl v_markLast)), (q_markClass, .inl (cI, 60, .inl v_markClass)), (q_kindFirst, .inl (cI, 60, .inl v_kindFirst)), (q_kindLast, .inl (cI, 60, .inl v_kindLast)), (q_kindOf, .inl (cI, 60, .inl v_kindOf)), (q_owners, .inl (cI, 120, .inl v_owners)), (q_isLoose, .inl (cZ, 120, .inl v_isLoose)), (q_parts, .inl (cI, 360, .inl v_parts)), (q_out, .inl (cI, 60, .inl v_out)), (q_text, .inl (cI, 1000, .inl v_text)), (q_work, .inl (cI, 2010, .inl v_work)), (q_ranks, .inl (cI, 2010, .inl v_ranks)), (q_form, .inl (cI, 2000, .inl v_form)), (q_waits, .inl (cI, 1000, .inl v_waits)), (q_met, .inl (cZ, 120, .inl v_met))] sz) [(q_this, .inr (6, [.int v_fault, .int v_marks, .ref q_markFirst, .ref q_markLast, .ref q_markClass, .int v_kinds, .ref q_kindFirst, .ref q_kindLast, .ref q_kindOf, .int v_rows, .ref q_owners, .ref q_isLoose, .ref q_parts, .int v_excluded, .ref q_out, .int v_size, .ref q_text, .int v_many, .ref q_work, .ref q_ranks, .int v_shown, .int v_wasAsked, .ref q_form, .int u.1, .ref q_waits, .ref q_met])), (q_markFirst, .inl (cI, 60, .inl v_markFirst)), (q_markLast, .inl (cI, 60, .inl v_markLast)), (q_markClass, .inl (cI, 60, .inl v_markClass)), (q_kindFirst, .inl (cI, 60, .inl v_kindFirst)), (q_kindLast, .inl (cI, 60, .inl v_kindLast)), (q_kindOf, .inl (cI, 60, .inl v_kindOf)), (q_owners, .inl (cI, 120, .inl v_owners)), (q_isLoose, .inl (cZ, 120, .inl v_isLoose)), (q_parts, .inl (cI, 360, .inl v_parts)), (q_out, .inl (cI, 60, .inl v_out)), (q_text, .inl (cI, 1000, .inl v_text)), (q_work, .inl (cI, 2010, .inl v_work)), (q_ranks, .inl (cI, 2010, .inl v_ranks)), (q_form, .inl (cI, 2000, .inl v_form)), (q_waits, .inl (cI, 1000, .inl u.2)), (q_met, .inl (cZ, 120, .inl v_met))]) (va_A [(q_this, .inr (6, [.int v_fault, .int v_marks, .ref q_markFirst, .ref q_markLast, .ref q_markClass, .int v_kinds, .ref q_kindFirst, .ref q_kindLast, .ref q_kindOf, .int v_rows, .ref q_owners, .ref q_isLoose, .ref q_parts, .int v_excluded, .ref q_out, .int v_size, .ref q_text, .int v_many, .ref q_work, .ref q_ranks, .int v_shown, .int v_wasAsked, .ref q_form, .int v_waiting, .ref q_waits, .ref q_met])), (q_markFirst, .inl (cI, 60, .inl v_markFirst)), (q_markLast, .inl (cI, 60, .inl v_markLast)), (q_markClass, .inl (cI, 60, .inl v_markClass)), (q_kindFirst, .inl (cI, 60, .inl v_kindFirst)), (q_kindLast, .inl (cI, 60, .inl v_kindLast)), (q_kindOf, .inl (cI, 60, .inl v_kindOf)), (q_owners, .inl (cI, 120, .inl v_owners)), (q_isLoose, .inl (cZ, 120, .inl v_isLoose)), (q_parts, .inl (cI, 360, .inl v_parts)), (q_out, .inl (cI, 60, .inl v_out)), (q_text, .inl (cI, 1000, .inl v_text)), (q_work, .inl (cI, 2010, .inl v_work)), (q_ranks, .inl (cI, 2010, .inl v_ranks)), (q_form, .inl (cI, 2000, .inl v_form)), (q_waits, .inl (cI, 1000, .inl v_waits)), (q_met, .inl (cZ, 120, .inl v_met))] sz)) 0 0 (va_A [(q_this, .inr (6, [.int v_fault, .int v_marks, .ref q_markFirst, .ref q_markLast, .ref q_markClass, .int v_kinds, .ref q_kindFirst, .ref q_kindLast, .ref q_kindOf, .int v_rows, .ref q_owners, .ref q_isLoose, .ref q_parts, .int v_excluded, .ref q_out, .int v_size, .ref q_text, .int v_many, .ref q_work, .ref q_ranks, .int v_shown, .int v_wasAsked, .ref q_form, .int v_waiting, .ref q_waits, .ref q_met])), (q_markFirst, .inl (cI, 60, .inl v_markFirst)), (q_markLast, .inl (cI, 60, .inl v_markLast)), (q_markClass, .inl (cI, 60, .inl v_markClass)), (q_kindFirst, .inl (cI, 60, .inl v_kindFirst)), (q_kindLast, .inl (cI, 60, .inl v_kindLast)), (q_kindOf, .inl (cI, 60, .inl v_kindOf)), (q_owners, .inl (cI, 120, .inl v_owners)), (q_isLoose, .inl (cZ, 120, .inl v_isLoose)), (q_parts, .inl (cI, 360, .inl v_parts)), (q_out, .inl (cI, 60, .inl v_out)), (q_text, .inl (cI, 1000, .inl v_text)), (q_work, .inl (cI, 2010, .inl v_work)), (q_ranks, .inl (cI, 2010, .inl v_ranks)), (q_form, .inl (cI, 2000, .inl v_form)), (q_waits, .inl (cI, 1000, .inl v_waits)), (q_met, .inl (cZ, 120, .inl v_met))] sz) := by
  refine Met.ofW (cc := cX7_await) (maxL := 2) (ret := none) (by decide) rfl ?_
  intro p e s m args below meth c s₁ B hml hv
  obtain ⟨rfl, hsz, hP, hKK, hD0⟩ := hv
  have hK := hKK.1
  have hx := B.exec
  have hb := B.bytes
  have hr := B.returns
  have hts : ∀ w ∈ TG, w.before (List.toArray [.ref q_this, .int a1]) s = true := hKK.ts
  have hown : s.vm.findClass RX7 = some m.cls := findClass_of_methodNamed B.named
  have hlocks := B.notSynchronized
  subst hsz
  have hD := hD0.self (sz := s.heap.size)
  generalize hAe : va_A [(q_this, .inr (6, [.int v_fault, .int v_marks, .ref q_markFirst, .ref q_markLast, .ref q_markClass, .int v_kinds, .ref q_kindFirst, .ref q_kindLast, .ref q_kindOf, .int v_rows, .ref q_owners, .ref q_isLoose, .ref q_parts, .int v_excluded, .ref q_out, .int v_size, .ref q_text, .int v_many, .ref q_work, .ref q_ranks, .int v_shown, .int v_wasAsked, .ref q_form, .int v_waiting, .ref q_waits, .ref q_met])), (q_markFirst, .inl (cI, 60, .inl v_markFirst)), (q_markLast, .inl (cI, 60, .inl v_markLast)), (q_markClass, .inl (cI, 60, .inl v_markClass)), (q_kindFirst, .inl (cI, 60, .inl v_kindFirst)), (q_kindLast, .inl (cI, 60, .inl v_kindLast)), (q_kindOf, .inl (cI, 60, .inl v_kindOf)), (q_owners, .inl (cI, 120, .inl v_owners)), (q_isLoose, .inl (cZ, 120, .inl v_isLoose)), (q_parts, .inl (cI, 360, .inl v_parts)), (q_out, .inl (cI, 60, .inl v_out)), (q_text, .inl (cI, 1000, .inl v_text)), (q_work, .inl (cI, 2010, .inl v_work)), (q_ranks, .inl (cI, 2010, .inl v_ranks)), (q_form, .inl (cI, 2000, .inl v_form)), (q_waits, .inl (cI, 1000, .inl v_waits)), (q_met, .inl (cZ, 120, .inl v_met))] s.heap.size = A at hD ⊢
  have hA : ∀ q : Nat, s.heap.size ≤ q → A q := fun q h => by rw [← hAe]; exact Or.inr h
  have hS : va_S A s.heap s.heap [] := va_S.rf
  have hl := lv_entry ([.ref q_this, .int a1]) (n := 2) (Nat.le_of_ble_eq_true rfl)
  rw [lg_entry_eq]
  generalize (lg_sl ([.ref q_this, .int a1]) ++ List.replicate (2 - (lg_sl ([.ref q_this, .int a1])).length) Slot.unset).toArray = ls at hl ⊢
  have hl : lv_has ls 2 [(0, .ref q_this), (1, .int a1)] := hl
  obtain ⟨QQ, hQQ⟩ : ∃ z, z = MQ below (va_Qv (fun (u : Int32 × (Nat → Int32)) => post u.1 u.2) (fun (u : Int32 × (Nat → Int32)) (t : State) => va_P (dC, dI) vwC [(q_this, .inr (6, [.int v_fault, .int v_marks, .ref q_markFirst, .ref q_markLast, .ref q_markClass, .int v_kinds, .ref q_kindFirst, .ref q_kindLast, .ref q_kindOf, .int v_rows, .ref q_owners, .ref q_isLoose, .ref q_parts, .int v_excluded, .ref q_out, .int v_size, .ref q_text, .int v_many, .ref q_work, .ref q_ranks, .int v_shown, .int v_wasAsked, .ref q_form, .int u.1, .ref q_waits, .ref q_met])), (q_markFirst, .inl (cI, 60, .inl v_markFirst)), (q_markLast, .inl (cI, 60, .inl v_markLast)), (q_markClass, .inl (cI, 60, .inl v_markClass)), (q_kindFirst, .inl (cI, 60, .inl v_kindFirst)), (q_kindLast, .inl (cI, 60, .inl v_kindLast)), (q_kindOf, .inl (cI, 60, .inl v_kindOf)), (q_owners, .inl (cI, 120, .inl v_owners)), (q_isLoose, .inl (cZ, 120, .inl v_isLoose)), (q_parts, .inl (cI, 360, .inl v_parts)), (q_out, .inl (cI, 60, .inl v_out)), (q_text, .inl (cI, 1000, .inl v_text)), (q_work, .inl (cI, 2010, .inl v_work)), (q_ranks, .inl (cI, 2010, .inl v_ranks)), (q_form, .inl (cI, 2000, .inl v_form)), (q_waits, .inl (cI, 1000, .inl u.2)), (q_met, .inl (cZ, 120, .inl v_met))] t.heap ∧ va_D A [(q_this, .inr (6, [.int v_fault, .int v_marks, .ref q_markFirst, .ref q_markLast, .ref q_markClass, .int v_kinds, .ref q_kindFirst, .ref q_kindLast, .ref q_kindOf, .int v_rows, .ref q_owners, .ref q_isLoose, .ref q_parts, .int v_excluded, .ref q_out, .int v_size, .ref q_text, .int v_many, .ref q_work, .ref q_ranks, .int v_shown, .int v_wasAsked, .ref q_form, .int u.1, .ref q_waits, .ref q_met])), (q_markFirst, .inl (cI, 60, .inl v_markFirst)), (q_markLast, .inl (cI, 60, .inl v_markLast)), (q_markClass, .inl (cI, 60, .inl v_markClass)), (q_kindFirst, .inl (cI, 60, .inl v_kindFirst)), (q_kindLast, .inl (cI, 60, .inl v_kindLast)), (q_kindOf, .inl (cI, 60, .inl v_kindOf)), (q_owners, .inl (cI, 120, .inl v_owners)), (q_isLoose, .inl (cZ, 120, .inl v_isLoose)), (q_parts, .inl (cI, 360, .inl v_parts)), (q_out, .inl (cI, 60, .inl v_out)), (q_text, .inl (cI, 1000, .inl v_text)), (q_work, .inl (cI, 2010, .inl v_work)), (q_ranks, .inl (cI, 2010, .inl v_ranks)), (q_form, .inl (cI, 2000, .inl v_form)), (q_waits, .inl (cI, 1000, .inl u.2)), (q_met, .inl (cZ, 120, .inl v_met))]) A) (List.toArray [.ref q_this, .int a1]) s 0 0 A := ⟨_, rfl⟩
  rw [← hQQ]
  refine lv_iload_n hx hb dX7_await_0 rfl (lv_at hl 1 rfl) ?_
  refine lv_if_lt (tgt := 24) hx hb dX7_await_1 (by decide) (fun c9 => ?_) (fun c9 => ?_)
  · replace h := h.1 c9
    rw [hQQ]
    exact W.vret hx hb hr (fun t ht hW => ⟨⟨(v_waiting, v_waits), rfl, h, by rw [ht]; exact hP, hD⟩, hS.F ht⟩) hS.2.2 dX7_await_24
  · replace h := h.2 c9
    refine lv_aload_n hx hb dX7_await_4 rfl (lv_at hl 0 rfl) ?_
    refine va_get (D := (dC, dI)) (ci := 6) (v := .ref q_waits) (C := RX7) (T := TX7) (N := 26) hx hb hts inX7 hown hK hP 0 rfl rfl 24 (by decide) (hts _ tw602) (fun _ h9 => h9) rfl dX7_await_5 ?_
    refine lv_aload_n hx hb dX7_await_8 rfl (lv_at hl 0 rfl) ?_
    refine va_get (D := (dC, dI)) (ci := 6) (v := .int v_waiting) (C := RX7) (T := TX7) (N := 26) hx hb hts inX7 hown hK hP 0 rfl rfl 23 (by decide) (hts _ tw601) (fun _ h9 => h9) rfl dX7_await_9 ?_
    refine lv_iload_n hx hb dX7_await_12 rfl (lv_at hl 1 rfl) ?_
    obtain ⟨hin, h⟩ := h
    refine va_iast hx hb hK hP hD hS 15 0 rfl rfl hin dX7_await_13 (fun H locs hP hD hS => ?_)
    have hP : va_P (dC, dI) vwC [(q_this, .inr (6, [.int v_fault, .int v_marks, .ref q_markFirst, .ref q_markLast, .ref q_markClass, .int v_kinds, .ref q_kindFirst, .ref q_kindLast, .ref q_kindOf, .int v_rows, .ref q_owners, .ref q_isLoose, .ref q_parts, .int v_excluded, .ref q_out, .int v_size, .ref q_text, .int v_many, .ref q_work, .ref q_ranks, .int v_shown, .int v_wasAsked, .ref q_form, .int v_waiting, .ref q_waits, .ref q_met])), (q_markFirst, .inl (cI, 60, .inl v_markFirst)), (q_markLast, .inl (cI, 60, .inl v_markLast)), (q_markClass, .inl (cI, 60, .inl v_markClass)), (q_kindFirst, .inl (cI, 60, .inl v_kindFirst)), (q_kindLast, .inl (cI, 60, .inl v_kindLast)), (q_kindOf, .inl (cI, 60, .inl v_kindOf)), (q_owners, .inl (cI, 120, .inl v_owners)), (q_isLoose, .inl (cZ, 120, .inl v_isLoose)), (q_parts, .inl (cI, 360, .inl v_parts)), (q_out, .inl (cI, 60, .inl v_out)), (q_text, .inl (cI, 1000, .inl v_text)), (q_work, .inl (cI, 2010, .inl v_work)), (q_ranks, .inl (cI, 2010, .inl v_ranks)), (q_form, .inl (cI, 2000, .inl v_form)), (q_waits, .inl (cI, 1000, .inl (upd v_waits v_waiting.toNatClampNeg a1))), (q_met, .inl (cZ, 120, .inl v_met))] H := hP
    have hD : va_D A [(q_this, .inr (6, [.int v_fault, .int v_marks, .ref q_markFirst, .ref q_markLast, .ref q_markClass, .int v_kinds, .ref q_kindFirst, .ref q_kindLast, .ref q_kindOf, .int v_rows, .ref q_owners, .ref q_isLoose, .ref q_parts, .int v_excluded, .ref q_out, .int v_size, .ref q_text, .int v_many, .ref q_work, .ref q_ranks, .int v_shown, .int v_wasAsked, .ref q_form, .int v_waiting, .ref q_waits, .ref q_met])), (q_markFirst, .inl (cI, 60, .inl v_markFirst)), (q_markLast, .inl (cI, 60, .inl v_markLast)), (q_markClass, .inl (cI, 60, .inl v_markClass)), (q_kindFirst, .inl (cI, 60, .inl v_kindFirst)), (q_kindLast, .inl (cI, 60, .inl v_kindLast)), (q_kindOf, .inl (cI, 60, .inl v_kindOf)), (q_owners, .inl (cI, 120, .inl v_owners)), (q_isLoose, .inl (cZ, 120, .inl v_isLoose)), (q_parts, .inl (cI, 360, .inl v_parts)), (q_out, .inl (cI, 60, .inl v_out)), (q_text, .inl (cI, 1000, .inl v_text)), (q_work, .inl (cI, 2010, .inl v_work)), (q_ranks, .inl (cI, 2010, .inl v_ranks)), (q_form, .inl (cI, 2000, .inl v_form)), (q_waits, .inl (cI, 1000, .inl (upd v_waits v_waiting.toNatClampNeg a1))), (q_met, .inl (cZ, 120, .inl v_met))] := hD
    refine lv_aload_n hx hb dX7_await_14 rfl (lv_at hl 0 rfl) ?_
    refine lv_dup hx hb dX7_await_15 rfl ?_
    refine va_get (D := (dC, dI)) (ci := 6) (v := .int v_waiting) (C := RX7) (T := TX7) (N := 26) hx hb hts inX7 hown hK hP 0 rfl rfl 23 (by decide) (hts _ tw601) (fun _ h9 => h9) rfl dX7_await_16 ?_
    refine lv_iconst (v := (1 : Int32)) hx hb dX7_await_19 (by decide) ?_
    refine lv_iadd hx hb dX7_await_20 ?_
    refine va_put (D := (dC, dI)) (ci := 6) (v := .int (v_waiting + (1 : Int32))) (ty := .int) (C := RX7) (T := TX7) (N := 26) hx hb hts inX7 tyX7 tyX7_ok nmX7 hown hK hP hD hS 0 rfl rfl 23 (by decide) (hts _ tw601) (fun _ h9 => h9) rfl (by decide +kernel) rfl rfl (Nat.le_of_ble_eq_true rfl) dX7_await_21 (fun H locs hP hD hS => ?_)
    have hP : va_P (dC, dI) vwC [(q_this, .inr (6, [.int v_fault, .int v_marks, .ref q_markFirst, .ref q_markLast, .ref q_markClass, .int v_kinds, .ref q_kindFirst, .ref q_kindLast, .ref q_kindOf, .int v_rows, .ref q_owners, .ref q_isLoose, .ref q_parts, .int v_excluded, .ref q_out, .int v_size, .ref q_text, .int v_many, .ref q_work, .ref q_ranks, .int v_shown, .int v_wasAsked, .ref q_form, .int (v_waiting + (1 : Int32)), .ref q_waits, .ref q_met])), (q_markFirst, .inl (cI, 60, .inl v_markFirst)), (q_markLast, .inl (cI, 60, .inl v_markLast)), (q_markClass, .inl (cI, 60, .inl v_markClass)), (q_kindFirst, .inl (cI, 60, .inl v_kindFirst)), (q_kindLast, .inl (cI, 60, .inl v_kindLast)), (q_kindOf, .inl (cI, 60, .inl v_kindOf)), (q_owners, .inl (cI, 120, .inl v_owners)), (q_isLoose, .inl (cZ, 120, .inl v_isLoose)), (q_parts, .inl (cI, 360, .inl v_parts)), (q_out, .inl (cI, 60, .inl v_out)), (q_text, .inl (cI, 1000, .inl v_text)), (q_work, .inl (cI, 2010, .inl v_work)), (q_ranks, .inl (cI, 2010, .inl v_ranks)), (q_form, .inl (cI, 2000, .inl v_form)), (q_waits, .inl (cI, 1000, .inl (upd v_waits v_waiting.toNatClampNeg a1))), (q_met, .inl (cZ, 120, .inl v_met))] H := hP
    have hD : va_D A [(q_this, .inr (6, [.int v_fault, .int v_marks, .ref q_markFirst, .ref q_markLast, .ref q_markClass, .int v_kinds, .ref q_kindFirst, .ref q_kindLast, .ref q_kindOf, .int v_rows, .ref q_owners, .ref q_isLoose, .ref q_parts, .int v_excluded, .ref q_out, .int v_size, .ref q_text, .int v_many, .ref q_work, .ref q_ranks, .int v_shown, .int v_wasAsked, .ref q_form, .int (v_waiting + (1 : Int32)), .ref q_waits, .ref q_met])), (q_markFirst, .inl (cI, 60, .inl v_markFirst)), (q_markLast, .inl (cI, 60, .inl v_markLast)), (q_markClass, .inl (cI, 60, .inl v_markClass)), (q_kindFirst, .inl (cI, 60, .inl v_kindFirst)), (q_kindLast, .inl (cI, 60, .inl v_kindLast)), (q_kindOf, .inl (cI, 60, .inl v_kindOf)), (q_owners, .inl (cI, 120, .inl v_owners)), (q_isLoose, .inl (cZ, 120, .inl v_isLoose)), (q_parts, .inl (cI, 360, .inl v_parts)), (q_out, .inl (cI, 60, .inl v_out)), (q_text, .inl (cI, 1000, .inl v_text)), (q_work, .inl (cI, 2010, .inl v_work)), (q_ranks, .inl (cI, 2010, .inl v_ranks)), (q_form, .inl (cI, 2000, .inl v_form)), (q_waits, .inl (cI, 1000, .inl (upd v_waits v_waiting.toNatClampNeg a1))), (q_met, .inl (cZ, 120, .inl v_met))] := hD
    rw [hQQ]
    exact W.vret hx hb hr (fun t ht hW => ⟨⟨((v_waiting + (1 : Int32)), (upd v_waits v_waiting.toNatClampNeg a1)), rfl, h, by rw [ht]; exact hP, hD⟩, hS.F ht⟩) hS.2.2 dX7_await_24
