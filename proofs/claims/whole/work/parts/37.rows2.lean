/-! Own rows: new arrays of known classes; constructors; the pair of exceptions that the wrappers tell apart. -/
def AC (U : State) : Prop := (Cond.arrayClass .int).before #[] U = true ∧ (Cond.arrayClass .boolean).before #[] U = true
theorem AC.warm {s U : State} (h : AC s) (hW : s.WarmedH U.vm) : AC U := ⟨word_at hW (Or.inr ⟨_, rfl⟩) h.1, word_at hW (Or.inr ⟨_, rfl⟩) h.2⟩
theorem AC.any {s : State} {ty : FieldType} {A A' : Array Value} (h : (Cond.arrayClass ty).before A s = true) : (Cond.arrayClass ty).before A' s = true := word_at (State.WarmedH.refl s) (Or.inr ⟨_, rfl⟩) h
theorem AC.same {u U : State} (h : AC u) (e : u.vm = U.vm) : AC U := h.warm (by rw [← e]; exact State.WarmedH.refl u)
def YY (U : State) : Prop := va_Nc "java/lang/IllegalStateException" "java/lang/IllegalArgumentException" U
section NB
variable {p : Program} {l : Launch} {e : Env} {R : Room} {s : State} {m : MethodId} {args : Array Value} {below : List Frame} {meth : Method} {c : Code} {H : Heap} {locs : List Loc} {cells slots : Nat} {Q : State → Prop}
variable {cc : ByteArray} {pc : Nat} {ls : Array Slot} {rest : List Value} {D : va_G} {cl : List vw_C} {A : Nat → Prop} {tys : List (ClassId × FieldType)} {ws : va_W} {H0 : Heap}
theorem na_newa (hexec : p.tables.exec = Jvm.exec) (hb : c.code = cc) {atype : ArrayType} (harr : (Cond.arrayClass (newarray.typeOf atype)).before args s = true) {ty : FieldType} (hty : newarray.typeOf atype = ty) {c0 : ClassId} (hfc : s.vm.findClass ("[" ++ ty.toString) = some c0) (hP : va_P D cl ws H) (hD : va_D A ws) (hS : va_S A H0 H locs) (hA : ∀ q, H0.size ≤ q → A q)
    {n : Int32} {N' : Nat} {a0 : vp_A} (ha : ∀ cA : ClassId, vp_cell cA a0 = arrV cA N' (fun _ => defaultValue ty)) (hn : ¬ n < 0) (hN : n.toNatClampNeg = N') (hbytes : N' * componentBytes ty ≤ 536870912) (hcells : cells + 1 ≤ R.cells) (hslots : slots + N' ≤ R.slots) (hdg : decode cc pc = .ok (.newarray atype, 2))
    (kk : ∀ (q : Nat) (H1 : Heap), va_P D cl (ws ++ [(q, .inl (c0, a0))]) H1 → va_D A (ws ++ [(q, .inl (c0, a0))]) → va_S A H0 H1 locs →
      W p l e R s m args below meth c H1 locs (cells + 1) (slots + N') Q (F0 m (pc + 2) ls (.ref q :: rest))) : W p l e R s m args below meth c H locs cells slots Q (F0 m pc ls (.int n :: rest)) := by
  subst hty
  refine va_newaK hexec hb harr rfl hdg rfl hn hN hbytes hcells hslots rfl fun H1 cA e1 z1 o1 hAr hNm => ?_
  cases Option.some.inj (hfc.symm.trans hNm)
  have hk : ∀ (k : Nat) (x : Nat × va_E), ws[k]? = some x → H1[x.1]? = H[x.1]? := fun k x hx => o1 x.1 ((hP k x hx).lt)
  refine kk H.size H1 ((hP.kept hk).app (fun k x hx => ?_)) (hD.push hP rfl (hA _ hS.1)) ⟨Nat.le_trans hS.1 (by omega), fun x h1 h2 => (o1 x (Nat.lt_of_lt_of_le h1 hS.1)).trans (hS.2.1 x h1 h2), hS.2.2⟩
  have hz : k < 1 := (List.getElem?_eq_some_iff.mp hx).1
  rw [show k = 0 by omega] at hx
  cases hx
  show H1[H.size]? = some (vp_cell _ _)
  rw [ha]
  exact e1
end NB
theorem na_fcI {D : va_G} {cl : List vw_C} {cI cZ cJ : ClassId} {U : State} (h : va_K D cl [(cI, .int), (cZ, .boolean), (cJ, .long)] U) : U.vm.findClass ("[" ++ FieldType.int.toString) = some cI := (h.2 0 (cI, .int) rfl).2
theorem na_fcZ {D : va_G} {cl : List vw_C} {cI cZ cJ : ClassId} {U : State} (h : va_K D cl [(cI, .int), (cZ, .boolean), (cJ, .long)] U) : U.vm.findClass ("[" ++ FieldType.boolean.toString) = some cZ := (h.2 1 (cZ, .boolean) rfl).2
theorem na_fcJ {D : va_G} {cl : List vw_C} {cI cZ cJ : ClassId} {U : State} (h : va_K D cl [(cI, .int), (cZ, .boolean), (cJ, .long)] U) : U.vm.findClass ("[" ++ FieldType.long.toString) = some cJ := (h.2 2 (cJ, .long) rfl).2
