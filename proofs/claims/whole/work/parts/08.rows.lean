/-! Own rows: the tables' words as one list that every contract is told of (KK), and calls that leave the heap as it is. -/
def tg_ok (w : Cond) : Bool := (w.onTables && w.keeps) || (match w with | .methodLinkNest .. => true | .fieldLinkNest .. => true | .declares _ => true | .castable .. => true | _ => false)
def TG : List Cond := lw_tbl.filter tg_ok
theorem tg_on {w : Cond} (h : tg_ok w = true) : w.onTables = true := by
  cases w <;> first | rfl | (simp [tg_ok, Cond.onTables] at h)
theorem tg_warm {w : Cond} (hg : tg_ok w = true) {s U : State} (hW : s.WarmedH U.vm) (h : va_Nw w s) : va_Nw w U := by
  by_cases h1 : (w.onTables && w.keeps) = true
  · exact word_at hW (Or.inl h1) h
  · cases w <;> first | exact va_Nw.warmM hW h | exact va_Nw.warmF hW h | exact va_Nw.warmD hW h | exact va_Nw.warmC hW h | exact absurd (by simpa [tg_ok] using hg) h1
/-- the texts of the exceptions, by their places in the pool -/
def STR : List (Nat × String) := [(71, "no range of characters, or no mark class"), (82, "60 ranges have a mark class"), (89, "no range of characters, or no kind"), (91, "60 ranges have a kind"), (103, "no character that can be told a row, or no part of one"), (109, "another character has this part row"), (115, "the row would give the character itself"), (118, "120 rows are told"), (123, "a third character without a second"), (125, "no character"), (135, "60 characters are excluded"), (148, "more than 1000 characters"), (157, "no such form"), (162, "more than 2000 characters"), (185, "no such place")]
abbrev vwC : List vw_C := [(RX0, TX0, 4), (RX1, TX1, 2), (RX2, TX2, 4), (RX3, TX3, 4), (RX4, TX4, 10), (RX6, TX6, 11), (RX7, TX7, 26)]
def KK (dC : Nat → ClassId) (dI : Nat → Nat → Nat) (cI cZ cJ : ClassId) (U : State) : Prop := va_K (dC, dI) vwC [(cI, .int), (cZ, .boolean), (cJ, .long)] U ∧ (∀ w ∈ TG, va_Nw w U) ∧ ∀ q ∈ STR, ∃ a, vk_R "NormalForms" q.1 q.2 a U
theorem KK.warm {dC : Nat → ClassId} {dI : Nat → Nat → Nat} {cI cZ cJ : ClassId} {s U : State} (h : KK dC dI cI cZ cJ s) (hW : s.WarmedH U.vm) : KK dC dI cI cZ cJ U :=
  ⟨va_K.moved hW.alike h.1, fun w hw => tg_warm (List.mem_filter.mp hw).2 hW (h.2.1 w hw), fun q hq => (h.2.2 q hq).elim fun a ha => ⟨a, vk_R.warm hW ha⟩⟩
theorem KK.same {dC : Nat → ClassId} {dI : Nat → Nat → Nat} {cI cZ cJ : ClassId} {u U : State} (h : KK dC dI cI cZ cJ u) (e : u.vm = U.vm) : KK dC dI cI cZ cJ U :=
  ⟨va_K.moved (by rw [e]; exact Vm.Alike.refl _) h.1, fun w hw => va_Nw.same (tg_on (List.mem_filter.mp hw).2) e (h.2.1 w hw), fun q hq => (h.2.2 q hq).elim fun a ha => ⟨a, vk_R.same e.symm ha⟩⟩
theorem KK.ts {dC : Nat → ClassId} {dI : Nat → Nat → Nat} {cI cZ cJ : ClassId} {s : State} {args : Array Value} (h : KK dC dI cI cZ cJ s) : ∀ w ∈ TG, w.before args s = true :=
  fun w hw => va_Nw.use (tg_on (List.mem_filter.mp hw).2) (h.2.1 w hw)
theorem TG_1 {w : Cond} (i : Nat) (h : tables_1_1[i]? = some w) (g : tg_ok w = true) : w ∈ TG := List.mem_filter.mpr ⟨List.mem_append_right _ (show w ∈ tables_1 from List.mem_append_left _ (List.mem_of_getElem? h)), g⟩
theorem TG_2 {w : Cond} (i : Nat) (h : tables_1_2[i]? = some w) (g : tg_ok w = true) : w ∈ TG := List.mem_filter.mpr ⟨List.mem_append_right _ (show w ∈ tables_1 from List.mem_append_right _ (List.mem_append_left _ (List.mem_of_getElem? h))), g⟩
theorem TG_3 {w : Cond} (i : Nat) (h : tables_1_3[i]? = some w) (g : tg_ok w = true) : w ∈ TG := List.mem_filter.mpr ⟨List.mem_append_right _ (show w ∈ tables_1 from List.mem_append_right _ (List.mem_append_right _ (List.mem_append_left _ (List.mem_of_getElem? h)))), g⟩
theorem TG_4 {w : Cond} (i : Nat) (h : tables_1_4[i]? = some w) (g : tg_ok w = true) : w ∈ TG := List.mem_filter.mpr ⟨List.mem_append_right _ (show w ∈ tables_1 from List.mem_append_right _ (List.mem_append_right _ (List.mem_append_right _ (List.mem_of_getElem? h)))), g⟩
theorem TG_p {w : Cond} (i : Nat) (h : (k2_sels lw_privs)[i]? = some w) (g : tg_ok w = true) : w ∈ TG := List.mem_filter.mpr ⟨List.mem_append_left _ (List.mem_of_getElem? h), g⟩
theorem na_gV {own C : String} {idx : Nat} {y : MethodName} {cd : Cond} (h1 : Cond.methodLink own idx y ∈ TG) (h2 : Cond.instanceMethod y ∈ TG) (h3 : Cond.selects C y y ∈ TG) (h4 : Cond.initialized C ∈ TG) (h5 : cd ∈ TG) (g5 : goodWord cd = true) : GoodIn TG (wsV own idx C y [cd]) := by
  intro w hw
  simp only [wsV, List.mem_append, List.mem_cons, List.not_mem_nil, or_false] at hw
  rcases hw with (rfl | rfl | rfl | rfl) | rfl
  · exact ⟨h1, good_of_word rfl⟩
  · exact ⟨h2, good_of_word rfl⟩
  · exact ⟨h3, good_of_word rfl⟩
  · exact ⟨h4, good_of_word rfl⟩
  · exact ⟨h5, good_of_word g5⟩
theorem na_gS {own : String} {idx : Nat} {y : MethodName} {cd : Cond} (h1 : Cond.methodLink own idx y ∈ TG) (h2 : Cond.static y ∈ TG) (h4 : Cond.initialized own ∈ TG) (h5 : cd ∈ TG) (g5 : goodWord cd = true) : GoodIn TG (wsS own idx y [cd]) := by
  intro w hw
  simp only [wsS, List.mem_append, List.mem_cons, List.not_mem_nil, or_false] at hw
  rcases hw with (rfl | rfl | rfl) | rfl
  · exact ⟨h1, good_of_word rfl⟩
  · exact ⟨h2, good_of_word rfl⟩
  · exact ⟨h4, good_of_word rfl⟩
  · exact ⟨h5, good_of_word g5⟩
theorem na_gC {cd : Cond} (h5 : cd ∈ TG) (g5 : goodWord cd = true) : GoodIn TG [cd] := by
  intro w hw
  rw [List.mem_singleton] at hw
  subst hw
  exact ⟨h5, good_of_word g5⟩
def nb (x : Int32) : Prop := narrow .boolean (.int x) = .int x ∧ fits .boolean (.int x) = true
theorem nb0 : nb 0 := ⟨by decide, by decide⟩
theorem nb1 : nb 1 := ⟨by decide, by decide⟩
section NA
variable {p : Program} {l : Launch} {e : Env} {R : Room} {s : State} {m : MethodId} {args : Array Value} {below : List Frame} {meth : Method} {c : Code} {H : Heap} {locs : List Loc} {cells slots : Nat} {Q : State → Prop}
theorem na_calls {post : Int32 → Prop} {a : Array Value} {st0 rest : List Value} {pc : Nat} {ls : Array Slot} (hr : va_Run p l e R s m args below meth c H locs cells slots 0 0 (F0 m pc ls st0) rest (vp_Si post a) (fun _ => False))
    (kk : ∀ r : Int32, post r → W p l e R s m args below meth c H locs cells slots Q (F0 m (pc + 3) ls (.int r :: rest))) : W p l e R s m args below meth c H locs cells slots Q (F0 m pc ls st0) := by
  intro T hT X
  obtain ⟨v, st₀, t, T', L, h0, X', hL, e1, e2, ⟨r, hv, hp, hh⟩, st⟩ := hr T hT X
  cases hv
  obtain ⟨t2, a1, b1⟩ := kk r hp T' (by rw [e1, hh, h0]) (Stand.forget X' (fun q h => (hL q h).elim))
  exact ⟨t2, st t2 a1, b1⟩
end NA
theorem na_keep {D : va_G} {cl : List vw_C} {ws : va_W} {H H1 : Heap} (h : va_P D cl ws H) (_ : H.size ≤ H1.size) (hk : ∀ q : Nat, q < H.size → H1[q]? = H[q]?) : va_P D cl ws H1 := fun k q hq => (h k q hq).kept (hk q.1 (h k q hq).lt)
theorem na_F {A : Nat → Prop} {s t : State} {H : Heap} {locs : List Loc} (hS : va_S A s.heap H locs) (hz : H.size ≤ t.heap.size) (hk : ∀ q : Nat, q < H.size → t.heap[q]? = H[q]?) : va_F A s t := ⟨Nat.le_trans hS.1 hz, fun q h1 h2 => (hk q (Nat.lt_of_lt_of_le h1 hS.1)).trans (hS.2.1 q h1 h2)⟩
/-- the exceptions, by number -/
def xnm (k : Int32) : String := if k = 1 then "java/lang/IllegalArgumentException" else if k = 2 then "java/lang/IllegalStateException" else "java/lang/IndexOutOfBoundsException"
