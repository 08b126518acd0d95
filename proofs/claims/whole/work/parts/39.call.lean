/-! Calls and returns. -/
theorem am_AOI.moved {u U : State} (hvm : u.vm.Alike U.vm) (h : am_AOI u) : am_AOI U := by
  obtain ⟨comp, c, k, h1, h2, h3, h4, h5⟩ := arrayOverA_spec h
  obtain ⟨k', hk', he⟩ := hvm.2.2 _ _ h3
  have hb : U.vm.bare = u.vm.bare := by first | exact hvm.bare_eq | exact hvm.bare_eq.symm
  have e1 := va_idx_bare U.vm comp
  have e2 := va_idx_bare u.vm comp
  rw [hb] at e1
  have hi := (e1.symm.trans e2).trans h2
  have hkind : k'.kind = .array comp (.array .int) := by rw [he]; exact h4
  have f1 : U.vm.findClass (FieldType.array .int).toString = some comp := by rw [hvm.findClass]; exact h1
  have f2 : U.vm.findClass ("[" ++ (FieldType.array .int).toString) = some c := by rw [hvm.findClass]; exact h5
  unfold am_AOI Cond.before Cond.holds
  simp only [Cond.value]
  rw [f1, Option.bind_some]
  refine (congrArg (fun o : Option Nat => (o.bind (fun c => (U.vm.classes[c]?).map fun (k : Class) => match k.kind with | .array _ ty => decide (ty = FieldType.array .int) && decide (U.vm.findClass ("[" ++ (FieldType.array .int).toString) = some c) | _ => false) == some true)) hi).trans ?_
  simp [hk', hkind, f2]
theorem am_G.to {E : am_E} {S : Nat × (Nat → Int32)} {s U : State} (hG : am_G E S s) (hW : s.WarmedH U.vm) (hq : ∀ q : Nat, q < s.heap.size → ¬ am_sz E ≤ q → U.heap[q]? = s.heap[q]?) (hz : am_sz E ≤ U.heap.size) : am_G E S U := by
  obtain ⟨g1, g2, g3, g4, g5, g6, g7, g8, g9, g10, g11⟩ := hG
  have al := hW.alike
  refine ⟨va_K.moved al g1, fun w hw => ?_, fun i q hi => vk_R.warm hW (g3 i q hi), (g4.kept (hq _ (Nat.lt_of_lt_of_le g5 g8) (Nat.not_le.mpr g5))).moved al, g5, (g6.kept hq).moved al, (g7.kept hq).moved al, hz, va_AO.moved al g9, am_AOI.moved al g10, (g11.kept hq).moved al⟩
  obtain ⟨q, hq1, rfl⟩ := List.mem_map.mp hw
  exact va_Nw.warmM hW (g2 _ hw)
theorem am_G.same {E : am_E} {S : Nat × (Nat → Int32)} {u U : State} (hG : am_G E S u) (hv : u.vm = U.vm) (hh : U.heap = u.heap) : am_G E S U := by
  obtain ⟨g1, g2, g3, g4, g5, g6, g7, g8, g9, g10, g11⟩ := hG
  have al : u.vm.Alike U.vm := by rw [hv]; exact Vm.Alike.refl _
  refine ⟨va_K.moved al g1, fun w hw => ?_, fun i q hi => vk_R.same hv.symm (g3 i q hi), by rw [hh]; exact g4.moved al, g5, by rw [hh]; exact g6.moved al, by rw [hh]; exact g7.moved al, by rw [hh]; exact g8, va_AO.moved al g9, am_AOI.moved al g10, by rw [hh]; exact g11.moved al⟩
  obtain ⟨q, hq1, rfl⟩ := List.mem_map.mp hw
  exact va_Nw.same rfl hv (g2 _ hw)
/-- the contract that a run gives -/
abbrev am_Pc (E : am_E) (S : Nat × (Nat → Int32)) (as : List Value) (h : am_H) : Array Value → State → Prop := va_Pc (as.map (am_v E)) (fun U => am_P E h U.heap ∧ am_G E S U)
def am_Qc (E : am_E) (r : Option Value) (h' : am_H) : Array Value → State → Outcome → State → Prop := fun _ st oc t => oc = .returned (r.map (am_v E)) ∧ am_P E h' t.heap ∧ va_F (fun q => am_sz E ≤ q) st t
abbrev am_rm (d mc ms : Nat) : Room := { frames := d + 1, cells := mc, slots := ms, locals := 60 * (d + 1) }
abbrev am_wsM (M : am_Mth) : List Cond := Cond.code (am_name M) (am_bytes M) (am_maxL M) (am_rty M) :: am_good
abbrev am_Met (l : Launch) (E : am_E) (S : Nat × (Nat → Int32)) (d : Nat) (M : am_Mth) (as : List Value) (h : am_H) (r : Option Value) (h' : am_H) : Prop := Met l (am_name M) (am_wsM M) (am_rm d (am_mc M) (am_ms M)) (am_Pc E S as h) (am_Qc E r h') (am_mc M) (am_ms M) (fun q => am_sz E ≤ q)
def am_okK (M : am_Mth) : Prop := ∀ pc i n, am_at (am_code M) pc = some (i, n) → decode (am_bytes M) pc = .ok (i, n) ∧ am_len i n = true
theorem am_chk_ok {M : am_Mth} (h : am_chk (am_bytes M) (am_code M) = true) : am_okK M := fun pc i n ha => by
  have h1 := List.all_eq_true.mp h _ (am_at_mem ha)
  rw [Bool.and_eq_true] at h1
  exact ⟨of_decide_eq_true h1.1, h1.2⟩
def am_okM (M : am_Mth) : Prop := am_cn (am_oc M) = (am_name M).cls ∧ plainFor (am_name M) = true ∧ ((am_name M).cls ≠ "java/lang/invoke/MethodHandle" ∧ (am_name M).cls ≠ "java/lang/invoke/VarHandle") ∧ Cond.code (am_name M) (am_bytes M) (am_maxL M) (am_rty M) ∈ am_good ∧ Cond.initialized (am_name M).cls ∈ am_good ∧ am_maxL M ≤ 30 ∧ am_okK M
theorem am_cl_cn (ci : Nat) (q : vw_C) (hq : am_cl[ci]? = some q) : q.1 = am_cn ci := by
  match ci, hq with
  | 0, hq => cases hq; rfl
  | 1, hq => cases hq; rfl
  | 2, hq => cases hq; rfl
  | 3, hq => cases hq; rfl
  | 4, hq => cases hq; rfl
  | 5, hq => cases hq; rfl
  | 6, hq => cases hq; rfl
  | 7, hq => cases hq; rfl
  | 8, hq => cases hq; rfl
  | 9, hq => cases hq; rfl
  | 10, hq => cases hq; rfl
  | k + 11, hq => simp [am_cl] at hq
theorem am_pop_some : ∀ {n : Nat} {acc st as rest : List Value}, am_pop n acc st = some (as, rest) → acc.reverse ++ st = as.reverse ++ rest ∧ as.length = n + acc.length
  | 0, acc, st, as, rest, h => by
    cases h
    exact ⟨rfl, by omega⟩
  | n + 1, acc, [], as, rest, h => by cases h
  | n + 1, acc, v :: r, as, rest, h => by
    have h1 := am_pop_some (n := n) (acc := v :: acc) (st := r) (as := as) (rest := rest) h
    refine ⟨?_, by rw [h1.2, List.length_cons]; omega⟩
    rw [← h1.1, List.reverse_cons, List.append_assoc]
    rfl
/-! a call as the kit has it, with up to 16 words left on the stack -/
abbrev am_Wd (R : Room) (s : State) (y : MethodName) (bytes : ByteArray) (maxL : Nat) (ret : Option FieldType) (ws : List Cond) (rm : Room) (mc ms n : Nat) (args : Array Value) : Prop := rm.cells = mc ∧ rm.slots = ms ∧ rm.frames + 1 ≤ R.frames ∧ 16 + (maxL + 11) + rm.locals ≤ R.locals ∧ (∀ w ∈ ws, ∀ (a' : Array Value) (U : State), s.WarmedH U.vm → w.before a' U = true) ∧ Cond.code y bytes maxL ret ∈ ws ∧ (Cond.code y bytes maxL ret).before args s = true ∧ (Cond.initialized y.cls).before args s = true ∧ (y.cls ≠ "java/lang/invoke/MethodHandle" ∧ y.cls ≠ "java/lang/invoke/VarHandle") ∧ (∀ sig, parseMethodDescriptor y.desc = some sig → n = sig.parameters.length)
section RUN
variable {p : Program} {l : Launch} {e : Env} {R : Room} {s : State} {m : MethodId} {args : Array Value} {below : List Frame} {meth : Method} {c : Code} {H : Heap} {locs : List Loc} {cells slots : Nat}
variable {y : MethodName} {bytes cc : ByteArray} {maxL nL mc ms n index : Nat} {ret : Option FieldType} {ws : List Cond} {rm : Room} {Pc : Array Value → State → Prop} {Qc : Array Value → State → Outcome → State → Prop} {free : Addr → Prop} {Ts : List Cond} {own C host : String} {b : Addr} {As rest : List Value} {g : JFrame}
theorem am_back (hM : Met l y ws rm Pc Qc mc ms free) (hbl : FrameBlind Pc) (cw : am_Wd R s y bytes maxL ret ws rm mc ms n args) : Back l R p e below s args y 3 16 (PreOf R mc ms Pc) (PostOf Qc mc ms free) := by
  obtain ⟨hrc, hrs, hfr, hlo, hws, hcw, -, hini, -⟩ := cw
  exact back_of (bytes := bytes) (maxL := maxL) (ret := ret) hM hbl hrc hrs hfr hlo hws hcw (fun a' U hW => word_at hW (Or.inl (by first | rfl | simp [Cond.onTables, Cond.keeps, Cond.steady])) hini)
theorem am_runV (S : CallFix p m c cc nL s args Ts own) (hM : Met l y ws rm Pc Qc mc ms free) (cw : am_Wd R s y bytes maxL ret ws rm mc ms n args) (hl : (Cond.methodLink own index y).before args s = true ∨ ∃ host, va_Nw (.methodLinkNest own index y host) s) (hin : (Cond.instanceMethod y).before args s = true) (hse : (Cond.selects C y y).before args s = true) (hp : PreV s H C b Pc As)
    (hg : g.method = m) (hn : As.length = n) (hsize : g.locals.size = nL) (hstack : g.stack = As.reverse ++ .ref b :: rest) (hW : 2 * g.monitorRoom + (rest.map fun v => v.category).sum ≤ 16) (hdg : decode cc g.pc = .ok (.invokevirtual index, 3)) (hf : cells + mc ≤ R.cells ∧ slots + ms ≤ R.slots) :
    va_Run p l e R s m args below meth c H locs cells slots mc ms g rest (Qc (Value.ref b :: As).toArray) (free) := by
  have hK : Back l R p e below s args y 3 16 (PreOf R mc ms Pc) (PostOf Qc mc ms free) := am_back hM hp.1 cw
  obtain ⟨-, -, -, -, -, -, hcode, -, hy, hlen⟩ := cw
  obtain ⟨hx, hb, hml, ho, -⟩ := S
  obtain ⟨-, ⟨cellB, hcB, hoB, hclB⟩, hPc⟩ := hp
  intro T hT X
  rcases hl with hl | ⟨host, hl⟩
  · obtain ⟨v, vm₁, ⟨U', l2, c2, s2⟩, hW₁, X', ⟨g', mk, t, L, e1, e2, hq, h1, hL, h2, h3⟩, st⟩ := callV X hx (C := C) (bytes := bytes) (maxL := maxL) (ret := ret) ho hl hin hse hcode hy hK (by rw [hT]; exact hcB) hoB hclB hg (hsize.trans hml.symm) (argsL := As) (rest := rest) (fun sig h => hn.trans (hlen sig h)) hstack hW (by rw [hb]; exact hdg)
      (fun vm₁ hW₁ => ⟨hf.1, hf.2, hPc (T.setVm vm₁) hT hW₁⟩)
    dsimp only [Pt.U, Pt.locs, Pt.cells, Pt.slots] at X' e1 e2 h1 h2 h3 st
    subst h1; subst h2; subst h3
    exact ⟨v, (T.setVm vm₁).calling g' mk (Value.ref b :: As).toArray, t, U', L, hT, X', hL, e1, e2, hq, st⟩
  · obtain ⟨v, vm₁, ⟨U', l2, c2, s2⟩, hW₁, X', ⟨g', mk, t, L, e1, e2, hq, h1, hL, h2, h3⟩, st⟩ := va_callVN X hx (C := C) (bytes := bytes) (maxL := maxL) (ret := ret) ho (va_Nw.use rfl hl) hin hse hcode hy hK (by rw [hT]; exact hcB) hoB hclB hg (hsize.trans hml.symm) (argsL := As) (rest := rest) (fun sig h => hn.trans (hlen sig h)) hstack hW (by rw [hb]; exact hdg)
      (fun vm₁ hW₁ => ⟨hf.1, hf.2, hPc (T.setVm vm₁) hT hW₁⟩)
    dsimp only [Pt.U, Pt.locs, Pt.cells, Pt.slots] at X' e1 e2 h1 h2 h3 st
    subst h1; subst h2; subst h3
    exact ⟨v, (T.setVm vm₁).calling g' mk (Value.ref b :: As).toArray, t, U', L, hT, X', hL, e1, e2, hq, st⟩
theorem am_runS (S : CallFix p m c cc nL s args Ts own) (hM : Met l y ws rm Pc Qc mc ms free) (cw : am_Wd R s y bytes maxL ret ws rm mc ms n args) (hl : (Cond.methodLink own index y).before args s = true ∨ ∃ host, va_Nw (.methodLinkNest own index y host) s) (hstt : (Cond.static y).before args s = true) (hp : PreS s H Pc As)
    (hg : g.method = m) (hn : As.length = n) (hsize : g.locals.size = nL) (hstack : g.stack = As.reverse ++ rest) (hW : 2 * g.monitorRoom + (rest.map fun v => v.category).sum ≤ 16) (hdg : decode cc g.pc = .ok (.invokestatic index, 3)) (hf : cells + mc ≤ R.cells ∧ slots + ms ≤ R.slots) :
    va_Run p l e R s m args below meth c H locs cells slots mc ms g rest (Qc As.toArray) (free) := by
  have hK : Back l R p e below s args y 3 16 (PreOf R mc ms Pc) (PostOf Qc mc ms free) := am_back hM hp.1 cw
  obtain ⟨-, -, -, -, -, -, hcode, hini, hy, hlen⟩ := cw
  obtain ⟨hx, hb, hml, ho, -⟩ := S
  intro T hT X
  rcases hl with hl | ⟨host, hl⟩
  · obtain ⟨v, vm₁, ⟨U', l2, c2, s2⟩, hW₁, X', ⟨g', mk, t, L, e1, e2, hq, h1, hL, h2, h3⟩, st⟩ := callS X hx (bytes := bytes) (maxL := maxL) (ret := ret) ho hl hstt hini hcode hy hK hg (hsize.trans hml.symm) (argsL := As) (rest := rest) (fun sig h => hn.trans (hlen sig h)) hstack hW (by rw [hb]; exact hdg)
      (fun vm₁ hW₁ => ⟨hf.1, hf.2, hp.2 (T.setVm vm₁) hT hW₁⟩)
    dsimp only [Pt.U, Pt.locs, Pt.cells, Pt.slots] at X' e1 e2 h1 h2 h3 st
    subst h1; subst h2; subst h3
    exact ⟨v, (T.setVm vm₁).calling g' mk As.toArray, t, U', L, hT, X', hL, e1, e2, hq, st⟩
  · obtain ⟨v, vm₁, ⟨U', l2, c2, s2⟩, hW₁, X', ⟨g', mk, t, L, e1, e2, hq, h1, hL, h2, h3⟩, st⟩ := va_callSN X hx (bytes := bytes) (maxL := maxL) (ret := ret) ho (va_Nw.use rfl hl) hstt hini hcode hy hK hg (hsize.trans hml.symm) (argsL := As) (rest := rest) (fun sig h => hn.trans (hlen sig h)) hstack hW (by rw [hb]; exact hdg)
      (fun vm₁ hW₁ => ⟨hf.1, hf.2, hp.2 (T.setVm vm₁) hT hW₁⟩)
    dsimp only [Pt.U, Pt.locs, Pt.cells, Pt.slots] at X' e1 e2 h1 h2 h3 st
    subst h1; subst h2; subst h3
    exact ⟨v, (T.setVm vm₁).calling g' mk As.toArray, t, U', L, hT, X', hL, e1, e2, hq, st⟩
theorem am_runI (S : CallFix p m c cc nL s args Ts own) (hM : Met l y ws rm Pc Qc mc ms free) (cw : am_Wd R s y bytes maxL none ws rm mc ms n args) (hl : (Cond.methodLink own index y).before args s = true ∨ ∃ host, va_Nw (.methodLinkNest own index y host) s) (hy1 : y.name = "<init>") (hin : (Cond.instanceMethod y).before args s = true) (hp : PreS s H Pc (.ref b :: As))
    (hg : g.method = m) (hn : As.length = n) (hsize : g.locals.size = nL) (hstack : g.stack = As.reverse ++ .ref b :: rest) (hW : 2 * g.monitorRoom + (rest.map fun v => v.category).sum ≤ 16) (hdg : decode cc g.pc = .ok (.invokespecial index, 3)) (hf : cells + mc ≤ R.cells ∧ slots + ms ≤ R.slots) :
    va_Run p l e R s m args below meth c H locs cells slots mc ms g rest (Qc (Value.ref b :: As).toArray) (free) := by
  have hK : Back l R p e below s args y 3 16 (PreOf R mc ms Pc) (PostOf Qc mc ms free) := am_back hM hp.1 cw
  obtain ⟨-, -, -, -, -, -, hcode, hini, hy, hlen⟩ := cw
  obtain ⟨hx, hb, hml, ho, -⟩ := S
  intro T hT X
  rcases hl with hl | ⟨host, hl⟩
  · obtain ⟨v, vm₁, ⟨U', l2, c2, s2⟩, hW₁, X', ⟨g', mk, t, L, e1, e2, hq, h1, hL, h2, h3⟩, st⟩ := callI X hx (bytes := bytes) (maxL := maxL) ho hy1 hl hin hcode hy hK hg (hsize.trans hml.symm) (a := b) (argsL := As) (rest := rest) (fun sig h => hn.trans (hlen sig h)) hstack hW (by rw [hb]; exact hdg)
      (fun vm₁ hW₁ => ⟨hf.1, hf.2, hp.2 (T.setVm vm₁) hT hW₁⟩)
    dsimp only [Pt.U, Pt.locs, Pt.cells, Pt.slots] at X' e1 e2 h1 h2 h3 st
    subst h1; subst h2; subst h3
    exact ⟨v, (T.setVm vm₁).calling g' mk (Value.ref b :: As).toArray, t, U', L, hT, X', hL, e1, e2, hq, st⟩
  · obtain ⟨v, vm₁, ⟨U', l2, c2, s2⟩, hW₁, X', ⟨g', mk, t, L, e1, e2, hq, h1, hL, h2, h3⟩, st⟩ := va_callIN X hx (bytes := bytes) (maxL := maxL) ho hy1 (va_Nw.use rfl hl) hin hcode hy hK hg (hsize.trans hml.symm) (a := b) (argsL := As) (rest := rest) (fun sig h => hn.trans (hlen sig h)) hstack hW (by rw [hb]; exact hdg)
      (fun vm₁ hW₁ => ⟨hf.1, hf.2, hp.2 (T.setVm vm₁) hT hW₁⟩)
    dsimp only [Pt.U, Pt.locs, Pt.cells, Pt.slots] at X' e1 e2 h1 h2 h3 st
    subst h1; subst h2; subst h3
    exact ⟨v, (T.setVm vm₁).calling g' mk (Value.ref b :: As).toArray, t, U', L, hT, X', hL, e1, e2, hq, st⟩
end RUN
section CALL
variable {p : Program} {l : Launch} {e : Env} {R : Room} {s : State} {m : MethodId} {args : Array Value} {below : List Frame} {meth : Method} {c : Code} {H : Heap} {locs : List Loc} {cells slots : Nat} {Q : State → Prop}
variable {cc : ByteArray} {pc pc' len nL oc : Nat} {ls : Array Slot} {E : am_E} {S : Nat × (Nat → Int32)} {ins : Instr} {lv lv' : am_L} {st st' : List Value} {h h' : am_H} {v : Value} {P : Nat → Option am_Mth} {CP : Nat → Nat → Option am_R} {isI : Bool}
theorem am_blind (as : List Value) : FrameBlind (am_Pc E S as h) := fun a U g mk q => ⟨q.1, q.2.1, am_G.same q.2.2 rfl rfl⟩
theorem am_after {r : Option Value} {rest : List Value} {mc ms : Nat} {st0 : List Value} {a : Array Value} (hS : va_S (fun q => am_sz E ≤ q) s.heap H locs) (hr : va_Run p l e R s m args below meth c H locs cells slots mc ms (F0 m pc ls st0) (rest.map (am_v E)) (am_Qc E r h' a) (fun q => am_sz E ≤ q))
    (k : ∀ (H1 : Heap) (locs1 : List Loc), am_P E h' H1 → va_S (fun q => am_sz E ≤ q) s.heap H1 locs1 → W p l e R s m args below meth c H1 locs1 (cells + mc) (slots + ms) Q (F0 m (pc + 3) ls ((r.toList ++ rest).map (am_v E)))) : W p l e R s m args below meth c H locs cells slots Q (F0 m pc ls st0) := by
  intro T hT X
  obtain ⟨v, st₀, t, T', L, h0, X', hL, e1, e2, ⟨hv, hP1, hz, hk⟩, stp⟩ := hr T hT X
  cases hv
  rw [h0] at hz hk
  have hst : (r.toList ++ rest).map (am_v E) = (r.map (am_v E)).toList ++ rest.map (am_v E) := by cases r <;> simp
  obtain ⟨t2, a1, b1⟩ := k T'.heap (locs ++ L) (by rw [e1]; exact hP1) ⟨Nat.le_trans hS.1 (by rw [e1]; exact hz), fun q h1 h2 => by rw [e1, hk q (Nat.lt_of_lt_of_le h1 hS.1) h2]; exact hS.2.1 q h1 h2, fun q hq => by
      rcases List.mem_append.mp hq with hh | hh
      · exact hS.2.2 q hh
      · exact hL q hh⟩ T' rfl X'
  rw [hst] at a1
  exact ⟨t2, stp t2 a1, b1⟩
theorem am_just1 {own : String} {kk j b : Nat} {z : Int} (hj : am_just P own kk (1, j, b, z)) : ∃ m : am_Mth, P j = some m ∧ am_mlink own kk (am_name m) ∧ Cond.instanceMethod (am_name m) ∈ am_good ∧ Cond.selects (am_name m).cls (am_name m) (am_name m) ∈ am_good ∧ (parseMethodDescriptor (am_name m).desc).map (fun d => d.parameters.length + 1) = some (am_na m) := hj
theorem am_just13 {own : String} {kk j b : Nat} {z : Int} (hj : am_just P own kk (13, j, b, z)) : ∃ m : am_Mth, P j = some m ∧ am_mlink own kk (am_name m) ∧ Cond.static (am_name m) ∈ am_good ∧ (parseMethodDescriptor (am_name m).desc).map (fun d => d.parameters.length) = some (am_na m) := hj
theorem am_just14 {own : String} {kk j b : Nat} {z : Int} (hj : am_just P own kk (14, j, b, z)) : ∃ m : am_Mth, P j = some m ∧ am_mlink own kk (am_name m) ∧ Cond.instanceMethod (am_name m) ∈ am_good ∧ (am_name m).name = "<init>" ∧ am_rty m = none ∧ (parseMethodDescriptor (am_name m).desc).map (fun d => d.parameters.length + 1) = some (am_na m) := hj
theorem am_rcv_some {as : List Value} (hK : va_K (am_D E) am_cl (am_tys E) s) (hV : vk_S 2 am_sl am_sb (am_adK E) (am_adV E) (fun q => am_sz E ≤ q) s s.heap) (hS : va_S (fun q => am_sz E ≤ q) s.heap H locs) (hP : am_P E h H) (hr : am_rcv h oc as = true) : ∃ (b : Nat) (As : List Value), as = .ref b :: As ∧ ∃ cell : Cell, H[am_ad E b]? = some cell ∧ cell.vm.isStatics = false ∧ s.vm.findClass (am_cn oc) = some cell.cls := by
  unfold am_rcv at hr
  split at hr
  · have := am_len1 hr; subst this; exact ⟨1, _, rfl, vk_recv (i := 0) hV (by decide) hS⟩
  · have := am_len1 hr; subst this; exact ⟨2, _, rfl, vk_recv (i := 1) hV (by decide) hS⟩
  · split at hr
    · rename_i hc
      have := am_len1 hr; subst this
      obtain ⟨r, h1, -⟩ := hP.2 _ _ (am_ws_some hc)
      have hrr := va_recv hK hP.2 h1 (am_ws_some hc)
      rw [am_cl_cn _ _ h1] at hrr
      exact ⟨_, _, rfl, hrr⟩
    · cases hr
  · cases hr
theorem am_pd {y : MethodName} {n k : Nat} (hh : (parseMethodDescriptor y.desc).map (fun d => d.parameters.length + k) = some n) {q : Nat} (hq : q + k = n) : (parseMethodDescriptor y.desc).map (fun d => d.parameters.length) = some q := by
  cases hp : parseMethodDescriptor y.desc with
  | none => rw [hp] at hh; cases hh
  | some d =>
    rw [hp] at hh
    have := Option.some.inj hh
    show some d.parameters.length = some q
    congr 1
    dsimp only at this
    omega
theorem am_sim_call (hx : p.tables.exec = Jvm.exec) (hb : c.code = cc) (hml : c.maxLocals = nL) (hls : ls.size = nL) (hown : s.vm.findClass (am_cn oc) = some m.cls) (hts : ∀ w ∈ am_good, w.before args s = true) (hG : am_G E S s) (hS : va_S (fun q => am_sz E ≤ q) s.heap H locs) (hP : am_P E h H) (hCP : ∀ k r, CP oc k = some r → am_just P (am_cn oc) k r) (hPM : ∀ j M, P j = some M → am_okM M)
    (hdg : decode cc pc = .ok (ins, len)) (hn : am_len ins len = true) {M : am_Mth} {as rest : List Value} {d : Nat} {r : Option Value} (ha : am_inv P CP oc h ins st = some (M, as, rest)) (hfr : d + 2 ≤ R.frames) (hlo : 60 * (d + 2) ≤ R.locals) (hf : cells + am_mc M ≤ R.cells ∧ slots + am_ms M ≤ R.slots)
    (hM : (lg_sl as).length ≤ am_maxL M → am_okM M → am_Met l E S d M as h r h')
    (k : ∀ (H1 : Heap) (locs1 : List Loc), am_P E h' H1 → va_S (fun q => am_sz E ≤ q) s.heap H1 locs1 → W p l e R s m args below meth c H1 locs1 (cells + am_mc M) (slots + am_ms M) Q (F0 m (pc + 3) ls ((r.toList ++ rest).map (am_v E)))) : W p l e R s m args below meth c H locs cells slots Q (F0 m pc ls (st.map (am_v E))) := by
  have hGU : ∀ U : State, U.heap = H → s.WarmedH U.vm → am_P E h U.heap ∧ am_G E S U := fun U hU hW => ⟨by rw [hU]; exact hP, hG.to hW (fun q h1 h2 => by rw [hU]; exact hS.2.1 q h1 h2) (by rw [hU]; exact Nat.le_trans hG.2.2.2.2.2.2.2.1 hS.1)⟩
  have hcat : ∀ w : List Value, ((w.map (am_v E)).map fun v => v.category).sum = (w.map fun v => v.category).sum := fun w => by
    rw [List.map_map]
    congr 1
    exact List.map_congr_left (fun v _ => am_v_cat E v)
  have fitA : am_fitA M as rest = true → (lg_sl as).length ≤ am_maxL M ∧ (rest.map fun v => v.category).sum ≤ 16 := fun hq => by
    unfold am_fitA at hq
    rw [Bool.and_eq_true] at hq
    exact ⟨Nat.le_of_ble_eq_true hq.1, Nat.le_of_ble_eq_true hq.2⟩
  have stk : ∀ {n : Nat}, am_pop n [] st = some (as, rest) → st.map (am_v E) = (as.map (am_v E)).reverse ++ rest.map (am_v E) ∧ as.length = n := fun hq => by
    obtain ⟨q1, q2⟩ := am_pop_some hq
    have q1 : st = as.reverse ++ rest := q1
    refine ⟨by rw [q1, List.map_append, List.map_reverse], q2⟩
  have roomM : am_okM M → (am_rm d (am_mc M) (am_ms M)).frames + 1 ≤ R.frames ∧ 16 + (am_maxL M + 11) + (am_rm d (am_mc M) (am_ms M)).locals ≤ R.locals := fun hq => by
    have := hq.2.2.2.2.2.1
    constructor
    · show d + 1 + 1 ≤ R.frames
      omega
    · show 16 + (am_maxL M + 11) + 60 * (d + 1) ≤ R.locals
      omega
  have goodM : am_okM M → GoodIn am_good (am_wsM M) := fun hq => am_goodIn (fun _ z => z) hq.2.2.2.1
  have wd : ∀ {n : Nat}, am_okM M → (parseMethodDescriptor (am_name M).desc).map (fun d => d.parameters.length) = some n → am_Wd R s (am_name M) (am_bytes M) (am_maxL M) (am_rty M) (am_wsM M) (am_rm d (am_mc M) (am_ms M)) (am_mc M) (am_ms M) n args := fun {n} hq hpd => ⟨rfl, rfl, (roomM hq).1, (roomM hq).2, pay_in hts (goodM hq), List.mem_cons_self, hts _ hq.2.2.2.1, hts _ hq.2.2.2.2.1, hq.2.2.1, fun sig hsig => by
    rw [hsig] at hpd
    exact (Option.some.inj hpd).symm⟩
  have lnk : ∀ {k : Nat}, am_mlink (am_cn oc) k (am_name M) → (Cond.methodLink (am_cn oc) k (am_name M)).before args s = true ∨ ∃ host, va_Nw (.methodLinkNest (am_cn oc) k (am_name M) host) s := fun hq => by
    rcases hq with hq | ⟨host, hq⟩
    · exact Or.inl (hts _ hq)
    · exact Or.inr ⟨host, hG.2.1 _ hq⟩
  have lr : ∀ {w : List Value} {pc : Nat} {ls : Array Slot} {st : List Value}, (w.map fun v => v.category).sum ≤ 16 → 2 * (F0 m pc ls st).monitorRoom + (w.map fun v => v.category).sum ≤ 16 := fun hq => by
    show 2 * 0 + _ ≤ 16
    omega
  unfold am_inv at ha
  split at ha
  · obtain rfl := am_len1 hn
    split at ha
    · rename_i hc
      split at ha
      · rename_i hj
        split at ha
        · rename_i hpop
          obtain ⟨hq, hh⟩ := am_bif ha
          cases hh
          rw [Bool.and_eq_true] at hq
          obtain ⟨q1, q2⟩ := hq
          obtain ⟨f1, f2⟩ := fitA q2
          obtain ⟨e1, e2⟩ := stk hpop
          have okM := hPM _ _ hj
          obtain ⟨M2, j1, j2, j3, j4, j5⟩ := am_just1 (hCP _ _ hc)
          cases hj.symm.trans j1
          obtain ⟨b, As, rfl, hrc⟩ := am_rcv_some hG.1 hG.2.2.2.2.2.1 hS hP q1
          rw [okM.1] at hrc
          have hpd := am_pd (k := 1) j5 (q := (As.map (am_v E)).length) (by rw [List.length_map]; exact e2)
          rw [e1]
          refine am_after (a := (Value.ref (am_ad E b) :: As.map (am_v E)).toArray) hS ?_ k
          have hst : ((Value.ref b :: As).map (am_v E)).reverse ++ rest.map (am_v E) = (As.map (am_v E)).reverse ++ .ref (am_ad E b) :: rest.map (am_v E) := by simp [am_v]
          exact am_runV (As := As.map (am_v E)) (b := am_ad E b) ⟨hx, hb, hml, hown, hts⟩ (hM f1 okM) (wd okM hpd) (lnk j2) (hts _ j3) (hts _ j4) ⟨am_blind _, hrc, fun U hU hW => ⟨rfl, hGU U hU hW⟩⟩ rfl rfl hls hst (lr (by rw [hcat]; exact f2)) hdg hf
        · cases ha
      · cases ha
    · cases ha
  · obtain rfl := am_len1 hn
    split at ha
    · rename_i hc
      split at ha
      · rename_i hj
        split at ha
        · rename_i hpop
          obtain ⟨q2, hh⟩ := am_bif ha
          cases hh
          obtain ⟨f1, f2⟩ := fitA q2
          obtain ⟨e1, e2⟩ := stk hpop
          have okM := hPM _ _ hj
          obtain ⟨M2, j1, j2, j3, j5⟩ := am_just13 (hCP _ _ hc)
          cases hj.symm.trans j1
          have hpd := am_pd (k := 0) j5 (q := (as.map (am_v E)).length) (by rw [List.length_map]; exact e2)
          rw [e1]
          refine am_after (a := (as.map (am_v E)).toArray) hS ?_ k
          exact am_runS (As := as.map (am_v E)) ⟨hx, hb, hml, hown, hts⟩ (hM f1 okM) (wd okM hpd) (lnk j2) (hts _ j3) ⟨am_blind _, fun U hU hW => ⟨rfl, hGU U hU hW⟩⟩ rfl rfl hls rfl (lr (by rw [hcat]; exact f2)) hdg hf
        · cases ha
      · cases ha
    · cases ha
  · obtain rfl := am_len1 hn
    split at ha
    · rename_i hc
      split at ha
      · rename_i hj
        split at ha
        · rename_i hpop
          obtain ⟨hq, hh⟩ := am_bif ha
          cases hh
          rw [Bool.and_eq_true] at hq
          obtain ⟨q1, q2⟩ := hq
          obtain ⟨f1, f2⟩ := fitA q2
          obtain ⟨e1, e2⟩ := stk hpop
          have okM := hPM _ _ hj
          obtain ⟨M2, j1, j2, j3, j4, j6, j5⟩ := am_just14 (hCP _ _ hc)
          cases hj.symm.trans j1
          obtain ⟨b, As, rfl⟩ : ∃ (b : Nat) (As : List Value), as = .ref b :: As := by
            unfold am_isref at q1
            split at q1
            · exact ⟨_, _, rfl⟩
            · cases q1
          have hpd := am_pd (k := 1) j5 (q := (As.map (am_v E)).length) (by rw [List.length_map]; exact e2)
          rw [e1]
          refine am_after (a := (Value.ref (am_ad E b) :: As.map (am_v E)).toArray) hS ?_ k
          have hst : ((Value.ref b :: As).map (am_v E)).reverse ++ rest.map (am_v E) = (As.map (am_v E)).reverse ++ .ref (am_ad E b) :: rest.map (am_v E) := by simp [am_v]
          have hMM := hM f1 okM
          have wdM := wd okM hpd
          rw [j6] at wdM
          exact am_runI (As := As.map (am_v E)) (b := am_ad E b) ⟨hx, hb, hml, hown, hts⟩ hMM wdM (lnk j2) j4 (hts _ j3) ⟨am_blind _, fun U hU hW => ⟨rfl, hGU U hU hW⟩⟩ rfl rfl hls hst (lr (by rw [hcat]; exact f2)) hdg hf
        · cases ha
      · cases ha
    · cases ha
  · cases ha
end CALL
