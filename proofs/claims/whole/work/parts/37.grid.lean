/-! new int[n][q]: the machine's own loop, row by row (written here, for the kit has no row of it outside its shelf of JDK laws). -/
section GRID
variable {p : Program} {l : Launch} {e : Env} {R : Room} {s : State} {m : MethodId} {args : Array Value} {below : List Frame} {meth : Method} {c : Code} {H : Heap} {locs : List Loc} {cells slots : Nat} {Q : State → Prop} {T : State}
variable {cc : ByteArray} {pc : Nat} {ls : Array Slot}
/-- the outer array at address b when i rows hang in it -/
def mn_o (cA : ClassId) (n b i : Nat) : Cell := arrV cA n (fun j => va_rf (if j < i then some (b + 1 + j) else none))
/-- a row -/
def mn_r (cI : ClassId) (q : Nat) : Cell := arrV cI q (fun _ => .int 0)
/-- the state when i rows hang -/
def mn_S (U : State) (cA cI : ClassId) (n q : Nat) : Nat → State
  | 0 => U.pushCell (mn_o cA n U.heap.size 0)
  | i + 1 => ((mn_S U cA cI n q i).pushCell (mn_r cI q)).setCell U.heap.size (mn_o cA n U.heap.size (i + 1))
theorem mn_o0 (cA : ClassId) (n b : Nat) : arrV cA n (fun _ => .null) = mn_o cA n b 0 := congrArg (arrV cA n) (funext fun j => by simp [va_rf])
theorem mn_oS (cA : ClassId) (n b i : Nat) : (mn_o cA n b i).setSlot i (.ref (b + 1 + i)) = mn_o cA n b (i + 1) := by
  unfold mn_o
  rw [arrV_store]
  refine congrArg (arrV cA n) (funext fun j => ?_)
  dsimp only [updV]
  by_cases hj : j = i
  · subst hj
    rw [if_pos rfl, if_pos (Nat.lt_succ_self _)]
    rfl
  · rw [if_neg hj]
    by_cases h : j < i
    · rw [if_pos h, if_pos (by omega)]
    · rw [if_neg h, if_neg (by omega)]
/-- what is known of V, which is U with i rows of it made -/
def mn_F (U V : State) (cA cI : ClassId) (n q i : Nat) : Prop := V.heap.size = U.heap.size + 1 + i ∧ V.vm = U.vm ∧ V.slotsUsed = U.slotsUsed + n + i * q ∧ (∀ a : Nat, a < U.heap.size → V.heap[a]? = U.heap[a]?) ∧ V.heap[U.heap.size]? = some (mn_o cA n U.heap.size i) ∧ ∀ j : Nat, j < i → V.heap[U.heap.size + 1 + j]? = some (mn_r cI q)
theorem mn_facts (U : State) (cA cI : ClassId) (n q : Nat) : ∀ i : Nat, mn_F U (mn_S U cA cI n q i) cA cI n q i
  | 0 => by
    refine ⟨by rw [mn_S, size_pushCell], rfl, ?_, fun a ha => State.heap_pushCell_of_lt _ _ ha, State.heap_pushCell_size _ _, fun j hj => absurd hj (Nat.not_lt_zero j)⟩
    show U.slotsUsed + (mn_o cA n U.heap.size 0).slots.size = _
    rw [mn_o, arrV_size]
    omega
  | i + 1 => by
    obtain ⟨f1, f2, f3, f4, f5, f6⟩ := mn_facts U cA cI n q i
    have hp : ∀ a : Nat, a < (mn_S U cA cI n q i).heap.size → ((mn_S U cA cI n q i).pushCell (mn_r cI q)).heap[a]? = (mn_S U cA cI n q i).heap[a]? := fun a ha => State.heap_pushCell_of_lt _ _ ha
    have hs : ∀ a : Nat, a ≠ U.heap.size → (mn_S U cA cI n q (i + 1)).heap[a]? = ((mn_S U cA cI n q i).pushCell (mn_r cI q)).heap[a]? := fun a ha => State.heap_setCell_other (Ne.symm ha)
    refine ⟨?_, f2, ?_, fun a ha => ?_, ?_, fun j hj => ?_⟩
    · rw [mn_S, size_setCell, size_pushCell, f1]
      omega
    · show (mn_S U cA cI n q i).slotsUsed + (mn_r cI q).slots.size = _
      rw [mn_r, arrV_size, f3, Nat.succ_mul]
      omega
    · rw [hs a (by omega), hp a (by rw [f1]; omega), f4 a ha]
    · exact State.heap_setCell_self (c := mn_o cA n U.heap.size i) (by rw [hp _ (by rw [f1]; omega)]; exact f5)
    · rw [hs _ (by omega)]
      by_cases h : j < i
      · rw [hp _ (by rw [f1]; omega), f6 j h]
      · have e1 : U.heap.size + 1 + j = (mn_S U cA cI n q i).heap.size := by rw [f1]; omega
        rw [e1]
        exact State.heap_pushCell_size _ _
theorem mn_top (U : State) (f : JFrame) (cA cI : ClassId) (n q : Nat) : ∀ i : Nat, mn_S (U.setTop f) cA cI n q i = (mn_S U cA cI n q i).setTop f
  | 0 => rfl
  | i + 1 => by
    show ((mn_S (U.setTop f) cA cI n q i).pushCell (mn_r cI q)).setCell U.heap.size (mn_o cA n U.heap.size (i + 1)) = _
    rw [mn_top U f cA cI n q i]
    rfl
theorem mn_stand (X : Stand p l e R s m args below meth c T locs cells slots) (cA cI : ClassId) (n q : Nat) : ∀ i : Nat, Stand p l e R s m args below meth c (mn_S T cA cI n q i) locs (cells + 1 + i) (slots + n + i * q)
  | 0 => by
    have h := X.pushed (mn_o cA n T.heap.size 0)
    rw [show (mn_o cA n T.heap.size 0).slots.size = n from arrV_size _ _ _] at h
    rw [Nat.zero_mul]
    exact h
  | i + 1 => by
    obtain ⟨f1, -, -, -, f5, -⟩ := mn_facts T cA cI n q i
    have hlt : T.heap.size < (mn_S T cA cI n q i).heap.size := by rw [f1]; omega
    have h := ((mn_stand X cA cI n q i).pushed (mn_r cI q)).stored (a := T.heap.size) (cell := mn_o cA n T.heap.size i) ((State.heap_pushCell_of_lt _ _ hlt).trans f5) i (.ref (T.heap.size + 1 + i))
    rw [mn_oS, show (mn_r cI q).slots.size = q from arrV_size _ _ _] at h
    have h2 := h.dropFresh (fun x hx => by rw [List.mem_singleton] at hx; subst hx; exact X.heapGrown)
    rw [show slots + n + (i + 1) * q = slots + n + i * q + q by rw [Nat.succ_mul]; omega]
    exact h2
section WP
variable {E : CtlPost} {d : Bool} {acts : List Action} {U : State}
/-- one array -/
theorem mn_new {cX cY : ClassId} {k : Class} {ty : FieldType} {len : Nat} {x : Value} (hk : U.vm.classes[cX]? = some k) (hki : k.kind = .array cY ty) (h1 : len ≤ e.platform.arrayLengthLimit) (h2 : len * componentBytes ty ≤ e.platform.maxHeapBytes) (hf : fits ty x = true) (h3 : U.heap.size < e.platform.maxCells) (h4 : U.slotsUsed + len ≤ e.platform.maxSlots)
    {Z : Addr → Pre} (hz : ∀ acts', Z U.heap.size d acts' (U.pushCell (arrV cX len (fun _ => x)))) : wp (Jvm.newArray cX len x) Z E e d acts U := by
  have g1 : ¬ len > e.platform.arrayLengthLimit := Nat.not_lt.mpr h1
  have g2 : ¬ len * componentBytes ty > e.platform.maxHeapBytes := Nat.not_lt.mpr h2
  have g3 : ¬ len > e.platform.maxSlots := by omega
  simp only [Jvm.newArray, Jvm.arrayFits, wp_bind', Jvm.W.ask, Jvm.W.ite, g1, g2, g3, if_false, wp_pure', Jvm.W.theClass, hk, hki, Jvm.W.alloc, Option.some.injEq, exists_eq_left', Array.size_replicate]
  refine ⟨h3, h4, fun i v hv => ?_, ?_⟩
  · rw [Array.getElem?_replicate] at hv
    split at hv
    · cases hv
      simp [State.fitsSlot, State.slotType?, hk, hki, hf]
    · cases hv
  · rw [arrV_new]
    exact hz _
/-- the loop over the rows still to come -/
theorem mn_loop {cA cI : ClassId} {n q : Nat} {f : Nat → PUnit → Sem (ForInStep PUnit)} (hf : ∀ i : Nat, i < n → ∀ (d : Bool) (acts : List Action) (Z : ForInStep PUnit → Pre), (∀ d' acts', Z (ForInStep.yield PUnit.unit) d' acts' (mn_S U cA cI n q (i + 1))) → wp (f i PUnit.unit) Z E e d acts (mn_S U cA cI n q i))
    {Z : PUnit → Pre} (hz : ∀ d' acts', Z PUnit.unit d' acts' (mn_S U cA cI n q n)) : ∀ (k i : Nat) (d : Bool) (acts : List Action), i + k = n → wp (forIn (List.range' i k) PUnit.unit f) Z E e d acts (mn_S U cA cI n q i)
  | 0, i, d, acts, h => by
    have e1 : i = n := by omega
    subst e1
    simp only [List.range'_zero, List.forIn_nil, wp_pure']
    exact hz _ _
  | k + 1, i, d, acts, h => by
    simp only [List.range'_succ, List.forIn_cons, wp_bind']
    exact hf i (by omega) _ _ _ (fun d' acts' => mn_loop hf hz k (i + 1) d' acts' (by omega))
/-- the whole grid -/
theorem mn_make {cA cI cE : ClassId} {k k1 : Class} {n q : Int32} (hk : U.vm.classes[cA]? = some k) (hki : k.kind = .array cI (.array .int)) (hk1 : U.vm.classes[cI]? = some k1) (hk1i : k1.kind = .array cE .int) (hn : ¬ n < 0) (hq : ¬ q < 0)
    (a1 : n.toNatClampNeg ≤ e.platform.arrayLengthLimit) (a2 : n.toNatClampNeg * componentBytes (.array .int) ≤ e.platform.maxHeapBytes) (b1 : q.toNatClampNeg ≤ e.platform.arrayLengthLimit) (b2 : q.toNatClampNeg * componentBytes .int ≤ e.platform.maxHeapBytes)
    (hc : U.heap.size + (1 + n.toNatClampNeg) ≤ e.platform.maxCells) (hs : U.slotsUsed + (n.toNatClampNeg + n.toNatClampNeg * q.toNatClampNeg) ≤ e.platform.maxSlots)
    {Z : Addr → Pre} (hz : ∀ d' acts', Z U.heap.size d' acts' (mn_S U cA cI n.toNatClampNeg q.toNatClampNeg n.toNatClampNeg)) : wp (Jvm.Op.multianewarray.make cA [n, q]) Z E e d acts U := by
  have hfi : [q].find? (· < 0) = none := by simp [hq]
  rw [Jvm.Op.multianewarray.make]
  simp only [wp_bind', Jvm.W.ite, hn, if_false, wp_pure', Jvm.W.theClass, hk, hki, Option.some.injEq, exists_eq_left']
  refine mn_new hk hki a1 a2 rfl (by omega) (by omega) (fun acts' => ?_)
  rw [mn_o0 cA _ U.heap.size]
  simp only [hfi]
  rw [ite_self, wp_bind', Std.Legacy.Range.forIn_eq_forIn_range']
  show wp (forIn (List.range' 0 ([:n.toNatClampNeg] : Std.Legacy.Range).size) PUnit.unit _) _ E e d acts' (mn_S U cA cI n.toNatClampNeg q.toNatClampNeg 0)
  rw [show ([:n.toNatClampNeg] : Std.Legacy.Range).size = n.toNatClampNeg by simp [Std.Legacy.Range.size]]
  refine mn_loop (fun i hi d acts Y hY => ?_) (fun d' acts' => by simp only [wp_pure']; exact hz _ _) n.toNatClampNeg 0 d acts' (Nat.zero_add _)
  obtain ⟨f1, f2, f3, -, f5, -⟩ := mn_facts U cA cI n.toNatClampNeg q.toNatClampNeg i
  have hm : (i + 1) * q.toNatClampNeg ≤ n.toNatClampNeg * q.toNatClampNeg := Nat.mul_le_mul_right _ hi
  rw [Nat.succ_mul] at hm
  have g1 : (mn_S U cA cI n.toNatClampNeg q.toNatClampNeg i).vm.classes[cI]? = some k1 := by rw [f2]; exact hk1
  simp only [wp_bind']
  rw [Jvm.Op.multianewarray.make]
  simp only [wp_bind', Jvm.W.ite, hq, if_false, wp_pure', Jvm.W.theClass, g1, hk1i, Option.some.injEq, exists_eq_left']
  refine mn_new g1 hk1i b1 b2 rfl (by rw [f1]; omega) (by rw [f3]; omega) (fun acts1 => ?_)
  simp only [wp_bind', Jvm.W.writeLoc, wp_pure']
  have hlt : U.heap.size < (mn_S U cA cI n.toNatClampNeg q.toNatClampNeg i).heap.size := by rw [f1]; omega
  refine ⟨mn_o cA n.toNatClampNeg U.heap.size i, (State.heap_pushCell_of_lt _ _ hlt).trans f5, fun h => (by cases h), ?_, ?_, ?_⟩
  · rw [mn_o, arrV_size]
    exact hi
  · show State.fitsSlot _ cA .none i _ = true
    simp [State.fitsSlot, State.slotType?, f2, hk, hki]
    rfl
  · rw [f1, mn_oS]
    exact hY _ _
end WP
/-- the row -/
theorem mn_W (hx : p.tables.exec = Jvm.exec) (hb : c.code = cc) {own : String} {index : Nat} {n q : Int32} {rest : List Value} (hown : s.vm.findClass own = some m.cls) (hclink : (Cond.classLink own index "[[I").before args s = true) (hover : (Cond.arrayOver (.array .int)).before args s = true) (harr : (Cond.arrayClass .int).before args s = true)
    (hn : ¬ n < 0) (hq : ¬ q < 0) (hN : n.toNatClampNeg ≤ 1000) (hM : q.toNatClampNeg ≤ 1000) (hcells : cells + (1 + n.toNatClampNeg) ≤ R.cells) (hslots : slots + (n.toNatClampNeg + n.toNatClampNeg * q.toNatClampNeg) ≤ R.slots) (hdg : decode cc pc = .ok (.multianewarray index 2, 4))
    (kk : ∀ (cA cI : ClassId) (H1 : Heap), s.vm.findClass "[[I" = some cA → s.vm.findClass "[I" = some cI → H1.size = H.size + 1 + n.toNatClampNeg → (∀ a : Nat, a < H.size → H1[a]? = H[a]?) → H1[H.size]? = some (mn_o cA n.toNatClampNeg H.size n.toNatClampNeg) → (∀ j : Nat, j < n.toNatClampNeg → H1[H.size + 1 + j]? = some (mn_r cI q.toNatClampNeg)) →
      W p l e R s m args below meth c H1 locs (cells + 1 + n.toNatClampNeg) (slots + n.toNatClampNeg + n.toNatClampNeg * q.toNatClampNeg) Q (F0 m (pc + 4) ls (.ref H.size :: rest))) : W p l e R s m args below meth c H locs cells slots Q (F0 m pc ls (.int q :: .int n :: rest)) := by
  intro T hT X
  subst hT
  subst hb
  have hpl : e.platform.magicAccessors = ({} : Platform).magicAccessors := by rw [X.admits.platform]
  obtain ⟨cI, cA, kA, hfI, -, hkA, hkiA, hfA⟩ := arrayOverA_spec hover
  obtain ⟨cI2, kI, cE, hfI2, hkI, hkiI⟩ := Cond.arrayClass_spec harr
  have eI : cI2 = cI := Option.some.inj (hfI2.symm.trans hfI)
  subst eI
  obtain ⟨c0, hf0, hcl⟩ := Cond.classLink_spec hown hclink e.platform hpl
  have e0 : c0 = cA := Option.some.inj (hf0.symm.trans hfA)
  subst e0
  obtain ⟨hg1, hw1, -⟩ := State.classEntry (e := e) X.warmed hcl
  generalize T.vm.noted m.cls index (.cls c0) = vm1 at hg1 hw1
  have hal : s.vm.Alike vm1 := hw1.alike
  obtain ⟨kA1, hkA1, heA⟩ := hal.2.2 _ _ hkA
  obtain ⟨kI1, hkI1, heI⟩ := hal.2.2 _ _ hkI
  have X1 := mn_stand (X.noted hw1) c0 cI2 n.toNatClampNeg q.toNatClampNeg n.toNatClampNeg
  obtain ⟨hr1, hr2⟩ := X.roomAbove hcells hslots
  obtain ⟨f1, -, -, f4, f5, f6⟩ := mn_facts (T.setVm vm1) c0 cI2 n.toNatClampNeg q.toNatClampNeg n.toNatClampNeg
  obtain ⟨t, a1, b1⟩ := kk c0 cI2 _ hf0 hfI f1 f4 f5 f6 _ rfl X1
  refine ⟨t, ?_, b1⟩
  have hA := Launch.admits_arrayLengthLimit X.admits
  have hB := Launch.admits_maxHeapBytes X.admits
  jvm_step X.here [hx, hdg]
  simp only [Jvm.Op.multianewarray.sem, wp_bind', Jvm.W.resolveClassAt_links (State.method?_setTop (F0 m pc ls (.int q :: .int n :: rest)) X.here.top) hg1]
  rw [Jvm.W.popN, if_neg (by decide)]
  refine ⟨F0 m pc ls (.int q :: .int n :: rest), State.topJava?_setTop' (s := T.setVm vm1) _ X.here.top, [.int n, .int q], rest, rfl, rfl, ?_⟩
  simp only [List.mapM_cons, List.mapM_nil, wp_bind', wp_pure']
  refine mn_make (k := kA1) (k1 := kI1) (cI := cI2) (cE := cE) (by exact hkA1) (by rw [heA]; exact hkiA) (by exact hkI1) (by rw [heI]; exact hkiI) hn hq (by omega) (by rw [hB]; show n.toNatClampNeg * 4 ≤ _; omega) (by omega) (by rw [hB]; show q.toNatClampNeg * 4 ≤ _; omega) (by exact hr1) (by exact hr2) (fun d' acts' => ?_)
  have eS : ((T.setTop (F0 m pc ls (.int q :: .int n :: rest))).setVm vm1).setTop { method := m, pc := pc, locals := ls, stack := rest, locked := none } = (T.setVm vm1).setTop { method := m, pc := pc, locals := ls, stack := rest, locked := none } := by
    show ((T.setVm vm1).setTop (F0 m pc ls (.int q :: .int n :: rest))).setTop _ = _
    exact State.setTop_setTop _ _ _
  rw [eS, mn_top]
  simp only [wp_bind', Jvm.W.mark, Jvm.W.pushRef, State.topJava?_setTop' _ X1.here.top, Option.some.injEq, exists_eq_left', State.setTop_setTop, State.heap_setTop]
  intro acts
  simp [jvm, X1.here.top]
  exact a1
end GRID
