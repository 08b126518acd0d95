/-! arraycopy; all writes. -/
section SIM5
variable {p : Program} {l : Launch} {e : Env} {R : Room} {s : State} {m : MethodId} {args : Array Value} {below : List Frame} {meth : Method} {c : Code} {H : Heap} {locs : List Loc} {cells slots : Nat} {Q : State → Prop}
variable {cc : ByteArray} {pc len nL oc : Nat} {ls : Array Slot} {E : am_E} {S : Nat × (Nat → Int32)} {ins : Instr} {lv lv' : am_L} {st st' : List Value} {h h' : am_H} {v : Value} {P : Nat → Option am_Mth} {CP : Nat → Nat → Option am_R} {isI : Bool}
theorem am_nn {z : Int32} (hz : ¬ z < 0) : z.toInt = (z.toNatClampNeg : Int) := by
  have hz0 : (0 : Int) ≤ z.toInt := by
    have := Int32.not_lt.mp hz
    simpa using Int32.le_iff_toInt_le.mp this
  show z.toInt = ((z.toInt.toNat : Nat) : Int)
  omega
/-- a copy from one array to another of its type, whatever it holds -/
theorem am_copyW {own : String} {index k0 k1 t : Nat} {a0 a1 a2 : vp_A} {ty : FieldType} {sp dp n : Int32} (hx : p.tables.exec = Jvm.exec) (hb : c.code = cc) (hml : c.maxLocals = ls.size) (hown : s.vm.findClass own = some m.cls) (hlink : (Cond.methodLink own index arraycopyName).before args s = true) (hnat : (Cond.native arraycopyName).before args s = true) (hstat : (Cond.static arraycopyName).before args s = true) (hini : (Cond.initialized "java/lang/System").before args s = true)
    (hK : va_K (am_D E) am_cl (am_tys E) s) (hP : am_P E h H) (hS : va_S (fun q => am_sz E ≤ q) s.heap H locs) (ht : (am_tys E)[t]? = some (am_cA E t, ty)) (hprim : refKind ty = false) (hk0 : am_nth h k0 = some (.inl (t, a0))) (hk1 : am_nth h k1 = some (.inl (t, a1)))
    (h1 : ¬ sp < 0) (h2 : ¬ dp < 0) (h3 : ¬ n < 0) (h4 : sp.toNatClampNeg + n.toNatClampNeg ≤ a0.1) (h5 : dp.toNatClampNeg + n.toNatClampNeg ≤ a1.1) (hfit : ∀ i, i < n.toNatClampNeg → ∃ w : Value, (vp_cell (am_cA E t) (am_a E a0)).slots.getD (sp.toNatClampNeg + i) .null = w ∧ fits ty w = true)
    (hcop : copied (vp_cell (am_cA E t) (am_a E a0)) (vp_cell (am_cA E t) (am_a E a1)) sp dp n = vp_cell (am_cA E t) (am_a E a2)) (hz0 : (am_a E a0).1 = a0.1) (hz1 : (am_a E a1).1 = a1.1) (harr0 : ∃ f, vp_cell (am_cA E t) (am_a E a0) = arrV (am_cA E t) a0.1 f) (harr1 : ∃ f, vp_cell (am_cA E t) (am_a E a1) = arrV (am_cA E t) a1.1 f)
    (hframes : 1 ≤ R.frames) (hlocals : 18 ≤ R.locals) (hdg : decode cc pc = .ok (.invokestatic index, 3))
    (kk : ∀ (H1 : Heap) (locs1 : List Loc), am_P E (am_put h k1 (.inl (t, a2))) H1 → va_S (fun q => am_sz E ≤ q) s.heap H1 locs1 → W p l e R s m args below meth c H1 locs1 cells slots Q (F0 m (pc + 3) ls [])) : W p l e R s m args below meth c H locs cells slots Q (F0 m pc ls [.int n, .int dp, .ref (am_sz E + k1), .int sp, .ref (am_sz E + k0)]) := by
  intro T hT X
  have hc0 := hP.cellA hk0
  have hc1 := hP.cellA hk1
  obtain ⟨f0, e0⟩ := harr0
  obtain ⟨f1, e1⟩ := harr1
  obtain ⟨-, kA, hkA, cm, hkk⟩ := (hK.2 t _ ht).1 0 (fun _ => .null)
  have hcls0 : (vp_cell (am_cA E t) (am_a E a0)).cls = am_cA E t := by rw [e0]; rfl
  have hcls1 : (vp_cell (am_cA E t) (am_a E a1)).cls = am_cA E t := by rw [e1]; rfl
  have hvm0 : (vp_cell (am_cA E t) (am_a E a0)).vm = .none := by rw [e0]; rfl
  have hvm1 : (vp_cell (am_cA E t) (am_a E a1)).vm = .none := by rw [e1]; rfl
  have hs0 : (vp_cell (am_cA E t) (am_a E a0)).slots.size = a0.1 := by rw [e0]; exact arrV_size _ _ _
  have hs1 : (vp_cell (am_cA E t) (am_a E a1)).slots.size = a1.1 := by rw [e1]; exact arrV_size _ _ _
  obtain ⟨vm', X', step⟩ := X.arraycopy hx hown hlink hnat hstat hini (src := am_sz E + k0) (dst := am_sz E + k1) (cs := vp_cell (am_cA E t) (am_a E a0)) (cd := vp_cell (am_cA E t) (am_a E a1)) (srcPos := sp) (destPos := dp) (n := n) (by rw [hT]; exact hc0) (by rw [hT]; exact hc1)
    (fun _ hh => by rw [hvm0] at hh; cases hh) (fun _ hh => by rw [hvm1] at hh; cases hh) (fun hh => by rw [hvm0] at hh; cases hh) (fun hh => by rw [hvm1] at hh; cases hh) (by rw [hcls0]; exact hkA) (by rw [hcls1]; exact hkA) hkk hkk (by simp [hprim]) h1 h2 h3
    (by rw [am_nn h1, am_nn h3, hs0]; omega)
    (by rw [am_nn h2, am_nn h3, hs1]; omega)
    (fun vm₁ _ i hi => by
      obtain ⟨w, e, hw⟩ := hfit i hi
      rw [e]
      refine ⟨hw, ?_⟩
      cases w <;> first | exact trivial | (cases ty <;> simp_all [fits, refKind]))
    (g := F0 m pc ls [.int n, .int dp, .ref (am_sz E + k1), .int sp, .ref (am_sz E + k0)]) rfl (by rw [hml]) (rest := []) rfl (by rw [hb]; exact hdg) hframes (by show 2 * 0 + 0 + 18 ≤ R.locals; omega)
  rw [hcop] at X' step
  have hl : am_sz E + k1 < H.size := (Array.getElem?_eq_some_iff.mp hc1).1
  have hheap : ((T.setVm vm').setCell (am_sz E + k1) (vp_cell (am_cA E t) (am_a E a2))).heap = H.setIfInBounds (am_sz E + k1) (vp_cell (am_cA E t) (am_a E a2)) := by rw [← hT]; rfl
  have oq : ∀ q : Nat, q ≠ am_sz E + k1 → (H.setIfInBounds (am_sz E + k1) (vp_cell (am_cA E t) (am_a E a2)))[q]? = H[q]? := fun q hq => by simp [Array.getElem?_setIfInBounds, Ne.symm hq]
  obtain ⟨t2, b1, b2⟩ := kk _ _ (hP.upd hk1 (c1 := .inl (t, a2)) (show (H.setIfInBounds (am_sz E + k1) _)[am_sz E + k1]? = some _ by simp [Array.getElem?_setIfInBounds, hl, am_e]) (by simp) oq) ⟨by simp; exact hS.1, fun q g1 g2 => by
      rw [oq q (fun ee => g2 (by rw [ee]; exact Nat.le_add_right _ _))]
      exact hS.2.1 q g1 g2, fun q hq => by
      rcases List.mem_append.mp hq with hh | hh
      · exact hS.2.2 q hh
      · obtain ⟨z, -, hz⟩ := List.mem_map.mp hh
        rw [← hz]
        exact Nat.le_add_right _ _⟩ _ hheap X'
  exact ⟨t2, step t2 b1, b2⟩
theorem am_copyWi {own : String} {index k0 k1 n0 n1 : Nat} {f g : Nat → Int32} {sp dp n : Int32} (hx : p.tables.exec = Jvm.exec) (hb : c.code = cc) (hml : c.maxLocals = ls.size) (hown : s.vm.findClass own = some m.cls) (hlink : (Cond.methodLink own index arraycopyName).before args s = true) (hnat : (Cond.native arraycopyName).before args s = true) (hstat : (Cond.static arraycopyName).before args s = true) (hini : (Cond.initialized "java/lang/System").before args s = true)
    (hK : va_K (am_D E) am_cl (am_tys E) s) (hP : am_P E h H) (hS : va_S (fun q => am_sz E ≤ q) s.heap H locs) (hk0 : am_nth h k0 = some (.inl (0, n0, .inl f))) (hk1 : am_nth h k1 = some (.inl (0, n1, .inl g)))
    (h1 : ¬ sp < 0) (h2 : ¬ dp < 0) (h3 : ¬ n < 0) (h4 : sp.toNatClampNeg + n.toNatClampNeg ≤ n0) (h5 : dp.toNatClampNeg + n.toNatClampNeg ≤ n1)
    (hframes : 1 ≤ R.frames) (hlocals : 18 ≤ R.locals) (hdg : decode cc pc = .ok (.invokestatic index, 3))
    (kk : ∀ (H1 : Heap) (locs1 : List Loc), am_P E (am_put h k1 (.inl (0, n1, .inl (va_cpy f g sp.toNatClampNeg dp.toNatClampNeg n.toNatClampNeg)))) H1 → va_S (fun q => am_sz E ≤ q) s.heap H1 locs1 → W p l e R s m args below meth c H1 locs1 cells slots Q (F0 m (pc + 3) ls [])) : W p l e R s m args below meth c H locs cells slots Q (F0 m pc ls [.int n, .int dp, .ref (am_sz E + k1), .int sp, .ref (am_sz E + k0)]) := by
  refine am_copyW (t := 0) (ty := .int) (a2 := (n1, .inl (va_cpy f g sp.toNatClampNeg dp.toNatClampNeg n.toNatClampNeg))) hx hb hml hown hlink hnat hstat hini hK hP hS rfl rfl hk0 hk1 h1 h2 h3 h4 h5 (fun i hi => ⟨_, rfl, ?_⟩) (va_copied (fun z => .int z) _ _ f g h4) rfl rfl ⟨fun j => .int (f j), rfl⟩ ⟨fun j => .int (g j), rfl⟩ hframes hlocals hdg kk
  show fits .int ((arrV _ n0 (fun j => .int (f j))).slots.getD _ _) = true
  rw [Array.getD_eq_getD_getElem?, arrV_read _ _ (by omega)]
  rfl
theorem am_copyWl {own : String} {index k0 k1 n0 n1 : Nat} {f g : Nat → Int64} {sp dp n : Int32} (hx : p.tables.exec = Jvm.exec) (hb : c.code = cc) (hml : c.maxLocals = ls.size) (hown : s.vm.findClass own = some m.cls) (hlink : (Cond.methodLink own index arraycopyName).before args s = true) (hnat : (Cond.native arraycopyName).before args s = true) (hstat : (Cond.static arraycopyName).before args s = true) (hini : (Cond.initialized "java/lang/System").before args s = true)
    (hK : va_K (am_D E) am_cl (am_tys E) s) (hP : am_P E h H) (hS : va_S (fun q => am_sz E ≤ q) s.heap H locs) (hk0 : am_nth h k0 = some (.inl (1, n0, .inr (.inl f)))) (hk1 : am_nth h k1 = some (.inl (1, n1, .inr (.inl g))))
    (h1 : ¬ sp < 0) (h2 : ¬ dp < 0) (h3 : ¬ n < 0) (h4 : sp.toNatClampNeg + n.toNatClampNeg ≤ n0) (h5 : dp.toNatClampNeg + n.toNatClampNeg ≤ n1)
    (hframes : 1 ≤ R.frames) (hlocals : 18 ≤ R.locals) (hdg : decode cc pc = .ok (.invokestatic index, 3))
    (kk : ∀ (H1 : Heap) (locs1 : List Loc), am_P E (am_put h k1 (.inl (1, n1, .inr (.inl (va_cpy f g sp.toNatClampNeg dp.toNatClampNeg n.toNatClampNeg))))) H1 → va_S (fun q => am_sz E ≤ q) s.heap H1 locs1 → W p l e R s m args below meth c H1 locs1 cells slots Q (F0 m (pc + 3) ls [])) : W p l e R s m args below meth c H locs cells slots Q (F0 m pc ls [.int n, .int dp, .ref (am_sz E + k1), .int sp, .ref (am_sz E + k0)]) := by
  refine am_copyW (t := 1) (ty := .long) (a2 := (n1, .inr (.inl (va_cpy f g sp.toNatClampNeg dp.toNatClampNeg n.toNatClampNeg)))) hx hb hml hown hlink hnat hstat hini hK hP hS rfl rfl hk0 hk1 h1 h2 h3 h4 h5 (fun i hi => ⟨_, rfl, ?_⟩) (va_copied (fun z => .long z) _ _ f g h4) rfl rfl ⟨fun j => .long (f j), rfl⟩ ⟨fun j => .long (g j), rfl⟩ hframes hlocals hdg kk
  show fits .long ((arrV _ n0 (fun j => .long (f j))).slots.getD _ _) = true
  rw [Array.getD_eq_getD_getElem?, arrV_read _ _ (by omega)]
  rfl
theorem am_just6 {own : String} {kk a b : Nat} {z : Int} (hj : am_just P own kk (6, a, b, z)) : Cond.methodLink own kk objectInit ∈ am_good ∧ Cond.instanceMethod objectInit ∈ am_good ∧ Cond.code objectInit ⟨#[0xb1]⟩ 1 none ∈ am_good := hj
theorem am_just7 {own : String} {kk a b : Nat} {z : Int} (hj : am_just P own kk (7, a, b, z)) : Cond.methodLink own kk arraycopyName ∈ am_good ∧ Cond.native arraycopyName ∈ am_good ∧ Cond.static arraycopyName ∈ am_good ∧ Cond.initialized "java/lang/System" ∈ am_good := hj
end SIM5
