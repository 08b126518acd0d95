/-! New cells. -/
theorem am_okN (ci : Nat) (q : vw_C) (hq : am_cl[ci]? = some q) : (am_df ci).length = q.2.2 := by
  match ci, hq with
  | 0, hq => cases hq; rfl
  | 1, hq => cases hq; rfl
  | 2, hq => cases hq; rfl
  | 3, hq => cases hq; rfl
  | 4, hq => cases hq; rfl
  | 5, hq => cases hq; rfl
  | 6, hq => cases hq; rfl
  | 7, hq => cases hq; rfl
  | 8, hq => cases hq; rfl
  | 9, hq => cases hq; rfl
  | 10, hq => cases hq; rfl
  | k + 11, hq => simp [am_cl] at hq
theorem am_df_v (E : am_E) (ci : Nat) : (am_df ci).map (am_v E) = am_df ci := by
  unfold am_df
  split <;> rfl
section MAKE
variable {p : Program} {l : Launch} {e : Env} {R : Room} {s : State} {m : MethodId} {args : Array Value} {below : List Frame} {meth : Method} {c : Code} {H : Heap} {locs : List Loc} {cells slots : Nat} {Q : State → Prop}
variable {cc : ByteArray} {pc pc' len nL oc : Nat} {ls : Array Slot} {E : am_E} {S : Nat × (Nat → Int32)} {ins : Instr} {lv lv' : am_L} {st st' : List Value} {h h' : am_H} {v : Value} {P : Nat → Option am_Mth} {CP : Nat → Nat → Option am_R} {isI : Bool}
theorem am_P.grow {cs : List am_C} {H1 : Heap} (hP : am_P E h H) (hz : H1.size = H.size + cs.length) (ho : ∀ q : Nat, q < H.size → H1[q]? = H[q]?) (hc : ∀ (i : Nat) (x : am_C), am_nth cs i = some x → va_at (am_D E) am_cl (am_sz E + h.length + i, am_e E x) H1) : am_P E (h ++ cs) H1 := by
  refine ⟨by rw [hz, hP.1, List.length_append]; omega, ?_⟩
  show va_P _ _ (am_wsF E (am_sz E) (h ++ cs)) H1
  rw [am_ws_app]
  refine va_P.app (hP.2.kept (fun k q hk => ho q.1 ((hP.2 k q hk).lt))) (fun k q hk => ?_)
  rw [am_ws_at] at hk
  cases hn : am_nth cs k with
  | none => rw [hn] at hk; cases hk
  | some x => rw [hn] at hk; cases hk; exact hc k x hn
theorem am_S.grow {A : Nat → Prop} {H0 H1 : Heap} (hS : va_S A H0 H locs) (hz : H.size ≤ H1.size) (ho : ∀ q : Nat, q < H.size → H1[q]? = H[q]?) : va_S A H0 H1 locs := ⟨Nat.le_trans hS.1 hz, fun x h1 h2 => (ho x (Nat.lt_of_lt_of_le h1 hS.1)).trans (hS.2.1 x h1 h2), hS.2.2⟩
theorem am_one {x y : am_C} {i : Nat} (hh : am_nth [x] i = some y) : i = 0 ∧ x = y := by
  match i, hh with
  | 0, hh => exact ⟨rfl, Option.some.inj hh⟩
  | k + 1, hh => cases hh
theorem am_just2 {own : String} {kk ci b : Nat} {z : Int} (hj : am_just P own kk (2, ci, b, z)) : ∃ (C : String) (T : u_T) (N : Nat), am_cl[ci]? = some (C, T, N) ∧ Cond.classLink own kk C ∈ am_good ∧ Cond.instantiable C N ∈ am_good ∧ Cond.initialized C ∈ am_good := hj
theorem am_just11 {own : String} {kk a b : Nat} {z : Int} (hj : am_just P own kk (11, a, b, z)) : Cond.classLink own kk "LastWordAt$Script" ∈ am_good := hj
theorem am_just12 {own : String} {kk a b : Nat} {z : Int} (hj : am_just P own kk (12, a, b, z)) : Cond.classLink own kk "[[I" ∈ am_good := hj
/-- a new array of numbers -/
theorem am_newaW {atype : ArrayType} {t : Nat} {ty : FieldType} {n : Int32} {a0 : vp_A} {rest : List Value} (hx : p.tables.exec = Jvm.exec) (hb : c.code = cc) (hts : ∀ w ∈ am_good, w.before args s = true) (hac : Cond.arrayClass ty ∈ am_good) (hty : newarray.typeOf atype = ty) (hK : va_K (am_D E) am_cl (am_tys E) s) (hP : am_P E h H) (hS : va_S (fun q => am_sz E ≤ q) s.heap H locs)
    (htt : (am_tys E)[t]? = some (am_cA E t, ty)) (hra : s.vm.findClass ("[" ++ ty.toString) = some (am_cA E t)) (ha : ∀ cA : ClassId, vp_cell cA (am_a E a0) = arrV cA n.toNatClampNeg (fun _ => defaultValue ty)) (hn : ¬ n < 0) (hN : n.toNatClampNeg ≤ 100000) (hbt : componentBytes ty ≤ 8) (hcells : cells + 1 ≤ R.cells) (hslots : slots + n.toNatClampNeg ≤ R.slots) (hdg : decode cc pc = .ok (.newarray atype, 2))
    (kk : ∀ (H1 : Heap), am_P E (h ++ [.inl (t, a0)]) H1 → va_S (fun q => am_sz E ≤ q) s.heap H1 locs → W p l e R s m args below meth c H1 locs (cells + 1) (slots + n.toNatClampNeg) Q (F0 m (pc + 2) ls (.ref (am_sz E + h.length) :: rest))) : W p l e R s m args below meth c H locs cells slots Q (F0 m pc ls (.int n :: rest)) := by
  subst hty
  have hby : n.toNatClampNeg * componentBytes (newarray.typeOf atype) ≤ 100000 * 8 := Nat.mul_le_mul hN hbt
  refine va_newaK hx hb (hts _ hac) rfl hdg rfl hn rfl (by omega) hcells hslots hP.1 fun H1 cA e1 z1 o1 hAr hNm => ?_
  have hcA : cA = am_cA E t := Option.some.inj (hNm.symm.trans hra)
  subst hcA
  refine kk H1 (hP.grow (by rw [z1, hP.1]; rfl) (fun q hq => o1 q (by rw [← hP.1]; exact hq)) (fun i x hi => ?_)) (am_S.grow hS (by rw [z1, hP.1]; omega) (fun q hq => o1 q (by rw [← hP.1]; exact hq)))
  obtain ⟨rfl, rfl⟩ := am_one hi
  show H1[am_sz E + h.length + 0]? = some (vp_cell _ _)
  rw [ha]
  exact e1
theorem am_rep {x y : am_C} : ∀ {N i : Nat}, am_nth (List.replicate N x) i = some y → i < N ∧ x = y
  | 0, i, hh => by cases hh
  | N + 1, 0, hh => ⟨Nat.succ_pos N, Option.some.inj hh⟩
  | N + 1, i + 1, hh => by
    have := am_rep (N := N) (i := i) (x := x) (y := y) hh
    exact ⟨by omega, this.2⟩
/-- new int[n][q] -/
theorem am_mnaW {own : String} {index : Nat} {n q : Int32} {rest : List Value} (hx : p.tables.exec = Jvm.exec) (hb : c.code = cc) (hown : s.vm.findClass own = some m.cls) (hts : ∀ w ∈ am_good, w.before args s = true) (hclink : (Cond.classLink own index "[[I").before args s = true) (hover : am_AOI s) (hK : va_K (am_D E) am_cl (am_tys E) s) (hP : am_P E h H) (hS : va_S (fun q => am_sz E ≤ q) s.heap H locs)
    (hn : ¬ n < 0) (hq : ¬ q < 0) (hN : n.toNatClampNeg ≤ 1000) (hM : q.toNatClampNeg ≤ 1000) (hcells : cells + (1 + n.toNatClampNeg) ≤ R.cells) (hslots : slots + (n.toNatClampNeg + n.toNatClampNeg * q.toNatClampNeg) ≤ R.slots) (hdg : decode cc pc = .ok (.multianewarray index 2, 4))
    (kk : ∀ (H1 : Heap), am_P E (h ++ (.inl (4, n.toNatClampNeg, .inr (.inr (.inr (.inr (fun i => if i < n.toNatClampNeg then some (h.length + 6 + i) else none))))) :: List.replicate n.toNatClampNeg (.inl (0, q.toNatClampNeg, .inl (fun _ => 0))))) H1 → va_S (fun q => am_sz E ≤ q) s.heap H1 locs → W p l e R s m args below meth c H1 locs (cells + (1 + n.toNatClampNeg)) (slots + (n.toNatClampNeg + n.toNatClampNeg * q.toNatClampNeg)) Q (F0 m (pc + 4) ls (.ref (am_sz E + h.length) :: rest))) : W p l e R s m args below meth c H locs cells slots Q (F0 m pc ls (.int q :: .int n :: rest)) := by
  refine mn_W hx hb hown hclink hover (hts _ am_ac0) hn hq hN hM hcells hslots hdg (fun cA cI H1 fA fI z1 o1 y1 r1 => ?_)
  have ecA : cA = am_cA E 4 := Option.some.inj (fA.symm.trans (hK.2 4 _ rfl).2)
  have ecI : cI = am_cA E 0 := Option.some.inj (fI.symm.trans (hK.2 0 _ rfl).2)
  subst ecA
  subst ecI
  rw [hP.1] at y1 r1
  have k1 := kk H1 (hP.grow (by rw [z1]; simp only [List.length_cons, List.length_replicate]; omega) o1 (fun i x hi => by
    match i, hi with
    | 0, hi =>
      cases hi
      show H1[am_sz E + h.length + 0]? = some (vp_cell (am_cA E 4) (n.toNatClampNeg, .inr (.inr (.inr (.inr (fun i => (if i < n.toNatClampNeg then some (h.length + 6 + i) else none).map (am_ad E)))))))
      rw [Nat.add_zero, y1, vp_cell_q]
      refine congrArg some (congrArg (arrV _ _) (funext fun j => congrArg va_rf ?_))
      by_cases hj : j < n.toNatClampNeg
      · rw [if_pos hj, if_pos hj]
        show some _ = some (am_ad E (h.length + 6 + j))
        rw [show h.length + 6 + j = (h.length + 1 + j) + 5 by omega]
        show some _ = some (am_sz E + (h.length + 1 + j))
        congr 1
        omega
      · rw [if_neg hj, if_neg hj]
        rfl
    | i + 1, hi =>
      obtain ⟨g1, g2⟩ := am_rep (N := n.toNatClampNeg) (i := i) hi
      subst g2
      show H1[am_sz E + h.length + (i + 1)]? = some (vp_cell (am_cA E 0) (q.toNatClampNeg, .inl (fun _ => 0)))
      rw [show am_sz E + h.length + (i + 1) = am_sz E + h.length + 1 + i by omega, r1 i g1, vp_cell_i]
      rfl)) (am_S.grow hS (by rw [z1]; omega) o1)
  rw [hP.1, show cells + 1 + n.toNatClampNeg = cells + (1 + n.toNatClampNeg) by omega, show slots + n.toNatClampNeg + n.toNatClampNeg * q.toNatClampNeg = slots + (n.toNatClampNeg + n.toNatClampNeg * q.toNatClampNeg) by omega]
  exact k1
theorem am_sim_make (hx : p.tables.exec = Jvm.exec) (hb : c.code = cc) (hown : s.vm.findClass (am_cn oc) = some m.cls) (hts : ∀ w ∈ am_good, w.before args s = true) (hG : am_G E S s) (hS : va_S (fun q => am_sz E ≤ q) s.heap H locs) (hP : am_P E h H) (hCP : ∀ k r, CP oc k = some r → am_just P (am_cn oc) k r)
    (hdg : decode cc pc = .ok (ins, len)) (hn : am_len ins len = true) {cs : List am_C} {rest : List Value} {ds : Nat} (ha : am_make CP oc h ins st = some (cs, rest, ds)) (hcells : cells + cs.length ≤ R.cells) (hslots : slots + ds ≤ R.slots)
    (k : ∀ (H1 : Heap), am_P E (h ++ cs) H1 → va_S (fun q => am_sz E ≤ q) s.heap H1 locs → W p l e R s m args below meth c H1 locs (cells + cs.length) (slots + ds) Q (F0 m (pc + len) ls (.ref (am_sz E + h.length) :: rest.map (am_v E)))) : W p l e R s m args below meth c H locs cells slots Q (F0 m pc ls (st.map (am_v E))) := by
  obtain ⟨hK, -, -, -, -, -, -, -, hAO, hAOI, -⟩ := hG
  unfold am_make at ha
  split at ha
  · split at ha
    · rename_i hc
      cases ha
      obtain rfl := am_len1 hn
      obtain ⟨C, T, N, j1, j2, j3, j4⟩ := am_just2 (hCP _ _ hc)
      obtain ⟨ty, hty, hdf⟩ := am_okD _ _ j1
      have hNN := am_okN _ _ j1
      dsimp only at hNN
      have hKn := hK.1 _ _ j1
      rw [hNN] at hslots k
      refine W.newcK hx hb hown (hts _ j2) (hts _ j3) (hts _ j4) rfl hdg hcells hslots hKn.2.1 hP.1 fun H1 kC hkC e1 z1 o1 => ?_
      refine k H1 (hP.grow (by rw [z1, hP.1]; rfl) (fun q hq => o1 q (by rw [← hP.1]; exact hq)) (fun i x hi => ?_)) (am_S.grow hS (by rw [z1, hP.1]; omega) (fun q hq => o1 q (by rw [← hP.1]; exact hq)))
      obtain ⟨rfl, rfl⟩ := am_one hi
      refine ⟨_, j1, ?_⟩
      rw [am_df_v]
      exact (u_born ty hts (am_okC _ _ j1).1 hKn hkC e1 hty).to hdf
    · cases ha
  · split at ha
    · rename_i hh
      cases ha
      obtain rfl := am_len1 hn
      exact am_newaW (t := 0) hx hb hts am_ac0 rfl hK hP hS rfl (hK.2 0 _ rfl).2 (fun _ => rfl) hh.1 hh.2 (by decide) hcells hslots hdg k
    · cases ha
  · split at ha
    · rename_i hh
      cases ha
      obtain rfl := am_len1 hn
      exact am_newaW (t := 1) hx hb hts am_ac1 rfl hK hP hS rfl (hK.2 1 _ rfl).2 (fun _ => rfl) hh.1 hh.2 (by decide) hcells hslots hdg k
    · cases ha
  · split at ha
    · rename_i hh
      cases ha
      obtain rfl := am_len1 hn
      exact am_newaW (t := 2) hx hb hts am_ac2 rfl hK hP hS rfl (hK.2 2 _ rfl).2 (fun _ => rfl) hh.1 hh.2 (by decide) hcells hslots hdg k
    · cases ha
  · split at ha
    · rename_i hc
      split at ha
      · rename_i hh
        cases ha
        obtain rfl := am_len1 hn
        obtain ⟨C, T, N, j1, j2, -, -⟩ := am_just2 (hCP _ _ hc)
        cases j1
        refine W.anew hx hb hown (hts _ j2) (va_AO.use hAO) rfl hdg rfl hh.1 (by omega) hcells hslots fun cA kA comp f1 f2 f3 f4 => ?_
        obtain ⟨_, _, -, -, -, hNm⟩ := (hK.2 3 _ rfl).2
        have hcA : cA = am_cA E 3 := Option.some.inj (f1.symm.trans hNm)
        subst hcA
        rw [hP.1]
        refine k _ (hP.grow (by rw [Array.size_push]; rfl) (fun q hq => by rw [Array.getElem?_push, if_neg (Nat.ne_of_lt hq)]) (fun i x hi => ?_)) (am_S.grow hS (by rw [Array.size_push]; omega) (fun q hq => by rw [Array.getElem?_push, if_neg (Nat.ne_of_lt hq)]))
        obtain ⟨rfl, rfl⟩ := am_one hi
        show (H.push _)[am_sz E + h.length + 0]? = some (vp_cell _ _)
        rw [Nat.add_zero, ← hP.1, Array.getElem?_push_size]
        rw [show am_a E (_, Sum.inr (Sum.inr (Sum.inr (Sum.inr fun _ => none)))) = (_, Sum.inr (Sum.inr (Sum.inr (Sum.inr fun _ => none)))) from rfl, vp_cell_q]
        exact congrArg some (arrV_new _ _ _)
      · cases ha
    · cases ha
  · split at ha
    · rename_i hc
      split at ha
      · rename_i hh
        cases ha
        obtain rfl := am_len1 hn
        rw [List.length_cons, List.length_replicate, Nat.add_comm _ 1] at hcells
        exact am_mnaW hx hb hown hts (hts _ (am_just12 (hCP _ _ hc))) hAOI hK hP hS hh.1 hh.2.1 hh.2.2.1 hh.2.2.2 hcells hslots hdg (fun H1 y1 y2 => by
          have y3 := k H1 y1 y2
          rw [List.length_cons, List.length_replicate, Nat.add_comm _ 1] at y3
          exact y3)
      · cases ha
    · cases ha
  · cases ha
end MAKE
