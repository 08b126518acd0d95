/-! Reads and writes of the heap. -/
section SIM3
variable {p : Program} {l : Launch} {e : Env} {R : Room} {s : State} {m : MethodId} {args : Array Value} {below : List Frame} {meth : Method} {c : Code} {H : Heap} {locs : List Loc} {cells slots : Nat} {Q : State → Prop}
variable {cc : ByteArray} {pc len nL oc : Nat} {ls : Array Slot} {E : am_E} {S : Nat × (Nat → Int32)} {ins : Instr} {lv lv' : am_L} {st st' : List Value} {h h' : am_H} {v : Value} {P : Nat → Option am_Mth} {CP : Nat → Nat → Option am_R} {isI : Bool}
theorem am_cell_some {a : Nat} {x : am_C} (hc : am_cell h a = some x) : ∃ k, a = k + 5 ∧ am_nth h k = some x := by
  unfold am_cell at hc
  split at hc
  · cases hc
  · cases hc
  · cases hc
  · cases hc
  · cases hc
  · exact ⟨_, rfl, hc⟩
theorem am_bif {α : Type} {b : Bool} {x y : α} (hq : (bif b then some x else none) = some y) : b = true ∧ x = y := by
  cases b with
  | false => cases hq
  | true => cases hq; exact ⟨rfl, rfl⟩
theorem am_bifo {α : Type} {b : Bool} {x : Option α} {y : α} (hq : (bif b then x else none) = some y) : b = true ∧ x = some y := by
  cases b with
  | false => cases hq
  | true => exact ⟨rfl, hq⟩
theorem am_just0 {own : String} {kk ci f : Nat} {z : Int} (hj : am_just P own kk (0, ci, f, z)) : ∃ (C : String) (T : u_T) (N : Nat) (ty : FieldType) (zn : Nat), am_cl[ci]? = some (C, T, N) ∧ f < N ∧ Cond.fieldLink own kk (T f).1 (T f).2.1 (T f).2.2.1 ∈ am_good ∧ parseFieldDescriptor (T f).2.2.1 = some ty ∧ z = .ofNat zn ∧ am_tyk ty = zn % 4 ∧ ((T f).2.2.2 = true → ((T f).1 = own ∧ ¬ zn ≤ 3) ∨ ¬ zn ≤ 7) := hj
theorem am_just8 {own : String} {kk a b : Nat} {z : Int} (hj : am_just P own kk (8, a, b, z)) : Cond.fieldLink own kk "java/lang/String" "value" "[B" ∈ am_good := hj
theorem am_just9 {own : String} {kk a b : Nat} {z : Int} (hj : am_just P own kk (9, a, b, z)) : Cond.fieldLink own kk "java/lang/String" "coder" "B" ∈ am_good := hj
theorem am_tys_i (t : Nat) (x : ClassId × FieldType) (hx : (am_tys E)[t]? = some x) (hK : va_K (am_D E) am_cl (am_tys E) s) : ArrOfT s x.1 x.2 := (hK.2 t x hx).1
theorem am_bald {t n0 : Nat} {f : Nat → Value} {A : Nat → Prop} {i : Int32} {rest : List Value} {x : Int32} (hexec : p.tables.exec = Jvm.exec) (hb : c.code = cc) (hT : va_T .byte t n0 f A s s.heap) (hS : va_S A s.heap H locs) (hin : vp_in i n0) (hf : f i.toNatClampNeg = .int x) (hdg : decode cc pc = .ok (.baload, 1))
    (kk : W p l e R s m args below meth c H locs cells slots Q (F0 m (pc + 1) ls (.int x :: rest))) : W p l e R s m args below meth c H locs cells slots Q (F0 m pc ls (.int i :: .ref t :: rest)) := by
  obtain ⟨cell, h1, h2, h3, h4, h5, h6, h7⟩ := hT.kept hS.2.1
  have hlt : i.toNatClampNeg < n0 := Nat.not_le.mp fun q => hin (Or.inr q)
  refine W.bald (v := .int x) hexec hb h1 h2 h3 (fun z => ?_) (by rw [h6 _ hlt, hf]) rfl rfl hdg kk
  rcases z with z | z
  · exact hin (Or.inl z)
  · omega
theorem am_blen {t n0 : Nat} {f : Nat → Value} {A : Nat → Prop} {rest : List Value} (hexec : p.tables.exec = Jvm.exec) (hb : c.code = cc) (hT : va_T .byte t n0 f A s s.heap) (hS : va_S A s.heap H locs) (hdg : decode cc pc = .ok (.arraylength, 1))
    (kk : W p l e R s m args below meth c H locs cells slots Q (F0 m (pc + 1) ls (.int (Int32.ofNat n0) :: rest))) : W p l e R s m args below meth c H locs cells slots Q (F0 m pc ls (.ref t :: rest)) := by
  obtain ⟨cell, h1, h2, h3, h4, h5, h6, h7⟩ := hT.kept hS.2.1
  exact W.alen (n := Int32.ofNat n0) hexec hb h1 h2 h5 rfl rfl hdg kk
theorem am_ald {rest : List Value} {ws : va_W} {D : va_G} {cl : List vw_C} {tys : List (ClassId × FieldType)} {a : Nat} (hexec : p.tables.exec = Jvm.exec) (hb : c.code = cc) (hK : va_K D cl tys s) (hP : va_P D cl ws H) (q0 t0 : Nat) {cA : ClassId} {ty : FieldType} {n : Nat} {f : Nat → Option Nat} (ha : ws[q0]? = some (a, .inl (cA, n, .inr (.inr (.inr (.inr f)))))) (ht : tys[t0]? = some (cA, ty)) (hty : ty.isReference = true) {i : Int32} (hin : vp_in i n) (hdg : decode cc pc = .ok (.aaload, 1))
    (kk : W p l e R s m args below meth c H locs cells slots Q (F0 m (pc + 1) ls (va_rf (f i.toNatClampNeg) :: rest))) : W p l e R s m args below meth c H locs cells slots Q (F0 m pc ls (.int i :: .ref a :: rest)) := by
  have hlt : i.toNatClampNeg < n := Nat.not_le.mp fun q => hin (Or.inr q)
  exact W.aald (v := va_rf (f i.toNatClampNeg)) hexec hb (hP q0 _ ha) ((hK.2 t0 _ ht).1 n (fun j => va_rf (f j))) hty (fun q => by cases q) (by show ¬ (i < 0 ∨ (arrV _ _ _).slots.size ≤ _); rw [arrV_size]; exact hin) (by show (arrV _ _ _).slots[_]? = _; rw [arrV_read _ _ hlt]) rfl rfl hdg kk
theorem am_rf (r : Option Nat) : va_rf (r.map (am_ad E)) = am_v E (va_rf r) := by cases r <;> rfl
theorem am_sim_read (hx : p.tables.exec = Jvm.exec) (hb : c.code = cc) (hown : s.vm.findClass (am_cn oc) = some m.cls) (hts : ∀ w ∈ am_good, w.before args s = true) (hG : am_G E S s) (hS : va_S (fun q => am_sz E ≤ q) s.heap H locs) (hP : am_P E h H) (hCP : ∀ k r, CP oc k = some r → am_just P (am_cn oc) k r)
    (hdg : decode cc pc = .ok (ins, len)) (hn : am_len ins len = true) (ha : am_read CP S am_byt oc h ins st = some st')
    (k : W p l e R s m args below meth c H locs cells slots Q (F0 m (pc + len) ls (st'.map (am_v E)))) : W p l e R s m args below meth c H locs cells slots Q (F0 m pc ls (st.map (am_v E))) := by
  obtain ⟨hK, -, -, hX, hbz, hV, -, hsz, -⟩ := hG
  unfold am_read at ha
  split at ha
  · obtain rfl := am_len1 hn
    split at ha
    · rename_i hc
      split at ha
      · rename_i c1 fs hcell
        obtain ⟨q, rfl, hq⟩ := am_cell_some hcell
        obtain ⟨hbq, ha⟩ := am_bifo ha
        have hbq := am_len1 hbq
        obtain ⟨w, h1, h2⟩ := Option.map_eq_some_iff.mp ha
        subst h2
        obtain ⟨C, T, N, ty, zn, j1, j2, j3, -⟩ := am_just0 (hCP _ _ hc)
        rw [← hbq] at j1
        exact va_get hx hb hts (am_okC c1 _ j1).1 hown hK hP.2 q (am_ws_some hq) j1 _ j2 (hts _ j3) (fun _ y => y) (v := am_v E w) (by rw [List.getElem?_map, ← am_nth_eq, h1]; rfl) hdg k
      · cases ha
    · rename_i hc
      split at ha
      · cases ha
        exact vk_getf hx hb (hV.1 0 (by decide)).2.2.1 hS hown (hts _ (am_just8 (hCP _ _ hc))) (fun _ y => y) hdg k
      · cases ha
        exact vk_getf hx hb (hV.1 1 (by decide)).2.2.1 hS hown (hts _ (am_just8 (hCP _ _ hc))) (fun _ y => y) hdg k
      · cases ha
    · rename_i hc
      split at ha
      · cases ha
        exact vk_getf hx hb (hV.1 0 (by decide)).2.1 hS hown (hts _ (am_just9 (hCP _ _ hc))) (fun _ y => y) hdg k
      · cases ha
        exact vk_getf hx hb (hV.1 1 (by decide)).2.1 hS hown (hts _ (am_just9 (hCP _ _ hc))) (fun _ y => y) hdg k
      · cases ha
    · cases ha
  · obtain ⟨hq, rfl⟩ := am_bif ha
    obtain rfl := am_len1 hn
    exact va_sld hx hb hX (Nat.lt_of_lt_of_le hbz hsz) (Nat.not_le.mpr hbz) hS (am_in_iff hq) hdg k
  · split at ha
    · rename_i hc
      obtain ⟨hq, rfl⟩ := am_bif ha
      obtain rfl := am_len1 hn
      exact va_iald hx hb hK hP.2 _ 0 (am_ws_some hc) rfl (am_in_iff hq) hdg k
    · cases ha
  · split at ha
    · rename_i hc
      obtain ⟨hq, rfl⟩ := am_bif ha
      obtain rfl := am_len1 hn
      exact va_lald hx hb hK hP.2 _ 1 (am_ws_some hc) rfl (am_in_iff hq) hdg k
    · cases ha
  · obtain ⟨hq, rfl⟩ := am_bif ha
    obtain rfl := am_len1 hn
    exact am_bald (n0 := am_sl.getD 0 0) hx hb (hV.1 0 (by decide)).2.2.2 hS (am_in_iff hq) rfl hdg k
  · obtain ⟨hq, rfl⟩ := am_bif ha
    obtain rfl := am_len1 hn
    exact am_bald (n0 := am_sl.getD 1 0) hx hb (hV.1 1 (by decide)).2.2.2 hS (am_in_iff hq) rfl hdg k
  · split at ha
    · rename_i hc
      obtain ⟨hq, rfl⟩ := am_bif ha
      obtain rfl := am_len1 hn
      exact va_zald hx hb hK hP.2 _ 2 (am_ws_some hc) rfl (am_in_iff hq) hdg k
    · cases ha
  · split at ha
    · rename_i hc
      obtain ⟨hq, rfl⟩ := am_bif ha
      obtain rfl := am_len1 hn
      rw [Bool.and_eq_true, Bool.or_eq_true] at hq
      obtain ⟨q1, q2⟩ := hq
      rcases q2 with q2 | q2
      · have q2 := am_len1 q2
        subst q2
        refine am_ald hx hb hK hP.2 _ 3 (am_ws_some hc) rfl rfl (am_in_iff q1) hdg ?_
        rw [am_rf]
        exact k
      · have q2 := am_len1 q2
        subst q2
        refine am_ald hx hb hK hP.2 _ 4 (am_ws_some hc) rfl rfl (am_in_iff q1) hdg ?_
        rw [am_rf]
        exact k
    · cases ha
  · cases ha; obtain rfl := am_len1 hn
    exact va_slen hx hb hX (Nat.lt_of_lt_of_le hbz hsz) (Nat.not_le.mpr hbz) hS hdg k
  · cases ha; obtain rfl := am_len1 hn
    exact am_blen hx hb (hV.1 0 (by decide)).2.2.2 hS hdg k
  · cases ha; obtain rfl := am_len1 hn
    exact am_blen hx hb (hV.1 1 (by decide)).2.2.2 hS hdg k
  · split at ha
    · rename_i t n x hc
      obtain ⟨hq, rfl⟩ := am_bif ha
      obtain rfl := am_len1 hn
      · have ht := Nat.le_of_ble_eq_true hq
        have he : (am_a E (n, x)).1 = n := by rcases x with x | x | x | x | x <;> rfl
        match t, ht, hc with
        | 0, _, hc => exact va_alen hx hb hK hP.2 _ 0 (am_ws_some hc) rfl (by rw [he]) hdg k
        | 1, _, hc => exact va_alen hx hb hK hP.2 _ 1 (am_ws_some hc) rfl (by rw [he]) hdg k
        | 2, _, hc => exact va_alen hx hb hK hP.2 _ 2 (am_ws_some hc) rfl (by rw [he]) hdg k
        | 3, _, hc => exact va_alen hx hb hK hP.2 _ 3 (am_ws_some hc) rfl (by rw [he]) hdg k
        | 4, _, hc => exact va_alen hx hb hK hP.2 _ 4 (am_ws_some hc) rfl (by rw [he]) hdg k
    · cases ha
  · cases ha
end SIM3
