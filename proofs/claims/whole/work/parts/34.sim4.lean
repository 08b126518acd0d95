/-! Writes to the heap, with the heap's size. -/
section SIM4
variable {p : Program} {l : Launch} {e : Env} {R : Room} {s : State} {m : MethodId} {args : Array Value} {below : List Frame} {meth : Method} {c : Code} {H : Heap} {locs : List Loc} {cells slots : Nat} {Q : State → Prop}
variable {cc : ByteArray} {pc len nL oc : Nat} {ls : Array Slot} {E : am_E} {S : Nat × (Nat → Int32)} {ins : Instr} {lv lv' : am_L} {st st' : List Value} {h h' : am_H} {v : Value} {P : Nat → Option am_Mth} {CP : Nat → Nat → Option am_R} {isI : Bool}
theorem am_P.upd {k : Nat} {c0 c1 : am_C} {H1 : Heap} (hP : am_P E h H) (hk : am_nth h k = some c0) (he : va_at (am_D E) am_cl (am_sz E + k, am_e E c1) H1) (z : H1.size = H.size) (oq : ∀ q : Nat, q ≠ am_sz E + k → H1[q]? = H[q]?) : am_P E (am_put h k c1) H1 := by
  refine ⟨by rw [z, am_put_len]; exact hP.1, ?_⟩
  show va_P _ _ (am_wsF E (am_sz E) (am_put h k c1)) H1
  rw [am_ws_put]
  exact hP.2.set (am_ws_D E h) (am_ws_some hk) he oq
theorem am_P.cellA {k t : Nat} {a : vp_A} (hP : am_P E h H) (hk : am_nth h k = some (.inl (t, a))) : H[am_sz E + k]? = some (vp_cell (am_cA E t) (am_a E a)) := hP.2 k _ (am_ws_some hk)
theorem am_seti (cA : ClassId) (n j : Nat) (f : Nat → Int32) (x : Int32) : (vp_cell cA (n, .inl f)).setSlot j (.int x) = vp_cell cA (n, .inl (upd f j x)) := by
  rw [vp_cell_i, vp_cell_i, arrV_store]
  congr 1
  funext q
  by_cases hq : q = j
  · subst hq
    simp [updV, upd]
  · simp [updV, upd, hq]
theorem am_setl (cA : ClassId) (n j : Nat) (f : Nat → Int64) (x : Int64) : (vp_cell cA (n, .inr (.inl f))).setSlot j (.long x) = vp_cell cA (n, .inr (.inl (vp_updL f j x))) := by
  rw [vp_cell_l, vp_cell_l, arrV_store]
  congr 1
  funext q
  by_cases hq : q = j
  · subst hq
    simp [updV, vp_updL]
  · simp [updV, vp_updL, hq]
theorem am_setq (cA : ClassId) (n j : Nat) (f : Nat → Option Nat) (x : Nat) : (vp_cell cA (n, .inr (.inr (.inr (.inr f))))).setSlot j (.ref x) = vp_cell cA (n, .inr (.inr (.inr (.inr (va_up f j (some x)))))) := by
  rw [vp_cell_q, vp_cell_q, arrV_store]
  congr 1
  funext q
  by_cases hq : q = j
  · subst hq
    simp [updV, va_up, va_rf]
  · simp [updV, va_up, hq]
theorem am_size (n : Nat) (cA : ClassId) (x : vp_A) : (vp_cell cA x).slots.size = x.1 := by
  obtain ⟨n, f | f | f | f | f⟩ := x
  · exact arrV_size _ _ _
  · exact arrV_size _ _ _
  · exact arrV_size _ _ _
  · exact arrV_size _ _ _
  · exact arrV_size _ _ _
theorem am_fits {z : Nat} {ty : FieldType} (hf : am_fit z v = true) (ht : am_tyk ty = z) : narrow ty (am_v E v) = am_v E v ∧ fits ty (am_v E v) = true := by
  unfold am_fit at hf
  split at hf
  · cases ty <;> simp_all [am_tyk, am_v, narrow, fits]
  · cases ty <;> simp_all [am_tyk, am_v, narrow, fits]
  · cases ty <;> simp_all [am_tyk]
    rcases hf with rfl | rfl
    · exact (by decide : narrow .boolean (.int 0) = .int 0 ∧ fits .boolean (.int 0) = true)
    · exact (by decide : narrow .boolean (.int 1) = .int 1 ∧ fits .boolean (.int 1) = true)
  · cases ty <;> simp_all [am_tyk, am_v, narrow, fits]
  · cases ty <;> simp_all [am_tyk, am_v, narrow, fits]
  · cases hf
theorem am_putW {own C : String} {T : u_T} {N ci index k f0 : Nat} {rest : List Value} {fs : List Value} {ty : FieldType} (hx : p.tables.exec = Jvm.exec) (hb : c.code = cc) (hts : ∀ w ∈ am_good, w.before args s = true) (hown : s.vm.findClass own = some m.cls) (hK : va_K (am_D E) am_cl (am_tys E) s) (hP : am_P E h H) (hS0 : va_S (fun q => am_sz E ≤ q) s.heap H locs)
    (hk : am_nth h k = some (.inr (ci, fs))) (hc : am_cl[ci]? = some (C, T, N)) (hf : f0 < N) (hlink : (Cond.fieldLink own index (T f0).1 (T f0).2.1 (T f0).2.2.1).before args s = true) (hfin : (T f0).2.2.2 = true → (T f0).1 = own ∧ meth.name = "<init>") (hd : parseFieldDescriptor (T f0).2.2.1 = some ty) (hfit : narrow ty (am_v E v) = am_v E v ∧ fits ty (am_v E v) = true) (hl : f0 < fs.length) (hdg : decode cc pc = .ok (.putfield index, 3))
    (kk : ∀ (H1 : Heap) (locs1 : List Loc), am_P E (am_put h k (.inr (ci, am_put fs f0 v))) H1 → va_S (fun q => am_sz E ≤ q) s.heap H1 locs1 → W p l e R s m args below meth c H1 locs1 cells slots Q (F0 m (pc + 3) ls rest)) : W p l e R s m args below meth c H locs cells slots Q (F0 m pc ls (am_v E v :: .ref (am_sz E + k) :: rest)) := by
  obtain ⟨hin, ⟨ty0, hty⟩, hnm⟩ := am_okC ci _ hc
  have hap := va_apart (own := own) hts hin ty0 hty hnm hK hc
  have he := am_ws_some (E := E) hk
  obtain ⟨r, h1, cell, q1, q2, q3, q4⟩ := hP.2 k _ he
  have hr : r = (C, T, N) := Option.some.inj (h1.symm.trans hc)
  subst hr
  obtain ⟨hS, hfc, kC, hkC, hkind⟩ := hK.1 ci _ hc
  obtain ⟨cf, kf, fi, fd, hi, hsl⟩ := hS f0 hf
  have hst := (u_facts hfc hkC (u_lays hts hin hf) hi).1
  have fin : ∀ H' : Heap, H'[am_sz E + k]? = some (cell.setSlot fd.slot (am_v E v)) → H'.size = H.size → (∀ q, q ≠ am_sz E + k → H'[q]? = H[q]?) → W p l e R s m args below meth c H' (locs ++ [⟨am_sz E + k, fd.slot⟩]) cells slots Q (F0 m (pc + 3) ls rest) := by
    intro H' e1 e2 e3
    rw [hsl] at e1 ⊢
    refine kk H' _ (hP.upd hk ?_ e2 e3) (hS0.put e2 e3 (show am_sz E ≤ am_sz E + k from Nat.le_add_right _ _))
    refine ⟨_, hc, ?_⟩
    rw [am_put_eq, List.map_set]
    exact t_OB.to (V := updV (vp_V (fs.map (am_v E))) f0 (am_v E v)) ⟨_, e1, q2, q3, t_set q4 hap hf (am_v E v)⟩ (fun j _ => vp_updV_set (by rw [List.length_map]; exact hl) (am_v E v) j)
  have hlay := hts _ (hin _ (u_in_lay hf))
  unfold u_lay at hlay
  cases hfq : (T f0).2.2.2 with
  | false =>
    rw [if_neg (by rw [hfq]; decide)] at hlay
    have h6 := u_store hfc hkC hkind hlay hi hd hfit.1 hfit.2
    exact W.putK hx hb (f := fd) ⟨hown, hlink, ⟨_, _, _, hi⟩, hst⟩ (by rw [q2]; exact h6) q1 q3 (by rw [hsl]; exact k2_hasslot (q4 f0 hf)) rfl rfl hdg fin
  | true =>
    rw [if_pos hfq] at hlay
    obtain ⟨hdecl, hin2⟩ := hfin hfq
    have hcf : m.cls = cf := by
      obtain ⟨_, _, c', _, _, _, -, -, hf', -, -, -, hown2, -⟩ := Cond.laysFinal_spec hlay
      have e1 : c' = cf := by have := hi.symm.trans hf'; simp at this; exact this.1.symm
      rw [hdecl] at hown2
      rw [← e1]; exact Option.some.inj (hown.symm.trans hown2)
    have h6 := u_fits hfc hkC hkind (Or.inr hlay) hi hd hfit.1 hfit.2
    exact W.putFinK hx hb hown hlink hi hst hcf hin2 (by rw [q2]; exact h6) q1 q3 (by rw [hsl]; exact k2_hasslot (q4 f0 hf)) rfl rfl hdg fin
end SIM4
