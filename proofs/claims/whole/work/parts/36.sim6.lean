/-! All writes; one step. -/
section SIM6
variable {p : Program} {l : Launch} {e : Env} {R : Room} {s : State} {m : MethodId} {args : Array Value} {below : List Frame} {meth : Method} {c : Code} {H : Heap} {locs : List Loc} {cells slots : Nat} {Q : State → Prop}
variable {cc : ByteArray} {pc len nL oc : Nat} {ls : Array Slot} {E : am_E} {S : Nat × (Nat → Int32)} {ins : Instr} {lv lv' : am_L} {st st' : List Value} {h h' : am_H} {v : Value} {P : Nat → Option am_Mth} {CP : Nat → Nat → Option am_R} {isI : Bool}
theorem am_sim_write (hx : p.tables.exec = Jvm.exec) (hb : c.code = cc) (hml : c.maxLocals = nL) (hls : ls.size = nL) (hown : s.vm.findClass (am_cn oc) = some m.cls) (hts : ∀ w ∈ am_good, w.before args s = true) (hG : am_G E S s) (hS : va_S (fun q => am_sz E ≤ q) s.heap H locs) (hP : am_P E h H) (hCP : ∀ k r, CP oc k = some r → am_just P (am_cn oc) k r) (hI : isI = true → meth.name = "<init>") (hfr : 1 ≤ R.frames) (hlo : 60 ≤ R.locals)
    (hdg : decode cc pc = .ok (ins, len)) (hn : am_len ins len = true) (ha : am_write CP oc isI h ins st = some (st', h'))
    (k : ∀ (H1 : Heap) (locs1 : List Loc), am_P E h' H1 → va_S (fun q => am_sz E ≤ q) s.heap H1 locs1 → W p l e R s m args below meth c H1 locs1 cells slots Q (F0 m (pc + len) ls (st'.map (am_v E)))) : W p l e R s m args below meth c H locs cells slots Q (F0 m pc ls (st.map (am_v E))) := by
  obtain ⟨hK, -⟩ := hG
  have hA : ∀ k : Nat, am_sz E ≤ am_sz E + k := fun k => Nat.le_add_right _ _
  unfold am_write at ha
  split at ha
  · obtain rfl := am_len1 hn
    split at ha
    · rename_i hc
      split at ha
      · rename_i c1 fs hcell
        obtain ⟨q, rfl, hq⟩ := am_cell_some hcell
        obtain ⟨hbq, ha⟩ := am_bif ha
        cases ha
        simp only [Bool.and_eq_true] at hbq
        obtain ⟨b1, ⟨b2, b3⟩, b4⟩ := hbq
        have b1 := am_len1 b1
        obtain ⟨C, T, N, ty, zn, j1, j2, j3, j4, j5, j6, j7⟩ := am_just0 (hCP _ _ hc)
        have j5 := Int.ofNat.inj j5
        subst j5
        rw [← b1] at j1
        refine am_putW hx hb hts hown hK hP hS hq j1 j2 (hts _ j3) (fun hfin => ?_) j4 (am_fits b2 j6) (Nat.le_of_ble_eq_true b4) hdg k
        rw [Bool.or_eq_true, Bool.and_eq_true] at b3
        rcases j7 hfin with ⟨f1, f2⟩ | f2
        · refine ⟨f1, hI ?_⟩
          rcases b3 with b3 | b3
          · exact absurd (Nat.le_of_ble_eq_true b3) f2
          · exact b3.1
        · rcases b3 with b3 | b3
          · exact absurd (Nat.le_trans (Nat.le_of_ble_eq_true b3) (by decide)) f2
          · exact absurd (Nat.le_of_ble_eq_true b3.2) f2
      · cases ha
    · cases ha
  · split at ha
    · rename_i hc
      obtain ⟨hq, ha⟩ := am_bif ha
      cases ha
      obtain rfl := am_len1 hn
      refine W.iast hx hb (hP.cellA hc) ((hK.2 0 _ rfl).1 _ (fun j => .int (_))) (fun q => by cases q) (by rw [am_size 0]; exact am_in_iff hq) rfl rfl hdg fun H1 e1 z oq => ?_
      exact k H1 _ (hP.upd hc (c1 := .inl (0, _, .inl _)) (by show H1[_]? = some _; rw [e1]; exact congrArg some (am_seti _ _ _ _ _)) z oq) (hS.put z oq (hA _))
    · cases ha
  · split at ha
    · rename_i hc
      obtain ⟨hq, ha⟩ := am_bif ha
      cases ha
      obtain rfl := am_len1 hn
      refine W.last hx hb (hP.cellA hc) ((hK.2 1 _ rfl).1 _ (fun j => .long (_))) (fun q => by cases q) (by rw [am_size 0]; exact am_in_iff hq) rfl rfl hdg fun H1 e1 z oq => ?_
      exact k H1 _ (hP.upd hc (c1 := .inl (1, _, .inr (.inl _))) (by show H1[_]? = some _; rw [e1]; exact congrArg some (am_setl _ _ _ _ _)) z oq) (hS.put z oq (hA _))
    · cases ha
  · split at ha
    · rename_i hc
      obtain ⟨hq, ha⟩ := am_bif ha
      cases ha
      obtain rfl := am_len1 hn
      rw [Bool.and_eq_true, Bool.or_eq_true] at hq
      obtain ⟨hq, hv⟩ := hq
      refine W.zast hx hb (hP.cellA hc) ((hK.2 2 _ rfl).1 _ (fun j => .int (_))) (fun q => by cases q) (by rw [am_size 0]; exact am_in_iff hq) rfl rfl hdg fun H1 e1 z oq => ?_
      refine k H1 _ (hP.upd hc (c1 := .inl (2, _, .inl _)) ?_ z oq) (hS.put z oq (hA _))
      show H1[_]? = some _
      rw [e1]
      have hnar : ∀ x : Int32, decide (x = 0) = true ∨ decide (x = 1) = true → narrow .boolean (.int x) = .int x := by
        intro x hx
        rcases hx with hx | hx
        · rw [of_decide_eq_true hx]; rfl
        · rw [of_decide_eq_true hx]; rfl
      rw [hnar _ hv]
      exact congrArg some (am_seti _ _ _ _ _)
    · cases ha
  · split at ha
    · rename_i hc hv
      obtain ⟨hq, ha⟩ := am_bif ha
      cases ha
      obtain rfl := am_len1 hn
      have hin := am_in_iff hq
      obtain ⟨r', hr', cellV, g1, g2, g3, -⟩ := hP.2 _ _ (am_ws_some hv)
      have hcls := (hK.1 5 _ rfl).2
      obtain ⟨kA, comp, k1, k2, k3, -⟩ := (hK.2 3 _ rfl).2
      have hcomp : comp = (am_D E).1 5 := Option.some.inj (k3.symm.trans hcls.1)
      subst hcomp
      obtain ⟨kC, hkC, -⟩ := hcls.2
      refine W.aast hx hb (hP.cellA hc) (fun q hh => by cases hh) (fun hh => by cases hh) k1 k2 rfl hkC ⟨fun q => hin (Or.inl q), by rw [am_size 0]; exact Nat.not_le.mp fun q => hin (Or.inr q)⟩ g1 (fun q hh => by rw [g3] at hh; cases hh) (by rw [g2]; exact hkC) (by rw [g2]; exact va_assign hcls) rfl rfl hdg fun H1 e1 z oq => ?_
      refine k H1 _ (hP.upd hc (c1 := .inl (3, _, .inr (.inr (.inr (.inr _))))) ?_ z oq) (hS.put z oq (hA _))
      show H1[_]? = some _
      rw [e1]
      refine congrArg some ?_
      refine (am_setq _ _ _ _ _).trans ?_
      show vp_cell _ _ = vp_cell _ _
      congr 1
      simp only [am_a]
      congr 5
      funext j
      unfold va_up
      split <;> rfl
    · cases ha
  · split at ha
    · rename_i hc
      cases ha
      obtain rfl := am_len1 hn
      obtain ⟨j1, j2, j3⟩ := am_just6 (hCP _ _ hc)
      exact W.objInit hx hb hown (hts _ j1) (hts _ j2) (hts _ j3) rfl (by rw [hml]; exact hls) rfl hdg hfr (by show 2 * 0 + 0 + 12 ≤ R.locals; omega) (k H locs hP hS)
    · cases ha
  · split at ha
    · rename_i hc
      split at ha
      · rename_i h0 h1
        split at ha
        · rename_i hh
          obtain ⟨q1, q2, q3, q4, q5, rfl⟩ := hh
          cases ha
          obtain rfl := am_len1 hn
          obtain ⟨j1, j2, j3, j4⟩ := am_just7 (hCP _ _ hc)
          exact am_copyWi hx hb (by rw [hml, hls]) hown (hts _ j1) (hts _ j2) (hts _ j3) (hts _ j4) hK hP hS h0 h1 q1 q2 q3 q4 q5 hfr (by omega) hdg k
        · cases ha
      · rename_i h0 h1
        split at ha
        · rename_i hh
          obtain ⟨q1, q2, q3, q4, q5, rfl⟩ := hh
          cases ha
          obtain rfl := am_len1 hn
          obtain ⟨j1, j2, j3, j4⟩ := am_just7 (hCP _ _ hc)
          exact am_copyWl hx hb (by rw [hml, hls]) hown (hts _ j1) (hts _ j2) (hts _ j3) (hts _ j4) hK hP hS h0 h1 q1 q2 q3 q4 q5 hfr (by omega) hdg k
        · cases ha
      · cases ha
    · cases ha
  · cases ha
end SIM6
