/-! From the law's entry: what the machine has at the start, as AM wants it; then the law, out of what the function answers. -/
def R_law : String := "LastWordAtLaw"
def lw_P (b : Addr) (xs : List Int32) (args : Array Value) (s : State) : Prop := args = #[.ref b] ∧ s.IntsAt b xs ∧ xs.length ≤ 3072 ∧ (Jvm.Cond.and given_1 narrow_1).before args s = true
def lw_Q (_ : Array Value) (s : State) (o : Outcome) (t : State) : Prop := o = .returned (some (.int 1)) ∧ Framed s o t [] 600000 7302250
def lw_Z (below : List Frame) (a : Array Value) (s : State) : State → Prop := fun t => ∃ o, t.status = .running ∧ Ended t below o ∧ lw_Q a s o t
/-- the law's own end, with 1 on the stack, nothing written that was there before, its room as the claim has it -/
theorem lw_ret {p : Program} {l : Launch} {e : Env} {s : State} {m : MethodId} {below : List Frame} {meth : Method} {c : Code} {b : Nat} (hx : p.tables.exec = Jvm.exec) (hb : c.code = code) (hr : meth.sig.returnType = ret) (hlocks : meth.locks = false) {pc : Nat} {H : Heap} {ls : Array Slot} (hdg : decode code pc = .ok (.ireturn, 1)) : W p l e room_1 s m #[Value.ref b] below meth c H [] 600000 7302250 (lw_Z below #[Value.ref b] s) (F0 m pc ls [.int 1]) := by
  intro T hT X
  obtain ⟨fs, hret, hrun, hended, hW, hframe⟩ := X.leave (v := some (.int 1)) (hlocks := hlocks) (fun h => by rw [hr] at h; cases h)
  have hmeth' : T.vm.method? m = some meth := X.method'
  refine ⟨T.setFrames fs, ?_, .returned (some (.int 1)), hrun, hended, rfl, ⟨_, rfl⟩, hW, hframe⟩
  jvm_step X.here [X.here.top, hx, hb, hdg, hmeth', hr, ret, narrow_b1]
  (try refine ⟨rfl, ?_⟩); (try refine ⟨rfl, ?_⟩)
  first | (intro acts; rw [hret _ acts rfl rfl rfl]) | rw [hret _ _ rfl rfl rfl]
  exact Steps.refl _
/-- what holds at the law's entry: the machine, the code, the tables' words (any of lw_tbl by 'hts w (by decide +kernel)'), the script of L ints xs at the cell b, what the Statement gives of the start (any of its parts by flat_of_before) -/
def lw_At (p : Program) (s : State) (m : MethodId) (meth : Method) (c : Code) (b L : Nat) (xs : Nat → Int32) : Prop :=
  p.tables.exec = Jvm.exec ∧ c.code = code ∧ meth.sig.returnType = ret ∧ c.maxLocals = 4 ∧ s.vm.findClass R_law = some m.cls ∧ (∀ w ∈ lw_tbl, w.before #[Value.ref b] s = true) ∧ va_X b L xs s s.heap ∧ b < s.heap.size ∧ meth.locks = false ∧ (Jvm.Cond.and given_1 narrow_1).before #[Value.ref b] s = true

theorem st_inst (ci : Nat) (q : vw_C) (hq : am_cl[ci]? = some q) : ∃ n, Cond.instantiable q.1 n ∈ lw_tbl := by
  match ci, hq with
  | 0, hq => cases hq; exact ⟨8, by decide +kernel⟩
  | 1, hq => cases hq; exact ⟨2, by decide +kernel⟩
  | 2, hq => cases hq; exact ⟨4, by decide +kernel⟩
  | 3, hq => cases hq; exact ⟨3, by decide +kernel⟩
  | 4, hq => cases hq; exact ⟨8, by decide +kernel⟩
  | 5, hq => cases hq; exact ⟨5, by decide +kernel⟩
  | 6, hq => cases hq; exact ⟨3, by decide +kernel⟩
  | 7, hq => cases hq; exact ⟨6, by decide +kernel⟩
  | 8, hq => cases hq; exact ⟨4, by decide +kernel⟩
  | 9, hq => cases hq; exact ⟨7, by decide +kernel⟩
  | 10, hq => cases hq; exact ⟨33, by decide +kernel⟩
  | k + 11, hq => simp [am_cl] at hq
theorem st_nw : am_nw.all (fun w => lw_tbl.contains w) = true := by decide +kernel
def st_tm (i : Nat) : Term := if i = 0 then .string "LastWordAt$Tape" 57 else .string "LastWordAt$Tape" 76
def st_e0 (j : Nat) : Cond := (Cond.eq (.elem (.field (.string "LastWordAt$Tape" 57) "java/lang/String" "value" "[B") (.int (Int32.ofNat j))) (.int ((am_sb.getD 0 []).getD j 0)))
def st_e1 (j : Nat) : Cond := (Cond.eq (.elem (.field (.string "LastWordAt$Tape" 76) "java/lang/String" "value" "[B") (.int (Int32.ofNat j))) (.int ((am_sb.getD 1 []).getD j 0)))
def st_fl : List Cond := flatC (Jvm.Cond.and given_1 narrow_1)
theorem st_f0 : (st_fl.drop 13).take 163 = (List.range 163).map st_e0 := by decide +kernel
theorem st_f1 : (st_fl.drop 180).take 12 = (List.range 12).map st_e1 := by decide +kernel
theorem st_el0 (j : Nat) (hj : j < 163) : st_e0 j ∈ flatC (Jvm.Cond.and given_1 narrow_1) := by
  have h : st_e0 j ∈ (st_fl.drop 13).take 163 := by
    rw [st_f0]
    exact List.mem_map.mpr ⟨j, List.mem_range.mpr hj, rfl⟩
  exact List.mem_of_mem_drop (List.mem_of_mem_take h)
theorem st_el1 (j : Nat) (hj : j < 12) : st_e1 j ∈ flatC (Jvm.Cond.and given_1 narrow_1) := by
  have h : st_e1 j ∈ (st_fl.drop 180).take 12 := by
    rw [st_f1]
    exact List.mem_map.mpr ⟨j, List.mem_range.mpr hj, rfl⟩
  exact List.mem_of_mem_drop (List.mem_of_mem_take h)
theorem st_arr {args : Array Value} {s : State} {ty : FieldType} (h : (Cond.arrayClass ty).before args s = true) : ∃ cA : ClassId, ArrOfT s cA ty ∧ s.vm.findClass ("[" ++ ty.toString) = some cA := by
  obtain ⟨c, k, comp, h1, h2, h3⟩ := Cond.arrayClass_spec h
  exact ⟨c, fun N z => ⟨fun k h => (by cases h), k, h2, comp, h3⟩, h1⟩
set_option maxRecDepth 100000 in
set_option maxHeartbeats 4000000 in
theorem st_G {s : State} {b L : Nat} {xs : Nat → Int32} (hts : ∀ w ∈ lw_tbl, w.before #[Value.ref b] s = true) (hX : va_X b L xs s s.heap) (hbl : b < s.heap.size) (hgv : (Jvm.Cond.and given_1 narrow_1).before #[Value.ref b] s = true) : ∃ E : am_E, am_b E = b ∧ am_sz E = s.heap.size ∧ am_G E (L, xs) s := by
  have hs := flat_of_before _ hgv
  have hA : ∀ a : Nat, a < s.heap.size → ¬ (fun q : Nat => s.heap.size ≤ q) a := fun a h => Nat.not_le.mpr h
  have hc : ∀ ci : Nat, ∃ p : ClassId × (Nat → Nat), ∀ q : vw_C, am_cl[ci]? = some q → u_Kn s q.1 q.2.1 q.2.2 p.1 p.2 := by
    intro ci
    cases hq : am_cl[ci]? with
    | none => exact ⟨(0, fun _ => 0), fun q h => by cases h⟩
    | some q =>
      obtain ⟨n, hn⟩ := st_inst ci q hq
      obtain ⟨c, i, hk⟩ := u_known hts (fun w hw => am_good_in ((am_okC ci q hq).1 w hw)) (hts _ hn)
      exact ⟨(c, i), fun q' h => by cases h; exact hk⟩
  obtain ⟨dd, hd⟩ := Classical.axiomOfChoice hc
  obtain ⟨c0, a0, f0⟩ := st_arr (hts _ (am_good_in am_ac0))
  obtain ⟨c1, a1, f1⟩ := st_arr (hts _ (am_good_in am_ac1))
  obtain ⟨c2, a2, f2⟩ := st_arr (hts _ (am_good_in am_ac2))
  have hO : va_AO "LastWordAt$Script" s := va_AO.of (hts (.arrayOver (.object "LastWordAt$Script")) (by decide +kernel))
  have hI : am_AOI s := hts (.arrayOver (.array .int)) (by decide +kernel)
  obtain ⟨p3, c3, k3, h31, h32, h33, h34, h35⟩ := Cond.arrayOver_spec hO
  obtain ⟨p4, c4, k4, h41, h42, h43, h44, h45⟩ := arrayOverA_spec hI
  obtain ⟨adK, adV, hS, hE⟩ := vk_Sof (args := #[Value.ref b]) (s := s) (N := 2) (tm := st_tm) (len := am_sl) (byt := am_sb) (A := fun q : Nat => s.heap.size ≤ q)
    (by decide)
    (fun i hi => by rcases (show i = 0 ∨ i = 1 by omega) with rfl | rfl <;> exact hs _ (by decide +kernel))
    (fun i hi => by rcases (show i = 0 ∨ i = 1 by omega) with rfl | rfl <;> exact hs _ (by decide +kernel))
    (fun i hi => by rcases (show i = 0 ∨ i = 1 by omega) with rfl | rfl <;> exact hs _ (by decide +kernel))
    (fun i hi => by rcases (show i = 0 ∨ i = 1 by omega) with rfl | rfl <;> exact hs _ (by decide +kernel))
    (fun i hi j hj => by
      rcases (show i = 0 ∨ i = 1 by omega) with rfl | rfl
      · exact hs _ (st_el0 j hj)
      · exact hs _ (st_el1 j hj))
    (fun i j hi hj hij => by
      rcases (show i = 0 ∨ i = 1 by omega) with rfl | rfl
      · rcases (show j = 1 by omega) with rfl
        first | exact Or.inl (hs _ (by decide +kernel)) | exact Or.inr (hs _ (by decide +kernel))
      · rcases (show j = 0 by omega) with rfl
        first | exact Or.inl (hs _ (by decide +kernel)) | exact Or.inr (hs _ (by decide +kernel)))
    hA
  have hZ : va_Z "java/lang/String" "COMPACT_STRINGS" "Z" (.int 1) (fun q : Nat => s.heap.size ≤ q) s s.heap := va_Zof (args := #[Value.ref b]) (hts (.laysStatic "java/lang/String" "COMPACT_STRINGS" "Z") (by decide +kernel)) (hts (.initialized "java/lang/String") (by decide +kernel)) (va_eqi (hs _ (by decide +kernel))) hA
  have hQ : va_Zq "jdk/internal/util/Preconditions" "SIOOBE_FORMATTER" "Ljava/util/function/BiFunction;" (fun q : Nat => s.heap.size ≤ q) s s.heap := va_Zqof (args := #[Value.ref b]) (hts (.laysStatic "jdk/internal/util/Preconditions" "SIOOBE_FORMATTER" "Ljava/util/function/BiFunction;") (by decide +kernel)) (hts (.initialized "jdk/internal/util/Preconditions") (by decide +kernel)) (hs _ (by decide +kernel)) hA
  obtain ⟨fo, hF⟩ : ∃ fo : Option Nat, va_Z "jdk/internal/util/Preconditions" "SIOOBE_FORMATTER" "Ljava/util/function/BiFunction;" (va_rf fo) (fun q : Nat => s.heap.size ≤ q) s s.heap := by
    rcases hQ with h | ⟨t, h⟩
    · exact ⟨none, h⟩
    · exact ⟨some t, h⟩
  refine ⟨((fun ci => (dd ci).1, fun ci => (dd ci).2), (fun t => if t = 0 then c0 else if t = 1 then c1 else if t = 2 then c2 else if t = 3 then c3 else c4), b, s.heap.size, adK, adV, fo), rfl, rfl, ⟨fun c q hq => hd c q hq, fun k q hq => ?_⟩, fun w hw => ?_, fun i q hq => ?_, hX, hbl, hS, hZ, Nat.le_refl _, hO, hI, hF⟩
  · match k, hq with
    | 0, hq => cases hq; exact ⟨a0, f0⟩
    | 1, hq => cases hq; exact ⟨a1, f1⟩
    | 2, hq => cases hq; exact ⟨a2, f2⟩
    | 3, hq => cases hq; exact ⟨fun N z => ⟨(fun k h => by cases h), k3, h33, p3, h34⟩, k3, p3, h33, h34, h31, h35⟩
    | 4, hq => cases hq; exact ⟨fun N z => ⟨(fun k h => by cases h), k4, h43, p4, h44⟩, h45⟩
    | k + 5, hq => simp at hq
  · have h1 : lw_tbl.contains w = true := List.all_eq_true.mp st_nw w hw
    have h2 : w ∈ lw_tbl := by simpa using h1
    obtain ⟨q, -, rfl⟩ := List.mem_map.mp hw
    exact va_Nw.of rfl (hts _ h2)
  · match i, hq with
    | 0, hq => cases hq; exact vk_R.of (hts (.stringRef "LastWordAt$Tape" 57 _) (by decide +kernel)) (hE 0 (by decide))
    | 1, hq => cases hq; exact vk_R.of (hts (.stringRef "LastWordAt$Tape" 76 _) (by decide +kernel)) (hE 1 (by decide))
    | k + 2, hq => simp [am_str] at hq
set_option maxRecDepth 100000 in
set_option maxHeartbeats 4000000 in
/-- the law's walk out of the function's answer -/
theorem st_whole {p : Program} {e : Env} {s : State} {m : MethodId} {below : List Frame} {meth : Method} {c : Code} (l : Launch) {b L : Nat} {xs : Nat → Int32} (C0 : lw_At p s m meth c b L xs) (hlaw : ∃ (N : Nat) (im2 M' : Mem), f_m_copy_130_131 N im1 = some im2 ∧ f_law (L, xs) N im2 = some (1, M')) : W p l e room_1 s m #[Value.ref b] below meth c s.heap [] 0 0 (lw_Z below #[Value.ref b] s) (entryFrame m ([Value.ref b] : List Value).toArray 4) := by
  obtain ⟨hx, hb, hr, hml, hown, hts, hX, hbl, hlocks, hgv⟩ := id C0
  obtain ⟨E, eb, ez, hG⟩ := st_G hts hX hbl hgv
  obtain ⟨N, im2, M', h1, h2⟩ := hlaw
  obtain ⟨n, hn⟩ := t_start (S := (L, xs)) N im2 h1 1 M' h2
  have hl := lv_entry ([.ref b]) (n := 4) (Nat.le_of_ble_eq_true rfl)
  rw [lg_entry_eq]
  generalize (lg_sl ([.ref b]) ++ List.replicate (4 - (lg_sl ([.ref b])).length) Slot.unset).toArray = ls at hl ⊢
  have hl : lv_has ls 4 (am_lv E [(0, .ref 0)]) := by
    show lv_has ls 4 [(0, .ref (am_b E))]
    rw [eb]
    exact hl
  have hP0 : am_P E [] s.heap := ⟨by rw [ez]; rfl, fun k q h => by simp [am_ws, am_wsF] at h⟩
  have hS0 : va_S (fun q => am_sz E ≤ q) s.heap s.heap [] := va_S.rf
  refine am_sound am_okCP am_okP n 68 139 18715 am_ML 0 [(0, .ref 0)] [] [] (some (.int 1)) (hp M') hn (am_chk_ok am_KL) p e room_1 s m _ below meth c s.heap [] 0 0 _ ls hx hb hml hl hown (fun w hw => hts w (am_good_in hw)) hG hS0 hP0 (fun h => absurd h (by decide)) (by decide +kernel) (by decide +kernel) (by decide +kernel) (by decide +kernel) ?_
  intro ins len pc ls H locs cells slots st hdg hlen hret hP hS hc hs
  refine va_forget (fun q hq => ?_) ?_
  · have := hS.2.2 q hq
    rw [← ez]
    exact this
  refine W.widen (k := 600000) (n := 7302250) hc hs ?_
  change am_ret (some .boolean) ins st = _ at hret
  unfold am_ret at hret
  split at hret
  all_goals first
    | (rename_i hrt; cases hrt; done)
    | (cases hret; done)
    | skip
  all_goals (try (rename_i hrt _; cases hrt))
  · split at hret
    · cases hret
      obtain rfl := am_len1 hlen
      exact lw_ret hx hb hr hlocks hdg
    · cases hret
