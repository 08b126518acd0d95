/-! A step; a run. -/
abbrev am_isI (M : am_Mth) : Bool := (am_name M).name == "<init>"
section EX
variable (P : Nat → Option am_Mth) (CP : Nat → Nat → Option am_R) (S : Nat × (Nat → Int32))
def am_pop : Nat → List Value → List Value → Option (List Value × List Value)
  | 0, acc, st => some (acc, st)
  | n + 1, acc, v :: r => am_pop n (v :: acc) r
  | _ + 1, _, [] => none
/-- what a return gives -/
def am_ret : Option FieldType → Instr → List Value → Option (Option Value)
  | none, .return_, [] => some none
  | some .int, .ireturn, [.int x] => some (some (.int x))
  | some .boolean, .ireturn, [.int x] => if x = 0 ∨ x = 1 then some (some (.int x)) else none
  | some .char, .ireturn, [.int x] => if narrow .char (.int x) = .int x then some (some (.int x)) else none
  | some .byte, .ireturn, [.int x] => if narrow .byte (.int x) = .int x then some (some (.int x)) else none
  | some .long, .lreturn, [.long x] => some (some (.long x))
  | some (.object _), .areturn, [.ref x] => some (some (.ref x))
  | some (.object _), .areturn, [.null] => some (some .null)
  | _, _, _ => none
/-- is the receiver of the class -/
def am_rcv (h : am_H) (oc : Nat) : List Value → Bool
  | .ref 1 :: _ => Nat.beq oc 13
  | .ref 2 :: _ => Nat.beq oc 13
  | .ref (a + 5) :: _ => match am_nth h a with
    | some (.inr (c, _)) => Nat.beq c oc
    | _ => false
  | _ => false
def am_isref : List Value → Bool
  | .ref _ :: _ => true
  | _ => false
def am_fitA (M : am_Mth) (as rest : List Value) : Bool := Nat.ble (lg_sl as).length (am_maxL M) && Nat.ble (rest.map fun v => v.category).sum 16
/-- a call: whom, with what, what stays on the stack -/
def am_inv (oc : Nat) (h : am_H) : Instr → List Value → Option (am_Mth × List Value × List Value)
  | .invokevirtual k, st => match CP oc k with
    | some (1, j, _, _) => match P j with
      | some M => match am_pop (am_na M) [] st with
        | some (as, rest) => bif am_rcv h (am_oc M) as && am_fitA M as rest then some (M, as, rest) else none
        | none => none
      | none => none
    | _ => none
  | .invokestatic k, st => match CP oc k with
    | some (13, j, _, _) => match P j with
      | some M => match am_pop (am_na M) [] st with
        | some (as, rest) => bif am_fitA M as rest then some (M, as, rest) else none
        | none => none
      | none => none
    | _ => none
  | .invokespecial k, st => match CP oc k with
    | some (14, j, _, _) => match P j with
      | some M => match am_pop (am_na M) [] st with
        | some (as, rest) => bif am_isref as && am_fitA M as rest then some (M, as, rest) else none
        | none => none
      | none => none
    | _ => none
  | _, _ => none
/-- new cells: which, what stays on the stack, how many slots -/
def am_make (oc : Nat) (h : am_H) : Instr → List Value → Option (List am_C × List Value × Nat)
  | .new k, st => match CP oc k with
    | some (2, ci, _, _) => some ([.inr (ci, am_df ci)], st, (am_df ci).length)
    | _ => none
  | .newarray .int, .int n :: r => if ¬ n < 0 ∧ n.toNatClampNeg ≤ 100000 then some ([.inl (0, n.toNatClampNeg, .inl (fun _ => 0))], r, n.toNatClampNeg) else none
  | .newarray .long, .int n :: r => if ¬ n < 0 ∧ n.toNatClampNeg ≤ 100000 then some ([.inl (1, n.toNatClampNeg, .inr (.inl (fun _ => 0)))], r, n.toNatClampNeg) else none
  | .newarray .boolean, .int n :: r => if ¬ n < 0 ∧ n.toNatClampNeg ≤ 100000 then some ([.inl (2, n.toNatClampNeg, .inl (fun _ => 0))], r, n.toNatClampNeg) else none
  | .anewarray k, .int n :: r => match CP oc k with
    | some (2, 5, _, _) => if ¬ n < 0 ∧ n.toNatClampNeg ≤ 100000 then some ([.inl (3, n.toNatClampNeg, .inr (.inr (.inr (.inr (fun _ => none)))))], r, n.toNatClampNeg) else none
    | _ => none
  | .multianewarray k 2, .int q :: .int n :: r => match CP oc k with
    | some (12, _, _, _) => if ¬ n < 0 ∧ ¬ q < 0 ∧ n.toNatClampNeg ≤ 1000 ∧ q.toNatClampNeg ≤ 1000 then some (.inl (4, n.toNatClampNeg, .inr (.inr (.inr (.inr (fun i => if i < n.toNatClampNeg then some (h.length + 6 + i) else none))))) :: List.replicate n.toNatClampNeg (.inl (0, q.toNatClampNeg, .inl (fun _ => 0))), r, n.toNatClampNeg + n.toNatClampNeg * q.toNatClampNeg) else none
    | _ => none
  | _, _ => none
/-- a run of a method from a place on: n is fuel, d the calls' depth, mc and ms the cells and slots that may still be made -/
def am_ex : Nat → Nat → Nat → Nat → am_Mth → Nat → am_L → List Value → am_H → Option (Option Value × am_H)
  | 0, _, _, _, _, _, _, _, _ => none
  | n + 1, d, mc, ms, M, pc, lv, st, h => match am_at (am_code M) pc with
    | none => none
    | some (ins, len) => match am_step CP S am_byt (am_oc M) (am_maxL M) (am_isI M) ins pc len lv st h with
      | some (pc', lv', st', h') => am_ex n d mc ms M pc' lv' st' h'
      | none => match am_ret (am_rty M) ins st with
        | some r => some (r, h)
        | none => match am_inv P CP (am_oc M) h ins st with
          | some (M', as, rest) => match d with
            | 0 => none
            | d' + 1 => bif Nat.ble (am_mc M') mc && Nat.ble (am_ms M') ms then match am_ex n d' (am_mc M') (am_ms M') M' 0 (lv_args 0 as) [] h with
              | some (r, h') => am_ex n (d' + 1) (mc - am_mc M') (ms - am_ms M') M (pc + 3) lv (r.toList ++ rest) h'
              | none => none
              else none
          | none => match am_make CP (am_oc M) h ins st with
            | some (cs, rest, ds) => bif Nat.ble cs.length mc && Nat.ble ds ms then am_ex n d (mc - cs.length) (ms - ds) M (pc + len) lv (.ref (h.length + 5) :: rest) (h ++ cs) else none
            | none => none
end EX
section SIM7
variable {p : Program} {l : Launch} {e : Env} {R : Room} {s : State} {m : MethodId} {args : Array Value} {below : List Frame} {meth : Method} {c : Code} {H : Heap} {locs : List Loc} {cells slots : Nat} {Q : State → Prop}
variable {cc : ByteArray} {pc pc' len nL oc : Nat} {ls : Array Slot} {E : am_E} {S : Nat × (Nat → Int32)} {ins : Instr} {lv lv' : am_L} {st st' : List Value} {h h' : am_H} {v : Value} {P : Nat → Option am_Mth} {CP : Nat → Nat → Option am_R} {isI : Bool}
theorem am_sim_step (hx : p.tables.exec = Jvm.exec) (hb : c.code = cc) (hml : c.maxLocals = nL) (hl : lv_has ls nL (am_lv E lv)) (hown : s.vm.findClass (am_cn oc) = some m.cls) (hts : ∀ w ∈ am_good, w.before args s = true) (hG : am_G E S s) (hS : va_S (fun q => am_sz E ≤ q) s.heap H locs) (hP : am_P E h H) (hCP : ∀ k r, CP oc k = some r → am_just P (am_cn oc) k r) (hI : isI = true → meth.name = "<init>") (hfr : 1 ≤ R.frames) (hlo : 60 ≤ R.locals)
    (hdg : decode cc pc = .ok (ins, len)) (hn : am_len ins len = true) (ha : am_step CP S am_byt oc nL isI ins pc len lv st h = some (pc', lv', st', h'))
    (k : ∀ (ls' : Array Slot) (H1 : Heap) (locs1 : List Loc), lv_has ls' nL (am_lv E lv') → am_P E h' H1 → va_S (fun q => am_sz E ≤ q) s.heap H1 locs1 → W p l e R s m args below meth c H1 locs1 cells slots Q (F0 m pc' ls' (st'.map (am_v E)))) : W p l e R s m args below meth c H locs cells slots Q (F0 m pc ls (st.map (am_v E))) := by
  unfold am_step at ha
  split at ha
  · rename_i hq
    cases ha
    exact am_sim_load hx hb hdg hn hl hq (k ls H locs hl hP hS)
  · split at ha
    · rename_i hq
      cases ha
      exact am_sim_pure hx hb hown hts hG hS hCP hdg hn hq (k ls H locs hl hP hS)
    · split at ha
      · rename_i hq
        cases ha
        exact am_sim_read hx hb hown hts hG hS hP hCP hdg hn hq (k ls H locs hl hP hS)
      · split at ha
        · rename_i hq
          cases ha
          exact am_sim_store hx hb hdg hn hl hq (fun ls' hl' => k ls' H locs hl' hP hS)
        · split at ha
          · rename_i hq
            cases ha
            exact am_sim_jump hx hb hdg hn hq (k ls H locs hl hP hS)
          · split at ha
            · rename_i hq
              cases ha
              exact am_sim_write hx hb hml hl.1 hown hts hG hS hP hCP hI hfr hlo hdg hn hq (fun H1 locs1 hP1 hS1 => k ls H1 locs1 hl hP1 hS1)
            · cases ha
end SIM7
