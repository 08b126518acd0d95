/-! Instructions that read tables and heap. -/
def am_AOI (U : State) : Prop := (Cond.arrayOver (.array .int)).before #[] U = true
/-- what a frame's start state says of the tables, the script and the texts -/
def am_G (E : am_E) (S : Nat × (Nat → Int32)) (s : State) : Prop := va_K (am_D E) am_cl (am_tys E) s ∧ (∀ w ∈ am_nw, va_Nw w s) ∧ (∀ (i : Nat) (q : String × Nat × String), am_str[i]? = some q → vk_R q.1 q.2.1 q.2.2 (am_adK E i) s) ∧ va_X (am_b E) S.1 S.2 s s.heap ∧ am_b E < am_sz E ∧ vk_S 2 am_sl am_sb (am_adK E) (am_adV E) (fun q => am_sz E ≤ q) s s.heap ∧ va_Z "java/lang/String" "COMPACT_STRINGS" "Z" (.int 1) (fun q => am_sz E ≤ q) s s.heap ∧ am_sz E ≤ s.heap.size ∧ va_AO "LastWordAt$Script" s ∧ am_AOI s ∧ va_Z "jdk/internal/util/Preconditions" "SIOOBE_FORMATTER" "Ljava/util/function/BiFunction;" (va_rf (am_fo E)) (fun q => am_sz E ≤ q) s s.heap
abbrev am_byt : Nat → List Int32 := fun i => am_sb.getD i []
section SIM2
variable {p : Program} {l : Launch} {e : Env} {R : Room} {s : State} {m : MethodId} {args : Array Value} {below : List Frame} {meth : Method} {c : Code} {H : Heap} {locs : List Loc} {cells slots : Nat} {Q : State → Prop}
variable {cc : ByteArray} {pc len nL oc : Nat} {ls : Array Slot} {E : am_E} {S : Nat × (Nat → Int32)} {ins : Instr} {lv lv' : am_L} {st st' : List Value} {h h' : am_H} {v : Value} {P : Nat → Option am_Mth} {CP : Nat → Nat → Option am_R} {isI : Bool}
theorem am_just5 {own : String} {kk a b : Nat} {z : Int} (hj : am_just P own kk (5, a, b, z)) : a < 2 ∧ ∃ tx, am_str[a]? = some (own, kk, tx) := hj
theorem am_just3 {own : String} {kk a b : Nat} {z : Int} (hj : am_just P own kk (3, a, b, z)) : Cond.constant own kk (Int32.ofInt z) ∈ am_good := hj
theorem am_just4 {own : String} {kk a b : Nat} {z : Int} (hj : am_just P own kk (4, a, b, z)) : Cond.constantLong own kk (Int64.ofInt z) ∈ am_good := hj
theorem am_just10 {own : String} {kk a b : Nat} {z : Int} (hj : am_just P own kk (10, a, b, z)) : Cond.fieldLink own kk "java/lang/String" "COMPACT_STRINGS" "Z" ∈ am_good := hj
theorem am_just15 {own : String} {kk a b : Nat} {z : Int} (hj : am_just P own kk (15, a, b, z)) : Cond.fieldLink own kk "jdk/internal/util/Preconditions" "SIOOBE_FORMATTER" "Ljava/util/function/BiFunction;" ∈ am_good := hj
theorem am_sim_pure (hx : p.tables.exec = Jvm.exec) (hb : c.code = cc) (hown : s.vm.findClass (am_cn oc) = some m.cls) (hts : ∀ w ∈ am_good, w.before args s = true) (hG : am_G E S s) (hS : va_S (fun q => am_sz E ≤ q) s.heap H locs) (hCP : ∀ k r, CP oc k = some r → am_just P (am_cn oc) k r)
    (hdg : decode cc pc = .ok (ins, len)) (hn : am_len ins len = true) (ha : am_pure CP oc ins st = some st')
    (k : W p l e R s m args below meth c H locs cells slots Q (F0 m (pc + len) ls (st'.map (am_v E)))) : W p l e R s m args below meth c H locs cells slots Q (F0 m pc ls (st.map (am_v E))) := by
  unfold am_pure at ha
  split at ha
  · cases ha; obtain rfl := am_len1 hn; exact lv_null hx hb hdg k
  · cases ha; obtain rfl := am_len1 hn; exact lv_iconst hx hb hdg rfl k
  · cases ha; obtain rfl := am_len1 hn; exact lv_bipush hx hb hdg rfl k
  · cases ha; obtain rfl := am_len1 hn; exact lv_sipush hx hb hdg rfl k
  · cases ha; obtain rfl := am_len1 hn; exact lv_lconst hx hb hdg rfl k
  · obtain rfl := am_len1 hn
    split at ha
    · rename_i hc; cases ha; exact lv_ldc hx hb hown (hts _ (am_just3 (hCP _ _ hc))) hdg k
    · rename_i a _ _ hc
      cases ha
      obtain ⟨h2, tx, h3⟩ := am_just5 (hCP _ _ hc)
      have h4 := hG.2.2.1 a _ h3
      clear h3 hG hCP hts
      dsimp only at h4
      have ead : am_ad E (a + 1) = am_adK E a := by
        match a, h2 with
        | 0, _ => rfl
        | 1, _ => rfl
      refine va_ldcS hx hb hown h4 hdg ?_
      show W p l e R s m args below meth c H locs cells slots Q (F0 m (pc + 2) ls (.ref (am_adK E a) :: st.map (am_v E)))
      rw [← ead]
      exact k
    · cases ha
  · obtain rfl := am_len1 hn
    split at ha
    · rename_i hc; cases ha; exact lv_ldcw hx hb hown (hts _ (am_just3 (hCP _ _ hc))) hdg k
    · cases ha
  · obtain rfl := am_len1 hn
    split at ha
    · rename_i hc; cases ha; exact lv_ldc2 hx hb hown (hts _ (am_just4 (hCP _ _ hc))) hdg k
    · cases ha
  · obtain rfl := am_len1 hn
    split at ha
    · rename_i hc; cases ha; exact va_gets hx hb hG.2.2.2.2.2.2.1 hS hown (hts _ (am_just10 (hCP _ _ hc))) (fun _ z => z) hdg k
    · rename_i hc; cases ha; exact va_gets hx hb hG.2.2.2.2.2.2.2.2.2.2 hS hown (hts _ (am_just15 (hCP _ _ hc))) (fun _ z => z) hdg k
    · cases ha
  · cases ha; obtain rfl := am_len1 hn; exact lv_iadd hx hb hdg k
  · cases ha; obtain rfl := am_len1 hn; exact lv_isub hx hb hdg k
  · cases ha; obtain rfl := am_len1 hn; exact lv_imul hx hb hdg k
  · cases ha; obtain rfl := am_len1 hn; exact lv_iand hx hb hdg k
  · cases ha; obtain rfl := am_len1 hn; exact lv_ior hx hb hdg k
  · cases ha; obtain rfl := am_len1 hn; exact lv_ixor hx hb hdg k
  · cases ha; obtain rfl := am_len1 hn; exact lv_ishl hx hb hdg k
  · cases ha; obtain rfl := am_len1 hn; exact lv_ishr hx hb hdg k
  · cases ha; obtain rfl := am_len1 hn; exact lv_iushr hx hb hdg rfl k
  · split at ha
    · cases ha
    · rename_i hne; cases ha; obtain rfl := am_len1 hn; exact lv_idiv hx hb hdg hne k
  · split at ha
    · cases ha
    · rename_i hne; cases ha; obtain rfl := am_len1 hn; exact lv_irem hx hb hdg hne k
  · cases ha; obtain rfl := am_len1 hn; exact lv_ineg hx hb hdg k
  · cases ha; obtain rfl := am_len1 hn; exact lv_i2l hx hb hdg rfl k
  · cases ha; obtain rfl := am_len1 hn; exact lv_i2c hx hb hdg rfl k
  · cases ha; obtain rfl := am_len1 hn; exact lv_i2b hx hb hdg rfl k
  · cases ha; obtain rfl := am_len1 hn; exact lv_l2i hx hb hdg rfl k
  · cases ha; obtain rfl := am_len1 hn; exact lv_ladd hx hb hdg k
  · cases ha; obtain rfl := am_len1 hn; exact lv_lsub hx hb hdg k
  · cases ha; obtain rfl := am_len1 hn; exact lv_lmul hx hb hdg k
  · cases ha; obtain rfl := am_len1 hn; exact lv_lor hx hb hdg k
  · split at ha
    · cases ha
    · rename_i hne; cases ha; obtain rfl := am_len1 hn; exact lv_ldiv hx hb hdg hne k
  · split at ha
    · cases ha
    · rename_i hne; cases ha; obtain rfl := am_len1 hn; exact lv_lrem hx hb hdg hne k
  · cases ha; obtain rfl := am_len1 hn; exact lv_lneg hx hb hdg k
  · cases ha; obtain rfl := am_len1 hn; exact lv_lshl hx hb hdg rfl k
  · cases ha; obtain rfl := am_len1 hn; exact lv_lshr hx hb hdg rfl k
  · cases ha; obtain rfl := am_len1 hn; exact W.lcmp hx hb hdg k
  · rename_i w r
    cases hq : Nat.beq w.category 1 with
    | false => rw [hq] at ha; cases ha
    | true =>
      rw [hq] at ha; cases ha; obtain rfl := am_len1 hn
      exact lv_dup hx hb hdg (by rw [am_v_cat]; exact am_len1 hq) k
  · rename_i w r
    cases hq : Nat.beq w.category 1 with
    | false => rw [hq] at ha; cases ha
    | true =>
      rw [hq] at ha; cases ha; obtain rfl := am_len1 hn
      exact lv_pop hx hb hdg (by rw [am_v_cat]; exact am_len1 hq) k
  · rename_i w1 w2 r
    cases hq : (Nat.beq w1.category 1 && Nat.beq w2.category 1) with
    | false => rw [hq] at ha; cases ha
    | true =>
      rw [hq] at ha; cases ha; obtain rfl := am_len1 hn
      rw [Bool.and_eq_true] at hq
      exact lv_dup2_11 hx hb hdg (by rw [am_v_cat]; exact am_len1 hq.1) (by rw [am_v_cat]; exact am_len1 hq.2) k
  · cases ha
end SIM2
