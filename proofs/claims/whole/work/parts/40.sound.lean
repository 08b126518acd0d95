/-! SOUNDNESS: what AM runs, the machine runs. -/
section SOUND
variable {l : Launch} {E : am_E} {S : Nat × (Nat → Int32)} {P : Nat → Option am_Mth} {CP : Nat → Nat → Option am_R}
/-- from a place of a method the machine comes to its return -/
def am_Sim (l : Launch) (E : am_E) (S : Nat × (Nat → Int32)) (P : Nat → Option am_Mth) (CP : Nat → Nat → Option am_R) (n : Nat) : Prop :=
  ∀ (d mc ms : Nat) (M : am_Mth) (pc : Nat) (lv : am_L) (st : List Value) (h : am_H) (r : Option Value) (hf : am_H), am_ex P CP S n d mc ms M pc lv st h = some (r, hf) → am_okK M →
  ∀ (p : Program) (e : Env) (R : Room) (s : State) (m : MethodId) (args : Array Value) (below : List Frame) (meth : Method) (c : Code) (H : Heap) (locs : List Loc) (cells slots : Nat) (Q : State → Prop) (ls : Array Slot), p.tables.exec = Jvm.exec → c.code = am_bytes M → c.maxLocals = am_maxL M → lv_has ls (am_maxL M) (am_lv E lv) → s.vm.findClass (am_cn (am_oc M)) = some m.cls → (∀ w ∈ am_good, w.before args s = true) → am_G E S s → va_S (fun q => am_sz E ≤ q) s.heap H locs → am_P E h H → (am_isI M = true → meth.name = "<init>") → d + 1 ≤ R.frames → 60 * (d + 1) ≤ R.locals → cells + mc ≤ R.cells → slots + ms ≤ R.slots →
  (∀ (ins : Instr) (len pc : Nat) (ls : Array Slot) (H : Heap) (locs : List Loc) (cells slots : Nat) (st : List Value), decode (am_bytes M) pc = .ok (ins, len) → am_len ins len = true → am_ret (am_rty M) ins st = some r → am_P E hf H → va_S (fun q => am_sz E ≤ q) s.heap H locs → cells ≤ R.cells → slots ≤ R.slots → W p l e R s m args below meth c H locs cells slots Q (F0 m pc ls (st.map (am_v E)))) →
  W p l e R s m args below meth c H locs cells slots Q (F0 m pc ls (st.map (am_v E)))
theorem am_ofW {y : MethodName} {ws ws' : List Cond} {rm : Room} {Pc : Array Value → State → Prop} {Qc : Array Value → State → Outcome → State → Prop} {mc ms : Nat} {free : Addr → Prop} {cc : ByteArray} {maxL : Nat} {ret : Option FieldType} (hy : plainFor y = true) (hw : ws = Cond.code y cc maxL ret :: ws')
    (body : ∀ p e s m args below meth c s₁, BodyLoose p l y (headSpec ws rm) cc maxL ret e s m args below meth c s₁ → c.maxLocals = maxL → Pc args s → W p l e (headSpec ws rm).room s m args below meth c s.heap [] 0 0 (MQ below Qc args s mc ms free) (entryFrame m args maxL)) : Met l y ws rm Pc Qc mc ms free := by
  refine MetFree.of_bodySF (code := cc) (maxLocals := maxL) (ret := ret) hy ?_ ?_
  · intro args s m h hn
    obtain ⟨meth, c, h1, h2, h3, h4, h5, h6, -, -⟩ := Cond.code_spec hn (atoms_spec (ws := ws) h _ (by rw [hw]; exact List.mem_cons_self))
    exact ⟨meth, c, h1, h2, h3, h4, h5, h6⟩
  · intro p e s m args below meth c s₁ B hml hP _
    have hh0 : s₁.heap = s.heap := by rw [B.state]; rfl
    obtain ⟨t, a1, o, b1, b2, b3⟩ := body p e s m args below meth c s₁ B hml hP s₁ hh0 (Stand.of_body B)
    exact ⟨t, o, a1, b1, b2, ⟨b3.1, b3.2⟩⟩
theorem am_met {n d : Nat} {M : am_Mth} {as : List Value} {h : am_H} {r : Option Value} {hf : am_H} (sim : am_Sim l E S P CP n) (ha : am_ex P CP S n d (am_mc M) (am_ms M) M 0 (lv_args 0 as) [] h = some (r, hf)) (hlen : (lg_sl as).length ≤ am_maxL M) (okM : am_okM M) : am_Met l E S d M as h r hf := by
  refine am_ofW (cc := am_bytes M) (maxL := am_maxL M) (ret := am_rty M) okM.2.1 rfl ?_
  intro p e s m args below meth c s₁ B hml hv
  obtain ⟨rfl, hP, hG⟩ := hv
  have hx := B.exec
  have hb := B.bytes
  have hr := B.returns
  have hts := atoms_spec (ws := am_wsM M) B.pre
  have hown : s.vm.findClass (am_name M).cls = some m.cls := findClass_of_methodNamed B.named
  have hlocks := B.notSynchronized
  have hnm : meth.name = (am_name M).name := (name_of_methodNamed B.named B.method).1
  have hl := lv_entry (as.map (am_v E)) (n := am_maxL M) (by rw [am_sl_len]; exact hlen)
  rw [lg_entry_eq]
  rw [am_lv_args] at hl
  generalize (lg_sl (as.map (am_v E)) ++ List.replicate (am_maxL M - (lg_sl (as.map (am_v E))).length) Slot.unset).toArray = ls at hl ⊢
  refine sim d (am_mc M) (am_ms M) M 0 _ [] h r hf ha okM.2.2.2.2.2.2 p e _ s m _ below meth c s.heap [] 0 0 _ ls hx hb hml hl (by rw [okM.1]; exact hown) (fun w hw => hts w (List.mem_cons_of_mem _ hw)) hG va_S.rf hP (fun hi => by rw [hnm]; exact of_decide_eq_true hi) (Nat.le_refl _) (Nat.le_refl _) (by show 0 + am_mc M ≤ am_mc M; omega) (by show 0 + am_ms M ≤ am_ms M; omega) ?_
  intro ins len pc ls H locs cells slots st hdg hn hret hP hS hc hs
  refine W.widen (k := am_mc M) (n := am_ms M) hc hs ?_
  have hq : ∀ t : State, t.heap = H → am_P E hf t.heap ∧ va_F (fun q => am_sz E ≤ q) s t := fun t ht => ⟨by rw [ht]; exact hP, hS.F ht⟩
  unfold am_ret at hret
  split at hret
  · rename_i hrt; cases hret; obtain rfl := am_len1 hn
    exact W.vret hx hb (hr.trans hrt) (fun t ht _ => ⟨rfl, hq t ht⟩) hS.2.2 hdg hlocks
  · rename_i hrt; cases hret; obtain rfl := am_len1 hn
    exact W.iret hx hb (hr.trans hrt) (fun t ht _ => ⟨rfl, hq t ht⟩) hS.2.2 hdg hlocks
  · rename_i hrt
    split at hret
    · rename_i hz
      cases hret; obtain rfl := am_len1 hn
      refine W.zret hx hb (hr.trans hrt) ?_ (fun t ht _ => ⟨rfl, hq t ht⟩) hS.2.2 hdg hlocks
      rcases hz with rfl | rfl
      · rfl
      · rfl
    · cases hret
  · rename_i hrt
    split at hret
    · rename_i hz
      cases hret; obtain rfl := am_len1 hn
      exact W.zret hx hb (hr.trans hrt) hz (fun t ht _ => ⟨rfl, hq t ht⟩) hS.2.2 hdg hlocks
    · cases hret
  · rename_i hrt
    split at hret
    · rename_i hz
      cases hret; obtain rfl := am_len1 hn
      exact W.zret hx hb (hr.trans hrt) hz (fun t ht _ => ⟨rfl, hq t ht⟩) hS.2.2 hdg hlocks
    · cases hret
  · rename_i hrt; cases hret; obtain rfl := am_len1 hn
    exact W.lret hx hb (hr.trans hrt) (fun t ht _ => ⟨rfl, hq t ht⟩) hS.2.2 hdg hlocks
  · rename_i hrt; cases hret; obtain rfl := am_len1 hn
    exact W.aret hx hb (hr.trans hrt) (Or.inl ⟨_, rfl⟩) (Or.inr ⟨_, rfl⟩) (fun t ht _ => ⟨rfl, hq t ht⟩) hS.2.2 hdg hlocks
  · rename_i hrt; cases hret; obtain rfl := am_len1 hn
    exact W.aret hx hb (hr.trans hrt) (Or.inl ⟨_, rfl⟩) (Or.inl rfl) (fun t ht _ => ⟨rfl, hq t ht⟩) hS.2.2 hdg hlocks
  · cases hret
theorem am_sound (hCP : ∀ oc k r, CP oc k = some r → am_just P (am_cn oc) k r) (hPM : ∀ j M, P j = some M → am_okM M) : ∀ n : Nat, am_Sim l E S P CP n := by
  intro n
  induction n with
  | zero =>
    intro d mc ms M pc lv st h r hf ha
    cases ha
  | succ n ih =>
    intro d mc ms M pc lv st h r hf ha okK p e R s m args below meth c H locs cells slots Q ls hx hb hml hl hown hts hG hS hP hI hfr hlo hc hs hret
    unfold am_ex at ha
    split at ha
    · cases ha
    · rename_i ins len hat
      obtain ⟨hdg, hn⟩ := okK _ _ _ hat
      split at ha
      · rename_i hst
        exact am_sim_step hx hb hml hl hown hts hG hS hP (hCP _) hI (by omega) (by omega) hdg hn hst (fun ls' H1 locs1 hl' hP1 hS1 => ih _ _ _ _ _ _ _ _ _ _ ha okK p e R s m args below meth c H1 locs1 cells slots Q ls' hx hb hml hl' hown hts hG hS1 hP1 hI hfr hlo hc hs hret)
      · split at ha
        · rename_i hr
          cases ha
          exact hret ins len pc ls H locs cells slots st hdg hn hr hP hS (by omega) (by omega)
        · split at ha
          · rename_i hinv
            split at ha
            · cases ha
            · obtain ⟨hb2, ha⟩ := am_bifo ha
              rw [Bool.and_eq_true] at hb2
              have b1 := Nat.le_of_ble_eq_true hb2.1
              have b2 := Nat.le_of_ble_eq_true hb2.2
              split at ha
              · rename_i hcall
                refine am_sim_call hx hb hml hl.1 hown hts hG hS hP (hCP _) hPM hdg hn hinv (by omega) (by omega) ⟨by omega, by omega⟩ (fun f1 okM => am_met ih hcall f1 okM) (fun H1 locs1 hP1 hS1 => ?_)
                exact ih _ _ _ _ _ _ _ _ _ _ ha okK p e R s m args below meth c H1 locs1 _ _ Q ls hx hb hml hl hown hts hG hS1 hP1 hI hfr hlo (by omega) (by omega) hret
              · cases ha
          · split at ha
            · rename_i hmk
              obtain ⟨hb2, ha⟩ := am_bifo ha
              rw [Bool.and_eq_true] at hb2
              have b1 := Nat.le_of_ble_eq_true hb2.1
              have b2 := Nat.le_of_ble_eq_true hb2.2
              refine am_sim_make hx hb hown hts hG hS hP (hCP _) hdg hn hmk (by omega) (by omega) (fun H1 hP1 hS1 => ?_)
              exact ih _ _ _ _ _ _ _ _ _ _ ha okK p e R s m args below meth c H1 locs _ _ Q ls hx hb hml hl hown hts hG hS1 hP1 hI hfr hlo (by omega) (by omega) hret
            · cases ha
end SOUND
