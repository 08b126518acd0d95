/-! A clause: class and reference alike. -/
section STEP
variable {B : Nat → Nat} {n u T N : Nat} {M : Mem} {a : Nat → Nat → Nat} {V : Nat → (Nat → Int32) → Int32} {c j sz so : Nat}
theorem tl_br {M6 M7 : Mem} {f : Nat} {p : Int32} (e : f_r_readRest (nI (12 + so)) M6 = some M7) (b : Br M7 f p) : Bo f p (tl9 so M6) := by
  unfold tl9
  obtain ⟨M8, e8, b8⟩ := b.exp 45 (by decide)
  exact ⟨M8, by rw [e, Option.bind_some, e8]; rfl, b8⟩
theorem st_fault (hN : 4000 ≤ N) (hT2 : ∀ j, kd B n (stk B n j) ≠ 48 → j < T) (hk : kd B n (stk B n j) = 12 + so) (hso : 3 ≤ so ∧ so < 12) (hc : c < 24) {M5 M7 : Mem} {f jf : Nat} (e : f_r_readRest (nI (12 + so)) M5 = some M7) (b : Br M7 f (nI (stk B n jf))) (bf : BdFl B n u T N c so (j + 1) f jf) : StF B n u T N a V c j (tl9 so M5) := by
  obtain ⟨M8, e8, b8⟩ := tl_br e b
  exact ⟨M8, f, jf, e8, b8, cl_fl hN hT2 hk hso.2 hc (fun z => by omega) b.1 b.2.1 bf⟩
theorem st_plain (hN : 4000 ≤ N) (hT2 : ∀ j, kd B n (stk B n j) ≠ 48 → j < T) (h : CsI B n T M a V c j sz) (hk : kd B n (stk B n j) = 12 + so) (hso : 3 ≤ so ∧ so < 12) (hc : c < 24) {Mx : Mem} {j' x1 x2 : Nat} (h1 : x1 ≤ 63) (h2 : x2 ≤ 9) (rr : f_r_readRest (nI (12 + so)) (m5 B n M j sz so) = some (adC Mx c (12 + so + 32 * x1 + 2048 * x2))) (Hx : He B n T Mx j' sz) (ox : ∀ k i, k ≠ 103 → Mx.1 k i = (m5 B n M j sz so).1 k i) (bk : BdOk B n u T N c so (j + 1) j' (ext a c (ext5 (12 + so) x1 x2 0 0)) V) : StF B n u T N a V c j (tl9 so (m5 B n M j sz so)) ∨ StO B n u T N a V c j (tl9 so (m5 B n M j sz so)) := by
  have o5 : ∀ k i, k ≠ 103 → (m5 B n M j sz so).1 k i = M.1 k i := fun k i hk3 => by
    rw [m5_at, if_neg (by omega), if_neg (by omega), adM_at, if_neg (by omega), if_neg (by omega)]
  have H8 : He B n T (adC Mx c (12 + so + 32 * x1 + 2048 * x2)) j' sz := adC_he Hx
  obtain ⟨t1, t2⟩ := tl_end hT2 rr H8
  by_cases k45 : kd B n (stk B n j') = 45
  · right
    obtain ⟨y1, y2⟩ := t1 k45
    refine ⟨_, j' + 1, sz, ext a c (ext5 (12 + so) x1 x2 0 0), V, y1, ?_, cl_ok hN hT2 hk hso.2 hc (fun z => by omega) bk k45 (fun k hkc => ⟨ext_k hkc, rfl⟩) (by rw [ext_c]; rfl)⟩
    have oo : ∀ k i, k ≠ 103 → ¬ (k = 104 ∧ i = 4) → ¬ (k = 106 ∧ i = c) → (adM B n (adC Mx c (12 + so + 32 * x1 + 2048 * x2)) j').1 k i = M.1 k i := fun k i q1 q2 q3 => by
      rw [adM_at, if_neg (by omega), if_neg (by omega), adC_at, if_neg q2, if_neg q3, ox k i q1, o5 k i q1]
    refine csi_new h hc hso.2 (fun z => by omega) y2 ?_ (Nat.le_refl _) (fun i hi => oo _ _ (by omega) (by omega) (by omega)) (fun i hi => oo _ _ (by omega) (by omega) (by omega)) (fun s hs => ?_) (fun k hkc => ⟨ext_k hkc, rfl⟩) (by rw [ext_c]; rfl) ?_
    · rw [adM_at, if_neg (by omega), if_neg (by omega), adC_at, if_pos ⟨rfl, rfl⟩]
    · rw [if_neg (by omega)]
      exact oo _ _ (by omega) (by omega) (by omega)
    · unfold ClC
      rw [ext_c]
      refine ⟨by show 12 ≤ 12 + so; omega, by show 12 + so ≤ 23; omega, h1, h2, ?_, fun e => ?_⟩
      · rw [adM_at, if_neg (by omega), if_neg (by omega), adC_at, if_neg (by omega), if_pos ⟨rfl, rfl⟩]
        rfl
      · have e' : 12 + so ≤ 14 := e
        omega
  · left
    obtain ⟨M9, y1, y2⟩ := t2 k45
    exact ⟨M9, 1, j', y1, y2, cl_semi hN hT2 hk hso.2 hc (fun z => by omega) bk k45⟩
/-- what stands behind a head that is no law's -/
theorem rest_fig (hso : figS so) (M : Mem) : f_r_readRest (nI (12 + so)) M = Option.bind (f_r_expectNumber (nI (fLo so)) (nI (fHi so)) M) fun q => Option.bind (f_p_addClause (nI (12 + so)) q.1 (0 : Int32) q.2) fun q2 => some q2 := by
  unfold f_r_readRest
  rcases hso with rfl | rfl | rfl | rfl | rfl | rfl <;> rfl
theorem rest_none (hso : so = 8 ∨ so = 11) (M : Mem) : f_r_readRest (nI (12 + so)) M = Option.bind (f_p_addClause (nI (12 + so)) (0 : Int32) (0 : Int32) M) fun q2 => some q2 := by
  unfold f_r_readRest
  rcases hso with rfl | rfl <;> rfl
theorem rest_gu (M : Mem) : f_r_readRest (nI (12 + 3)) M = Option.bind (f_r_expectNumber (nI 0) (nI 9) M) fun q1 => Option.bind (f_r_expect (nI 4) q1.2) fun q2 => Option.bind (f_r_expectNumber (nI 0) (nI 9) q2) fun q3 => Option.bind (f_p_addClause (nI (12 + 3)) q1.1 q3.1 q3.2) fun q4 => some q4 := rfl
theorem ad_103 {k i : Nat} (h : k ≠ 103) : (adM B n M j).1 k i = M.1 k i := by
  rw [adM_at, if_neg (by omega), if_neg (by omega)]
theorem st_fig (hN : 4000 ≤ N) (hT2 : ∀ j, kd B n (stk B n j) ≠ 48 → j < T) (h : CsI B n T M a V c j sz) (hk : kd B n (stk B n j) = 12 + so) (hso : figS so) (hc : c < 24) (H5 : He B n T (m5 B n M j sz so) (j + 1) sz) (h45 : (m5 B n M j sz so).1 104 4 = nI c) : StF B n u T N a V c j (tl9 so (m5 B n M j sz so)) ∨ StO B n u T N a V c j (tl9 so (m5 B n M j sz so)) := by
  have s12 : 3 ≤ so ∧ so < 12 := by unfold figS at hso; omega
  have fl : fLo so ≤ fHi so ∧ fHi so ≤ 60 := by
    unfold fLo fHi
    split <;> omega
  obtain ⟨n1, n2, n3⟩ := H5.num hT2 (a := fLo so) (b := fHi so) (by omega) fl.1
  obtain ⟨d1, d2, d3⟩ := bd_fig (B := B) (n := n) (u := u) (T := T) (N := N) (a := ext a c (ext5 (12 + so) (nm B n (stk B n (j + 1))) 0 0 0)) (V := V) (c := c) (j := j + 1) hN hso
  by_cases k : kd B n (stk B n (j + 1)) = 33
  · by_cases l : fLo so ≤ nm B n (stk B n (j + 1)) ∧ nm B n (stk B n (j + 1)) ≤ fHi so
    · obtain ⟨e1, H6⟩ := n1 k l.1 l.2
      have jT := hT2 (j + 1) (by omega)
      have ac := add_cl (M := adM B n (m5 B n M j sz so) (j + 1)) (c := c) (hd := 12 + so) (f := nm B n (stk B n (j + 1))) (g := 0) (by rw [ad_103 (by decide)]; exact h45) hc (by omega) (by omega) (by omega)
      refine st_plain (Mx := adM B n (m5 B n M j sz so) (j + 1)) (x1 := nm B n (stk B n (j + 1))) (x2 := 0) hN hT2 h hk s12 hc (by omega) (by omega) ?_ H6 (fun k i hk3 => ad_103 hk3) (d1 k l.1 l.2 jT (by rw [ext_c]; rfl) (by rw [ext_c]; rfl))
      have ac' : f_p_addClause (nI (12 + so)) (nI (nm B n (stk B n (j + 1)))) (0 : Int32) (adM B n (m5 B n M j sz so) (j + 1)) = some (adC (adM B n (m5 B n M j sz so) (j + 1)) c (12 + so + 32 * nm B n (stk B n (j + 1)) + 2048 * 0)) := ac
      rw [rest_fig hso, e1, Option.bind_some]
      show (Option.bind (f_p_addClause (nI (12 + so)) (nI (nm B n (stk B n (j + 1)))) (0 : Int32) (adM B n (m5 B n M j sz so) (j + 1))) fun q2 => some q2) = _
      rw [ac']
      rfl
    · left
      obtain ⟨M6, e6, b6⟩ := n2 k (by omega)
      obtain ⟨M7, e7, b7⟩ := b6.cls (nI (12 + so)) (nI (fLo so)) 0
      refine st_fault hN hT2 hk s12 hc (M7 := M7) ?_ b7 (d2 k (by omega))
      rw [rest_fig hso, e6, Option.bind_some]
      show (Option.bind (f_p_addClause (nI (12 + so)) (nI (fLo so)) (0 : Int32) M6) fun q2 => some q2) = _
      rw [e7]
      rfl
  · left
    obtain ⟨M6, e6, b6⟩ := n3 k
    obtain ⟨M7, e7, b7⟩ := b6.cls (nI (12 + so)) (nI (fLo so)) 0
    refine st_fault hN hT2 hk s12 hc (M7 := M7) ?_ b7 (d3 k)
    rw [rest_fig hso, e6, Option.bind_some]
    show (Option.bind (f_p_addClause (nI (12 + so)) (nI (fLo so)) (0 : Int32) M6) fun q2 => some q2) = _
    rw [e7]
    rfl
theorem st_none (hN : 4000 ≤ N) (hT2 : ∀ j, kd B n (stk B n j) ≠ 48 → j < T) (h : CsI B n T M a V c j sz) (hk : kd B n (stk B n j) = 12 + so) (hso : so = 8 ∨ so = 11) (hc : c < 24) (H5 : He B n T (m5 B n M j sz so) (j + 1) sz) (h45 : (m5 B n M j sz so).1 104 4 = nI c) : StF B n u T N a V c j (tl9 so (m5 B n M j sz so)) ∨ StO B n u T N a V c j (tl9 so (m5 B n M j sz so)) := by
  have ac := add_cl (M := m5 B n M j sz so) (c := c) (hd := 12 + so) (f := 0) (g := 0) h45 hc (by omega) (by omega) (by omega)
  have ac' : f_p_addClause (nI (12 + so)) (0 : Int32) (0 : Int32) (m5 B n M j sz so) = some (adC (m5 B n M j sz so) c (12 + so + 32 * 0 + 2048 * 0)) := ac
  refine st_plain (Mx := m5 B n M j sz so) (x1 := 0) (x2 := 0) hN hT2 h hk (by omega) hc (by omega) (by omega) ?_ H5 (fun k i hk3 => rfl) (bd_none hso (by rw [ext_c]; rfl))
  rw [rest_none hso, ac']
  rfl
theorem st_gu (hN : 4000 ≤ N) (hT2 : ∀ j, kd B n (stk B n j) ≠ 48 → j < T) (h : CsI B n T M a V c j sz) (hk : kd B n (stk B n j) = 12 + 3) (hc : c < 24) (H5 : He B n T (m5 B n M j sz 3) (j + 1) sz) (h45 : (m5 B n M j sz 3).1 104 4 = nI c) : StF B n u T N a V c j (tl9 3 (m5 B n M j sz 3)) ∨ StO B n u T N a V c j (tl9 3 (m5 B n M j sz 3)) := by
  obtain ⟨n1, n2, n3⟩ := H5.num hT2 (a := 0) (b := 9) (by omega) (by omega)
  have bad1 : ∀ (M6 : Mem) (f jf : Nat), f_r_expectNumber (nI 0) (nI 9) (m5 B n M j sz 3) = some (nI 0, M6) → Br M6 f (nI (stk B n jf)) → GuFl B n (j + 1) f jf → StF B n u T N a V c j (tl9 3 (m5 B n M j sz 3)) := by
    intro M6 f jf e6 b6 g
    obtain ⟨M7, e7, b7⟩ := b6.exp (nI 4) (by decide)
    obtain ⟨M8, e8, b8⟩ := b7.num (nI 0) (nI 9)
    obtain ⟨M9, e9, b9⟩ := b8.cls (nI (12 + 3)) (nI 0) (nI 0)
    refine st_fault hN hT2 hk (by omega) hc (M7 := M9) ?_ b9 (bd_gu_fl hN g)
    rw [rest_gu, e6, Option.bind_some]
    show (Option.bind (f_r_expect (nI 4) M6) fun q2 => Option.bind (f_r_expectNumber (nI 0) (nI 9) q2) fun q3 => Option.bind (f_p_addClause (nI (12 + 3)) (nI 0) q3.1 q3.2) fun q4 => some q4) = _
    rw [e7, Option.bind_some, e8, Option.bind_some]
    show (Option.bind (f_p_addClause (nI (12 + 3)) (nI 0) (nI 0) M8) fun q4 => some q4) = _
    rw [e9]
    rfl
  by_cases k1 : kd B n (stk B n (j + 1)) = 33
  · by_cases l1 : nm B n (stk B n (j + 1)) ≤ 9
    · obtain ⟨e1, H6⟩ := n1 k1 (by omega) l1
      obtain ⟨x1, x2⟩ := H6.exp (k := 4) (by omega) hT2
      by_cases k2 : kd B n (stk B n (j + 1 + 1)) = 4
      · obtain ⟨y1, H7⟩ := x1 k2
        obtain ⟨m1, m2, m3⟩ := H7.num hT2 (a := 0) (b := 9) (by omega) (by omega)
        have st : f_r_readRest (nI (12 + 3)) (m5 B n M j sz 3) = Option.bind (f_r_expectNumber (nI 0) (nI 9) (adM B n (adM B n (m5 B n M j sz 3) (j + 1)) (j + 1 + 1))) fun q3 => Option.bind (f_p_addClause (nI (12 + 3)) (nI (nm B n (stk B n (j + 1)))) q3.1 q3.2) fun q4 => some q4 := by
          rw [rest_gu, e1, Option.bind_some]
          show (Option.bind (f_r_expect (nI 4) (adM B n (m5 B n M j sz 3) (j + 1))) fun q2 => Option.bind (f_r_expectNumber (nI 0) (nI 9) q2) fun q3 => Option.bind (f_p_addClause (nI (12 + 3)) (nI (nm B n (stk B n (j + 1)))) q3.1 q3.2) fun q4 => some q4) = _
          rw [y1, Option.bind_some]
        have bad3 : ∀ (M6 : Mem) (f jf : Nat), f_r_expectNumber (nI 0) (nI 9) (adM B n (adM B n (m5 B n M j sz 3) (j + 1)) (j + 1 + 1)) = some (nI 0, M6) → Br M6 f (nI (stk B n jf)) → GuFl B n (j + 1) f jf → StF B n u T N a V c j (tl9 3 (m5 B n M j sz 3)) := by
          intro M6 f jf e6 b6 g
          obtain ⟨M9, e9, b9⟩ := b6.cls (nI (12 + 3)) (nI (nm B n (stk B n (j + 1)))) (nI 0)
          refine st_fault hN hT2 hk (by omega) hc (M7 := M9) ?_ b9 (bd_gu_fl hN g)
          rw [st, e6, Option.bind_some]
          show (Option.bind (f_p_addClause (nI (12 + 3)) (nI (nm B n (stk B n (j + 1)))) (nI 0) M6) fun q4 => some q4) = _
          rw [e9]
          rfl
        by_cases k3 : kd B n (stk B n (j + 1 + 1 + 1)) = 33
        · by_cases l3 : nm B n (stk B n (j + 1 + 1 + 1)) ≤ 9
          · obtain ⟨e3, H8⟩ := m1 k3 (by omega) l3
            have jT := hT2 (j + 1 + 1 + 1) (by omega)
            have ac := add_cl (M := adM B n (adM B n (adM B n (m5 B n M j sz 3) (j + 1)) (j + 1 + 1)) (j + 1 + 1 + 1)) (c := c) (hd := 12 + 3) (f := nm B n (stk B n (j + 1))) (g := nm B n (stk B n (j + 1 + 1 + 1))) (by rw [ad_103 (by decide), ad_103 (by decide), ad_103 (by decide)]; exact h45) hc (by omega) (by omega) (by omega)
            refine st_plain (Mx := adM B n (adM B n (adM B n (m5 B n M j sz 3) (j + 1)) (j + 1 + 1)) (j + 1 + 1 + 1)) (j' := j + 1 + 1 + 1 + 1) (x1 := nm B n (stk B n (j + 1))) (x2 := nm B n (stk B n (j + 1 + 1 + 1))) hN hT2 h hk (by omega) hc (by omega) l3 ?_ H8 (fun k i hk3 => by rw [ad_103 hk3, ad_103 hk3, ad_103 hk3]) (bd_gu_ok hN k1 l1 k2 k3 l3 (by omega) (by rw [ext_c]; rfl) (by rw [ext_c]; rfl) (by rw [ext_c]; rfl))
            rw [st, e3, Option.bind_some]
            show (Option.bind (f_p_addClause (nI (12 + 3)) (nI (nm B n (stk B n (j + 1)))) (nI (nm B n (stk B n (j + 1 + 1 + 1)))) (adM B n (adM B n (adM B n (m5 B n M j sz 3) (j + 1)) (j + 1 + 1)) (j + 1 + 1 + 1))) fun q4 => some q4) = _
            rw [ac]
            rfl
          · left
            obtain ⟨M6, e6, b6⟩ := m2 k3 (by omega)
            exact bad3 M6 2 (j + 1 + 1 + 1) e6 b6 (Or.inr (Or.inr ⟨k1, l1, Or.inr ⟨k2, Or.inr ⟨k3, Nat.lt_of_not_le l3, rfl, rfl⟩⟩⟩))
        · left
          obtain ⟨M6, e6, b6⟩ := m3 k3
          exact bad3 M6 1 (j + 1 + 1 + 1) e6 b6 (Or.inr (Or.inr ⟨k1, l1, Or.inr ⟨k2, Or.inl ⟨k3, rfl, rfl⟩⟩⟩))
      · left
        obtain ⟨M7, e7, b7⟩ := x2 k2
        obtain ⟨M8, e8, b8⟩ := b7.num (nI 0) (nI 9)
        obtain ⟨M9, e9, b9⟩ := b8.cls (nI (12 + 3)) (nI (nm B n (stk B n (j + 1)))) (nI 0)
        refine st_fault hN hT2 hk (by omega) hc (M7 := M9) ?_ b9 (bd_gu_fl hN (Or.inr (Or.inr ⟨k1, l1, Or.inl ⟨k2, rfl, rfl⟩⟩)))
        rw [rest_gu, e1, Option.bind_some]
        show (Option.bind (f_r_expect (nI 4) (adM B n (m5 B n M j sz 3) (j + 1))) fun q2 => Option.bind (f_r_expectNumber (nI 0) (nI 9) q2) fun q3 => Option.bind (f_p_addClause (nI (12 + 3)) (nI (nm B n (stk B n (j + 1)))) q3.1 q3.2) fun q4 => some q4) = _
        rw [e7, Option.bind_some, e8, Option.bind_some]
        show (Option.bind (f_p_addClause (nI (12 + 3)) (nI (nm B n (stk B n (j + 1)))) (nI 0) M8) fun q4 => some q4) = _
        rw [e9]
        rfl
    · left
      obtain ⟨M6, e6, b6⟩ := n2 k1 (by omega)
      exact bad1 M6 2 (j + 1) e6 b6 (Or.inr (Or.inl ⟨k1, Nat.lt_of_not_le l1, rfl, rfl⟩))
  · left
    obtain ⟨M6, e6, b6⟩ := n3 k1
    exact bad1 M6 1 (j + 1) e6 b6 (Or.inl ⟨k1, rfl, rfl⟩)
/-- not at the beginning of a count -/
theorem rd_26 (hN : 4000 ≤ N) {M5 : Mem} (H5 : He B n T M5 j sz) (h26 : kd B n (stk B n j) = 26) : Bo 1 (nI (stk B n j)) (f_r_readSum N (f_r_readOne N 12) (nI 0) M5) := by
  obtain ⟨M6, f1, f2⟩ := H5.fail (f := 1) (by omega) (by omega)
  have ro : f_r_readOne N 12 (nI 0) M5 = some M6 := by
    show f_r_readOneB N (f_r_readOne N 11) (nI 0) M5 = some M6
    unfold f_r_readOneB
    have f1' : f_r_fail (1 : Int32) M5 = some M6 := f1
    have t : gi M5 103 7 = nI 26 := H5.t7.trans (by rw [h26])
    rw [t, if_neg (show ¬ nI 26 = (33 : Int32) by decide), if_pos (show f_w_within (nI 26) 0 11 M5 = 0 from rfl), if_neg (show ¬ nI 26 = (42 : Int32) by decide), if_neg (show ¬ nI 26 = (39 : Int32) by decide), if_neg (show ¬ nI 26 = (27 : Int32) by decide), f1']
    rfl
  refine ⟨M6, ?_, f2⟩
  unfold f_r_readSum f_r_readProduct
  rw [ro, Option.bind_some, f2.prod7 hN, Option.bind_some, f2.sum7 hN]
theorem cl_step (hN : 4000 ≤ N) (hT : T ≤ 300) (hT2 : ∀ j, kd B n (stk B n j) ≠ 48 → j < T) (h : CsI B n T M a V c j sz) : StF B n u T N a V c j (f_r_readClause N M) ∨ StO B n u T N a V c j (f_r_readClause N M) := by
  have h' := h
  obtain ⟨hH, ⟨h4, hc24⟩, hcl, hst⟩ := h'
  have kl := kd_lt B n (stk B n j)
  by_cases hkd : kd B n (stk B n j) < 12 ∨ 23 < kd B n (stk B n j)
  · left
    obtain ⟨M', e1, b1⟩ := hH.fail (f := 1) (by omega) (by omega)
    have e1' : f_r_fail (1 : Int32) M = some M' := e1
    refine ⟨M', 1, j, ?_, b1, cl_bad hkd⟩
    have wn : ∀ k, k < 49 → (k < 12 ∨ 23 < k) → f_w_within (nI k) 12 23 M0 = 0 := by decide +kernel
    unfold f_r_readClause
    rw [hH.t7, if_pos (show f_w_within (nI (kd B n (stk B n j))) 12 23 M = 0 from wn _ (by omega) hkd), e1']
    rfl
  · obtain ⟨so, hk⟩ : ∃ so, kd B n (stk B n j) = 12 + so := ⟨kd B n (stk B n j) - 12, by omega⟩
    have hso : so < 12 := by omega
    obtain ⟨w1, w2, w3, w4, w5, w6⟩ := w_all so hso
    have t7 : gi M 103 7 = nI (12 + so) := hH.t7.trans (by rw [hk])
    by_cases tw : so < 3 ∧ ∃ k, k < c ∧ a k 0 = 12 + so
    · left
      obtain ⟨s3, k, kc, ak⟩ := tw
      obtain ⟨M', e1, b1⟩ := hH.fail (f := 4) (by omega) (by omega)
      have e1' : f_r_fail (4 : Int32) M = some M' := e1
      refine ⟨M', 4, j, ?_, b1, cl_twice hk s3 kc ak⟩
      have sv : ∃ st, st < 300 ∧ M.1 107 so = nI st := by
        rcases hst so s3 with ⟨-, x2⟩ | ⟨i, i1, i2, i3, i4⟩
        · exact absurd ak (x2 k kc)
        · obtain ⟨q1, q2, q3, q4⟩ := (hcl i i1).2.2.2.2.2 (by omega)
          have q5 := q1.1
          have q6 := hH.2.2.2.2.2.2.2.2
          have q7 := hH.st j
          exact ⟨a i 3, by omega, i3⟩
      obtain ⟨st, st1, st2⟩ := sv
      unfold f_r_readClause f_p_startOf_104
      rw [t7, if_neg (show ¬ f_w_within (nI (12 + so)) 12 23 M = 0 from w1), if_neg (show ¬ f_w_within (nI (12 + so)) 12 14 M = 0 from w2 s3), w4 s3, if_pos (am_in_nI s3 (by decide)), nI_clamp (by omega), Option.bind_some, show gi M 107 so = nI st from st2, if_neg (nI_ne_m1 (by omega)), e1']
      rfl
    · have hfr : so < 3 → ∀ k, k < c → a k 0 ≠ 12 + so := fun s3 k kc ak => tw ⟨s3, k, kc, ak⟩
      have h107 : so < 3 → M.1 107 so = -1 := fun s3 => by
        rcases hst so s3 with ⟨x1, -⟩ | ⟨i, i1, i2, -⟩
        · exact x1
        · exact absurd i2 (hfr s3 i i1)
      by_cases c24 : c = 24
      · left
        obtain ⟨M', e1, b1⟩ := hH.fail (f := 6) (by omega) (by omega)
        have e1' : f_r_fail (6 : Int32) M = some M' := e1
        refine ⟨M', 6, j, ?_, b1, cl_full hk hso c24 hfr⟩
        have sv : f_p_startOf_104 (nI (12 + so)) M = some (-1) := by
          unfold f_p_startOf_104
          by_cases z : so < 3
          · rw [if_neg (show ¬ f_w_within (nI (12 + so)) 12 14 M = 0 from w2 z), w4 z, if_pos (am_in_nI z (by decide)), nI_clamp (by omega)]
            exact congrArg some (h107 z)
          · rw [if_pos (show f_w_within (nI (12 + so)) 12 14 M = 0 from w3 (by omega))]
        unfold f_r_readClause
        rw [t7, if_neg (show ¬ f_w_within (nI (12 + so)) 12 23 M = 0 from w1), sv, Option.bind_some, if_pos rfl, show gi M 104 4 = nI c from h4, if_neg (show ¬ nI c < (24 : Int32) by rw [c24]; decide), e1']
        rfl
      · have hc : c < 24 := by omega
        obtain ⟨e0, H5, h55, h45⟩ := cs_pre (N := N) hT2 h hk hso hc h107
        rw [e0]
        by_cases z0 : so = 0
        · rw [if_pos z0]
          subst z0
          exact st_law (u := u) hN hT2 h hk (by omega) hc (hfr (by omega)) H5 h45 (Nat.le_refl _) (oc_eall (u := u) hN hT hT2 _ _ _ H5 h55) (fun f jf q => bd_cnt_fl hN hT q) (fun j' W a' V' q q1 q2 => bd_cnt_ok hN hT q q1 q2)
        · rw [if_neg z0]
          by_cases z3 : 3 ≤ so
          · rw [if_pos z3]
            by_cases g : so = 3
            · subst g
              exact st_gu hN hT2 h hk hc H5 h45
            · by_cases g2 : so = 8 ∨ so = 11
              · exact st_none hN hT2 h hk g2 hc H5 h45
              · exact st_fig hN hT2 h hk (by unfold figS; omega) hc H5 h45
          · rw [if_neg z3]
            by_cases h26 : kd B n (stk B n (j + 1)) = 26
            · left
              obtain ⟨M6, e6, b6⟩ := rd_26 (N := N) hN H5 h26
              obtain ⟨M7, e7, b7⟩ := b6.tl (so := so)
              exact ⟨M7, 1, j + 1, by rw [e6, Option.bind_some]; exact e7, b7, cl_fl hN hT2 hk hso hc hfr b6.1 b6.2.1 (bd_law_26 hN (by omega) h26)⟩
            · exact st_law (u := u) hN hT2 h hk (by omega) hc (hfr (by omega)) H5 h45 (r := 19) (by omega) (oc_all (u := u) (x := 0) (so := so) (d := 0) hN hT hT2 (by omega) (by omega) _ _ _ H5 h55) (fun f jf q => bd_law_fl hN hT (by omega) h26 q) (fun j' W a' V' q q1 q2 => bd_law_ok hN hT (by omega) h26 q q1 q2)
end STEP
