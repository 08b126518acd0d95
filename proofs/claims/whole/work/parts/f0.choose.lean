/-! The class reads choose. -/
theorem RCs.cg {s c a b n : Nat} {D : Nat → Int32} {Vs Vs' : Nat → (Nat → Int32) → Int32} (h : RCs s D c a b n Vs) (e : ∀ i, i < n → Vs' i = Vs i) : RCs s D c a b n Vs' := by
  refine ⟨h.1, fun N m z E t y M hN he hz hE hE2 hb hc hD ht hm => ?_⟩
  obtain ⟨M', m', e1, e2, e3, e4, e5⟩ := h.2 N m z E t y M hN he hz hE hE2 hb hc hD ht hm
  exact ⟨M', m', e1, e2, e3, e4, fun i hi => by rw [e i hi]; exact e5 i hi⟩
section CHO
variable {B : Nat → Nat} {n u so T N : Nat} {x : Int32} {M : Mem} {j sz d r : Nat} {RO : Int32 → Mem → Option Mem}
theorem ChSt.cg {jc cnt kb : Nat} {lo hi lo' hi' : Nat → Nat} {Vs Vs' : Nat → (Nat → Int32) → Int32} (h : ChSt B n u so T N x j d jc cnt kb lo hi Vs) (e2 : ∀ i, i < cnt → lo' i = lo i ∧ hi' i = hi i) (e3 : ∀ i, i ≤ cnt → Vs' i = Vs i) : ChSt B n u so T N x j d jc cnt kb lo' hi' Vs' := by
  intro m M p g w hP hm
  obtain ⟨m1, Mb, M1, M1', wb, w1, e1, l1, W, K, t1, t2, t3, rc, l2, l3⟩ := h m M p g w hP hm
  refine ⟨m1, Mb, M1, M1', wb, w1, e1, l1, by rw [e3 cnt (Nat.le_refl _)]; exact W, K, t1, t2, fun i hi => ?_, rc.cg (fun i hi => e3 i (by omega)), l2, l3⟩
  rw [(e2 i hi).1, (e2 i hi).2]
  exact t3 i hi
/-- where the class stands within a choose -/
def ChI (B : Nat → Nat) (n u so T N : Nat) (x : Int32) (d r : Nat) (M : Mem) (j sz : Nat) (M1 : Mem) (j1 sz1 cnt : Nat) (cs lo hi : Nat → Nat) (Vs : Nat → (Nat → Int32) → Int32) : Prop := He B n T M1 j1 sz1 ∧ CK M M1 sz ∧ Cod (M1.1 105) sz (cs 0) r (Vs 0) ∧ CaI (M1.1 105) r cnt cs lo hi Vs (fun i => if i = 0 then 0 else cs i) ∧ cs cnt = sz1 ∧ (∀ i, i ≤ cnt → VOk so (Vs i)) ∧ ChSt B n u so T N x j d j1 cnt (if cnt = 0 then 41 else 42) lo hi Vs ∧ (sz1 + stk B n j ≤ sz + stk B n j1 ∧ j < j1) ∧ (kd B n (stk B n j1) < 38 ∨ 41 < kd B n (stk B n j1))
theorem oc_ch70 (hN : 4000 ≤ N) (hT : T ≤ 300) (hT2 : ∀ j, kd B n (stk B n j) ≠ 48 → j < T) (hd : d < 8) (hr : 1 ≤ r) (hRB : ∀ f p, RoB RO f p) (hS : OcR B n so T r (OkSu B n u so T N x (d + 1)) (FlLv B n u so T N x 5 (d + 1)) (f_r_readSum N RO (nI (d + 1)))) (h5 : M.1 103 5 = nI (12 + so)) {M1 : Mem} {j1 sz1 cnt : Nat} {cs lo hi : Nat → Nat} {Vs : Nat → (Nat → Int32) → Int32} (hc1 : 1 ≤ cnt) (hc6 : cnt ≤ 6) (hI : ChI B n u so T N x d r M j sz M1 j1 sz1 cnt cs lo hi Vs) (h28 : kd B n (stk B n j1) ≠ 28) : Oc B n so T r (OneOk B n u so T N x j d) (OneFl B n u so T N x j d) M j sz (f_r_readChoose_70 N RO (nI (d + 1)) (if cnt = 0 then -1 else nI (cs cnt - 1)) M1) := by
  obtain ⟨hH, ck, co, ca, ce, vo, cst, ⟨l1, l2⟩, kk⟩ := hI
  rw [if_neg (show ¬ cnt = 0 by omega)] at cst
  obtain ⟨x1, x2⟩ := hH.exp (k := 30) (by omega) hT2
  unfold f_r_readChoose_70
  by_cases k30 : kd B n (stk B n j1) = 30
  · obtain ⟨y1, y2⟩ := x1 k30
    have y1' : f_r_expect (30 : Int32) M1 = some (adM B n M1 j1) := y1
    have up := stk_up hT2 (j := j1) (by omega)
    have s9 := hH.2.2.2.2.2.2.2.2
    obtain ⟨p1, q1⟩ := y2.put (k := 52) (v := 0) (by omega) (by omega) (by omega)
    have p1' : f_p_put (52 : Int32) (0 : Int32) (adM B n M1 j1) = some (puM (adM B n M1 j1) sz1 52 0) := p1
    have c2 : CK M1 (puM (adM B n M1 j1) sz1 52 0) sz1 := CK.ad.tr CK.pu (Nat.le_refl _)
    rw [y1', Option.bind_some, p1', Option.bind_some]
    have sl := co.1
    have cl := ca.le cnt (Nat.le_refl _) 0 (by omega)
    rcases hS _ (j1 + 1) (sz1 + 1) q1 ((c2.2.2.2.1 5 (by omega) (by omega) (by omega) (by omega)).trans ((ck.2.2.2.1 5 (by omega) (by omega) (by omega) (by omega)).trans h5)) with ⟨M', f, jf, b1, b2, b3⟩ | ⟨M', j', sz', V, b1, b2, b3, b4, b5, b6, b7, b8, b9⟩
    · left
      obtain ⟨M3, e3, g3⟩ := b2.exp 31 (by decide)
      obtain ⟨M4, e4, g4⟩ := g3.ch99 (N := N) (RO := RO) N 0 (if cnt = 0 then -1 else nI (cs cnt - 1)) M3 g3 (by omega) (by omega)
      refine ⟨M4, f, jf, ?_, g4, one_choE hN hc6 hT2 hd cst k30 b3⟩
      rw [b1, Option.bind_some, e3, Option.bind_some]
      exact e4
    · obtain ⟨z1, z2⟩ := b2.exp (k := 31) (by omega) hT2
      by_cases k31 : kd B n (stk B n j') = 31
      · right
        obtain ⟨w1, w2⟩ := z1 k31
        have w1' : f_r_expect (31 : Int32) M' = some (adM B n M' j') := w1
        have up2 := stk_up hT2 (j := j') (by omega)
        have s9' := w2.2.2.2.2.2.2.2.2
        have st := w2.st (j' + 1)
        have c3 : CK M1 (adM B n M' j') sz1 := (c2.tr b5 (by omega)).tr (CK.ad (sz := sz1)) (Nat.le_refl _)
        have c3' : CK (puM (adM B n M1 j1) sz1 52 0) (adM B n M' j') (sz1 + 1) := b5.tr (CK.ad (sz := sz1 + 1)) (Nat.le_refl _)
        have s6 := b6.1
        obtain ⟨M5, e1, e2, e3, e4, e5⟩ := c_aim (N := N) (RO := RO) (S := sz') (by omega) cnt N 0 (adM B n M' j') (by omega) (by omega) w2.2.2.2.2.2.2.2.1 (ca.cong (fun q hq => c3.1 q (by omega))) (by omega)
        obtain ⟨Vt, ev, ev1⟩ : ∃ Vt : Nat → (Nat → Int32) → Int32, (∀ i, i ≤ cnt → Vt i = Vs i) ∧ Vt (cnt + 1) = V := ⟨fun i => if i = cnt + 1 then V else Vs i, fun i hi => if_neg (by omega), if_pos rfl⟩
        have e2' : CaI (M5.1 105) r cnt cs lo hi Vt (fun _ => sz') := by
          intro i hi
          have a := e2 i hi
          unfold Ca1
          rw [ev (i + 1) (by omega)]
          exact a
        have o5 : ∀ q, cs cnt ≤ q → M5.1 105 q = M'.1 105 q := fun q hq => (e3 q (Or.inr hq)).trans ((CK.ad (B := B) (n := n) (j := j') (sz := q + 1) (M := M')).1 q (by omega))
        have ch := chc e2' (by rw [ev1, ce]; exact b6.cong (fun q q1 q2 => o5 q (by omega))) (by rw [ce, e3 _ (by omega), c3'.1 _ (by omega)]; exact puM_c) (by omega) cnt 0 (by omega)
        have co5 : Cod (M5.1 105) sz (cs 0) r (Vs 0) := co.cong (fun q q1 q2 => (e3 q (Or.inl q2)).trans (c3.1 q (by omega)))
        refine ⟨M5, j' + 1, sz', fun e => Vt (1 + pik lo hi (Vt 0 e) cnt cnt) e, ?_, w2.of e4, by omega, by omega, ?_, ?_, ?_, ?_⟩
        · rw [b1, Option.bind_some, w1', Option.bind_some]
          exact e1
        · refine ⟨fun i hi => ?_, fun k a b c => ?_, fun i a => ?_, fun i a b c d => ?_, ?_⟩
          · rw [e3 i (by omega), c3.1 i (by omega), ck.1 i hi]
          · rw [e4 k c, c3.2.1 k a b c, ck.2.1 k a b c]
          · rw [e4 104 (by decide), c3.2.2.1 i a, ck.2.2.1 i a]
          · rw [e4 103 (by decide), c3.2.2.2.1 i a b c d, ck.2.2.2.1 i a b c d]
          · rw [e5, c3.2.2.2.2, ck.2.2.2.2]
        · have v0 : Vt 0 = Vs 0 := ev 0 (by omega)
          exact Cod.cho (V := Vt 0) (by rw [v0]; exact co5) ch (Nat.le_refl _) (Nat.le_refl _) hr
        · refine VOk.cho (Vs := Vt) (fun i hi => ?_)
          by_cases z : i = cnt + 1
          · rw [z, ev1]; exact b7
          · rw [ev i (by omega)]; exact vo i (by omega)
        · exact one_cho (Vs := Vt) hN hT hc6 hT2 hd (cst.cg (fun _ _ => ⟨rfl, rfl⟩) ev) k30 (by rw [ev1]; exact b8) k31
      · left
        obtain ⟨M3, e3, g3⟩ := z2 k31
        obtain ⟨M4, e4, g4⟩ := g3.ch99 (N := N) (RO := RO) N 0 (if cnt = 0 then -1 else nI (cs cnt - 1)) M3 g3 (by omega) (by omega)
        have e3' : f_r_expect (31 : Int32) M' = some M3 := e3
        refine ⟨M4, 1, j', ?_, g4, one_choM hN hc6 hT2 hd cst k30 b8 k31 b9⟩
        rw [b1, Option.bind_some, e3', Option.bind_some]
        exact e4
  · left
    obtain ⟨M2, e2, g2⟩ := x2 k30
    have e2' : f_r_expect (30 : Int32) M1 = some M2 := e2
    obtain ⟨M3, e3, g3⟩ := g2.put 52 0
    obtain ⟨M4, e4, g4⟩ := g3.sum hN (hRB _ _) (nI (d + 1))
    obtain ⟨M5, e5, g5⟩ := g4.exp 31 (by decide)
    obtain ⟨M6, e6, g6⟩ := g5.ch99 (N := N) (RO := RO) N 0 (if cnt = 0 then -1 else nI (cs cnt - 1)) M5 g5 (by omega) (by omega)
    refine ⟨M6, 1, j1, ?_, g6, ch_bad hN hd cst (Or.inr rfl) h28 (fun _ => k30) kk⟩
    rw [e2', Option.bind_some, e3, Option.bind_some, e4, Option.bind_some, e5, Option.bind_some]
    exact e6
theorem oc_ch27 (hN : 4000 ≤ N) (hT : T ≤ 300) (hT2 : ∀ j, kd B n (stk B n j) ≠ 48 → j < T) (hd : d < 8) (hr : 1 ≤ r) (hRB : ∀ f p, RoB RO f p) (hS : OcR B n so T r (OkSu B n u so T N x (d + 1)) (FlLv B n u so T N x 5 (d + 1)) (f_r_readSum N RO (nI (d + 1)))) (h5 : M.1 103 5 = nI (12 + so)) : ∀ (m cnt : Nat) (M1 : Mem) (j1 sz1 : Nat) (cs lo hi : Nat → Nat) (Vs : Nat → (Nat → Int32) → Int32), cnt ≤ 6 → 8 ≤ m + cnt → (1 ≤ cnt ∨ kd B n (stk B n j1) = 28) → ChI B n u so T N x d r M j sz M1 j1 sz1 cnt cs lo hi Vs → Oc B n so T r (OneOk B n u so T N x j d) (OneFl B n u so T N x j d) M j sz (f_r_readChoose_27 N RO m (nI (d + 1)) (if cnt = 0 then -1 else nI (cs cnt - 1)) (nI cnt) M1) := by
  intro m
  induction m with
  | zero => intro cnt M1 j1 sz1 cs lo hi Vs h1 h2; omega
  | succ m ih =>
    intro cnt M1 j1 sz1 cs lo hi Vs h1 h2 h3 hI
    rw [f_r_readChoose_27, if_neg (show ¬ (6 : Int32) < nI cnt from nI_nlt (a := 6) h1 (by decide))]
    by_cases k28 : kd B n (stk B n j1) = 28
    · have hI' := hI
      obtain ⟨hH, ck, co, ca, ce, vo, cst, ⟨l1, l2⟩, kk⟩ := hI'
      have kb : (if cnt = 0 then 41 else 42) = 41 ∨ (if cnt = 0 then 41 else 42) = 42 := by split <;> simp
      rw [if_pos (show gi M1 103 7 = (28 : Int32) from (hH.is (k := 28) (by decide)).mpr k28)]
      obtain ⟨m', rfl⟩ : ∃ m', m = m' + 1 := ⟨m - 1, by omega⟩
      by_cases c6 : cnt = 6
      · left
        obtain ⟨M2, e2, g2⟩ := hH.fail (f := 7) (by omega) (by omega)
        have e2' : f_r_fail (7 : Int32) M1 = some M2 := e2
        obtain ⟨M3, e3, g3⟩ := g2.ch27 (N := N) hN (hRB _ _) m' (nI (d + 1)) (if cnt = 0 then -1 else nI (cs cnt - 1)) (nI cnt + 1)
        refine ⟨M3, 7, j1, ?_, g3, ch_caseF hN hd cst kb k28 (by omega) (by omega) (Or.inr ⟨c6, rfl, rfl⟩)⟩
        rw [if_pos (show nI cnt = (6 : Int32) by rw [c6]; rfl), e2', Option.bind_some]
        exact e3
      · rw [if_neg (show ¬ nI cnt = (6 : Int32) from fun e => by have := (nI_eq (b := 6) (by omega) (by decide)).mp e; omega)]
        have sl := co.1
        have cl := ca.le cnt (Nat.le_refl _) 0 (by omega)
        have hz : (if cnt = 0 then (-1 : Int32) else nI (cs cnt - 1)) + 1 = nI (if cnt = 0 then 0 else cs cnt) := by
          by_cases z : cnt = 0
          · rw [if_pos z, if_pos z]; decide
          · rw [if_neg z, if_neg z, nI_1, show cs cnt - 1 + 1 = cs cnt by omega]
        have s9 := hH.2.2.2.2.2.2.2.2
        have s3 := hH.st j1
        rcases rd_head (N := N) hN hT2 hRB hH k28 (nI (d + 1)) (if cnt = 0 then -1 else nI (cs cnt - 1)) with ⟨j2, lo1, hi1, M2, hh, e2, H2, c2⟩ | ⟨f, jf, v, M2, f1, f2, hf, e2, g2⟩
        · obtain ⟨g1, g2, g3, g4⟩ := hh.le
          have w4 := stk_w (by omega) k28
          have wl4 : wl 28 = 4 := by decide
          have mono : ∀ i, stk B n i ≤ stk B n (i + 1) := fun i => by
            by_cases q : stk B n i < n
            · exact Nat.le_of_lt (stk_gt q)
            · have a := stk_n (B := B) (n := n) i
              show _ ≤ wsp B n (te B n (stk B n i))
              have e : stk B n i = n := by omega
              have : te B n n = n := by unfold te; rw [if_pos (Nat.le_refl _)]
              rw [e, this]
              exact skp_le
          have mono2 : ∀ k i, stk B n i ≤ stk B n (i + k) := by
            intro k
            induction k with
            | zero => intro i; exact Nat.le_refl _
            | succ k ihk => intro i; exact Nat.le_trans (ihk i) (mono (i + k))
          have m2 := mono2 (j2 - (j1 + 1)) (j1 + 1)
          rw [show j1 + 1 + (j2 - (j1 + 1)) = j2 by omega] at m2
          have jp : (if cnt = 0 then 0 else cs cnt) ≤ 300 := by split <;> omega
          rw [e2]
          rcases oc_body (u := u) (x := x) (N := N) (d := d) hT2 hRB hS H2 ((c2.2.2.2.1 5 (by omega) (by omega) (by omega) (by omega)).trans ((ck.2.2.2.1 5 (by omega) (by omega) (by omega) (by omega)).trans h5)) (by omega) g3 g4 jp hz with ⟨f, jf, v, M3, e3, b3, lf⟩ | ⟨M3, j3, b, V, e3, H3, s4, j4, c3, cv, vv, ⟨okv, okk⟩, w0, w1, w2, w3⟩
          · left
            obtain ⟨M4, e4, b4⟩ := b3.ch27 (N := N) hN (hRB _ _) m' (nI (d + 1)) v (nI cnt + 1)
            refine ⟨M4, f, jf, ?_, b4, ch_caseV (lo := fun i => if i = cnt then lo1 else lo i) (hi := fun i => if i = cnt then hi1 else hi i) (Vs := Vs) hN hT hT2 hd (cst.cg (fun i hi => ⟨if_neg (by omega), if_neg (by omega)⟩) (fun _ _ => rfl)) kb k28 (by omega) hh (if_pos rfl) (if_pos rfl) lf⟩
            rw [e3, Option.bind_some]
            exact e4
          · rw [e3, Option.bind_some]
            have cb := cv.1
            obtain ⟨ct, ec, ec1⟩ : ∃ ct : Nat → Nat, (∀ i, i ≤ cnt → ct i = cs i) ∧ ct (cnt + 1) = b + 1 := ⟨fun i => if i = cnt + 1 then b + 1 else cs i, fun i hi => if_neg (by omega), if_pos rfl⟩
            obtain ⟨lt, el, el1⟩ : ∃ lt : Nat → Nat, (∀ i, i < cnt → lt i = lo i) ∧ lt cnt = lo1 := ⟨fun i => if i = cnt then lo1 else lo i, fun i hi => if_neg (by omega), if_pos rfl⟩
            obtain ⟨ht, eh, eh1⟩ : ∃ ht : Nat → Nat, (∀ i, i < cnt → ht i = hi i) ∧ ht cnt = hi1 := ⟨fun i => if i = cnt then hi1 else hi i, fun i hi => if_neg (by omega), if_pos rfl⟩
            obtain ⟨Vt, ev, ev1⟩ : ∃ Vt : Nat → (Nat → Int32) → Int32, (∀ i, i ≤ cnt → Vt i = Vs i) ∧ Vt (cnt + 1) = V := ⟨fun i => if i = cnt + 1 then V else Vs i, fun i hi => if_neg (by omega), if_pos rfl⟩
            have c13 : CK M1 M3 sz1 := c2.tr c3 (Nat.le_refl _)
            have := ih (cnt + 1) M3 j3 (b + 1) ct lt ht Vt (by omega) (by omega) (Or.inl (by omega)) ⟨H3, ck.tr c13 (by omega), ?_, ?_, ec1, ?_, ?_, ⟨by omega, by omega⟩, okk⟩
            · rw [if_neg (by omega), ec1, show b + 1 - 1 = b from rfl] at this
              rw [nI_1]
              exact this
            · rw [ec 0 (by omega), ev 0 (by omega)]
              exact co.cong (fun q q1 q2 => c13.1 q (by omega))
            · refine CaI.step (ca.cong (fun q hq => c13.1 q (by omega))) ec (fun i hi => ⟨el i hi, eh i hi, ?_⟩) ev ?_
              · show (if i = 0 then 0 else ct i) = if i = 0 then 0 else cs i
                rw [ec i (by omega)]
              · unfold Ca1
                rw [ec cnt (Nat.le_refl _), ec1, ev1, el1, eh1, ce, show b + 1 - 1 = b from rfl]
                refine ⟨cv, by omega, g3, g4, w0, w1, w2, ?_⟩
                show M3.1 105 b = nI (51 + 64 * (if cnt = 0 then 0 else ct cnt))
                rw [ec cnt (Nat.le_refl _)]
                exact w3
            · intro i hi
              by_cases z : i = cnt + 1
              · rw [z, ev1]; exact vv
              · rw [ev i (by omega)]; exact vo i (by omega)
            · rw [if_neg (by omega)]
              exact ch_case hN hT hT2 hd (cst.cg (fun i hi => ⟨el i hi, eh i hi⟩) ev) kb k28 (by omega) hh el1 eh1 (by rw [ev1]; exact okv)
        · left
          obtain ⟨M4, e4, b4⟩ := g2.ch27 (N := N) hN (hRB _ _) m' (nI (d + 1)) v (nI cnt + 1)
          refine ⟨M4, f, jf, ?_, b4, ch_caseF hN hd cst kb k28 f1 f2 (Or.inl ⟨by omega, hf⟩)⟩
          rw [e2, Option.bind_some]
          exact e4
    · rw [if_neg (show ¬ gi M1 103 7 = (28 : Int32) from fun e => k28 ((hI.1.is (k := 28) (by decide)).mp e))]
      exact oc_ch70 hN hT hT2 hd hr hRB hS h5 (by omega) h1 hI k28
theorem oc_cho (hN : 4000 ≤ N) (hT : T ≤ 300) (hT2 : ∀ j, kd B n (stk B n j) ≠ 48 → j < T) (hd : d < 8) (hr : 1 ≤ r) (hRB : ∀ f p, RoB RO f p) (hS : OcR B n so T r (OkSu B n u so T N x (d + 1)) (FlLv B n u so T N x 5 (d + 1)) (f_r_readSum N RO (nI (d + 1)))) (h : He B n T M j sz) (h5 : M.1 103 5 = nI (12 + so)) (hk : kd B n (stk B n j) = 27) : Oc B n so T r (OneOk B n u so T N x j d) (OneFl B n u so T N x j d) M j sz (f_r_readOneB N RO (nI d) M) := by
  have up := stk_up hT2 (j := j) (by omega)
  obtain ⟨a1, a2⟩ := h.adv (hT2 j (by omega))
  have ck : CK M (adM B n M j) sz := CK.ad
  have bs : ∀ o : Option Mem, (Option.bind o fun q => some q) = o := fun o => by cases o <;> rfl
  have rd : f_r_readOneB N RO (nI d) M = f_r_readChoose N RO (nI (d + 1)) M := by
    rw [rd_84 h (Or.inr (Or.inr hk))]
    unfold f_r_readOne_84
    rw [if_pos (show nI d < (8 : Int32) from nI_lt (b := 8) hd (by decide)), if_pos (show gi M 103 7 = (27 : Int32) from (h.is (k := 27) (by decide)).mpr hk), nI_1, bs]
  rw [rd]
  unfold f_r_readChoose
  rw [a1, Option.bind_some]
  obtain ⟨N', hN'⟩ : ∃ k, N = k + 1 := ⟨N - 1, by omega⟩
  rcases hS (adM B n M j) (j + 1) sz a2 ((ck.2.2.2.1 5 (by omega) (by omega) (by omega) (by omega)).trans h5) with ⟨M', f, jf, b1, b2, b3⟩ | ⟨M', j', sz', V, b1, b2, b3, b4, b5, b6, b7, b8, b9⟩
  · left
    obtain ⟨M2, e2, g2⟩ := b2.fail 1
    obtain ⟨M3, e3, g3⟩ := g2.ch27 (N := N) hN (hRB _ _) N' (nI (d + 1)) (-1) 0
    rw [← hN'] at e3
    refine ⟨M3, f, jf, ?_, g3, one_choF hN hT2 hk hd b3⟩
    rw [b1, Option.bind_some, b2.t49, if_neg (show ¬ (49 : Int32) = 28 by decide), e2, Option.bind_some]
    exact e3
  · have cst : ChSt B n u so T N x j d j' 0 41 (fun _ => 0) (fun _ => 0) (fun _ => V) := ch_0 hN hT2 hk hd b8
    rw [b1, Option.bind_some]
    by_cases k28 : kd B n (stk B n j') = 28
    · rw [if_pos (show gi M' 103 7 = (28 : Int32) from (b2.is (k := 28) (by decide)).mpr k28)]
      exact oc_ch27 (u := u) (x := x) (d := d) hN hT hT2 hd hr hRB hS h5 N 0 M' j' sz' (fun _ => sz') (fun _ => 0) (fun _ => 0) (fun _ => V) (by omega) (by omega) (Or.inr k28) ⟨b2, ck.tr b5 (Nat.le_refl _), b6, fun i hi => by omega, rfl, fun _ _ => b7, cst, ⟨by omega, by omega⟩, b9⟩
    · left
      obtain ⟨M2, e2, g2⟩ := b2.fail (f := 1) (by omega) (by omega)
      have e2' : f_r_fail (1 : Int32) M' = some M2 := e2
      obtain ⟨M3, e3, g3⟩ := g2.ch27 (N := N) hN (hRB _ _) N' (nI (d + 1)) (-1) 0
      rw [← hN'] at e3
      refine ⟨M3, 1, j', ?_, g3, ch_bad hN hd cst (Or.inl rfl) k28 (fun e => by omega) b9⟩
      rw [if_neg (show ¬ gi M' 103 7 = (28 : Int32) from fun e => k28 ((b2.is (k := 28) (by decide)).mp e)), e2', Option.bind_some]
      exact e3
/-- one, whole -/
theorem oc_one (hN : 4000 ≤ N) (hT : T ≤ 300) (hT2 : ∀ j, kd B n (stk B n j) ≠ 48 → j < T) (hs : so < 3) : ∀ (k d : Nat), d ≤ 8 → 8 < k + d → OcR B n so T (1 + 2 * (8 - d)) (OkOn B n u so T N x d) (FlOn B n u so T N x d) (f_r_readOne N k (nI d)) := by
  intro k
  induction k with
  | zero => intro d h1 h2; omega
  | succ k ih =>
    intro d h1 h2 M j sz h h5
    show Oc B n so T (1 + 2 * (8 - d)) (OneOk B n u so T N x j d) (OneFl B n u so T N x j d) M j sz (f_r_readOneB N (f_r_readOne N k) (nI d) M)
    by_cases k33 : kd B n (stk B n j) = 33
    · exact (oc_num hN hT hT2 h k33).mono (by omega)
    · by_cases k12 : kd B n (stk B n j) < 12
      · exact (oc_name hN hT hT2 hs h h5 k12).mono (by omega)
      · by_cases kO : kd B n (stk B n j) = 42 ∨ kd B n (stk B n j) = 39 ∨ kd B n (stk B n j) = 27
        · by_cases d8 : d = 8
          · subst d8
            exact oc_deep h kO
          · have i1 := ih (d + 1) (by omega) (by omega)
            obtain ⟨k', rfl⟩ : ∃ k', k = k' + 1 := ⟨k - 1, by omega⟩
            have hRB : ∀ f p, RoB (f_r_readOne N (k' + 1)) f p := fun f p => ro_b N k' f p
            have pr := oc_prod (RO := f_r_readOne N (k' + 1)) (d := d + 1) hN hT hT2 (by omega) i1
            have su := oc_sum (RO := f_r_readOne N (k' + 1)) (d := d + 1) hN hT hT2 (by omega) pr
            have er : 1 + 2 * (8 - (d + 1)) + 1 + 1 = 1 + 2 * (8 - d) := by omega
            rw [er] at su
            rcases kO with kO | kO | kO
            · exact oc_par hN hT hT2 (by omega) su h h5 kO
            · exact Oc.mono (r := 1 + 2 * (8 - (d + 1))) (oc_neg hN hT hT2 (by omega) (by omega) i1 h h5 kO) (by omega)
            · exact oc_cho hN hT hT2 (by omega) (by omega) hRB su h h5 kO
        · exact oc_bad hN h (by omega) k33 (by omega) (by omega) (by omega)
/-- a sum, whole -/
theorem oc_all (hN : 4000 ≤ N) (hT : T ≤ 300) (hT2 : ∀ j, kd B n (stk B n j) ≠ 48 → j < T) (hs : so < 3) (hd : d ≤ 8) : OcR B n so T 19 (OkSu B n u so T N x d) (FlLv B n u so T N x 5 d) (f_r_readSum N (f_r_readOne N 12) (nI d)) := by
  have i1 := oc_one (u := u) (x := x) hN hT hT2 hs 12 d hd (by omega)
  have pr := oc_prod (RO := f_r_readOne N 12) (d := d) hN hT hT2 (by omega) i1
  have su := oc_sum (RO := f_r_readOne N 12) (d := d) hN hT hT2 (by omega) pr
  exact fun M j sz h h5 => (su M j sz h h5).mono (by omega)
end CHO
