/-! Choose in the reference: else, and the end. -/
section SHUT
variable {B : Nat → Nat} {n u so T N : Nat} {x : Int32} {j d jc cnt : Nat} {lo hi : Nat → Nat} {Vs : Nat → (Nat → Int32) → Int32}
theorem else_go (hN : 4000 ≤ N) (hc6 : cnt ≤ 6) (hT2 : ∀ j, kd B n (stk B n j) ≠ 48 → j < T) (hd : d < 8) (h : ChSt B n u so T N x j d jc cnt 42 lo hi Vs) (hj : kd B n (stk B n jc) = 30) (m : Nat) (M : Mem) (p g w : Nat) (hP : Pr B n u so T M j d p g w) (hm : T + 2 ≤ m + j) : ∃ m' Mb w1, f_m_parsed_25 N m x M = f_m_parsed_25 N m' x Mb ∧ T + 2 ≤ m' + (jc + 1) ∧ Pr B n u so T Mb (jc + 1) (d + 1) (p + 1) (g + 1) w1 ∧ Kp u M Mb p g w ∧ Mb.1 134 p = nI 43 ∧ Mb.1 135 g = nI cnt ∧ (∀ i, i < cnt → Mb.1 136 (6 * g + i) = nI (lo i) ∧ Mb.1 137 (6 * g + i) = nI (hi i)) ∧ RCs so (Mb.1 132) (705 * u + 97) w w1 (cnt + 1) Vs ∧ w1 + cnt + 1 + j ≤ w + jc := by
  have b := hP.2.1
  obtain ⟨m1, Mb, M1, M1', wb, w1, e1, l1, W, K, t1, t2, t3, rc, l2, l3⟩ := h m M p g w hP hm
  obtain ⟨o1, o2, o3, o4⟩ := in_br (N := N) hN (kb := 42) (by omega) W t1 (by omega) (by omega)
  obtain ⟨⟨q, q1, q2, ⟨wa, q3⟩, q4⟩, R', K1, K2, co⟩ := W
  have jT := hT2 jc (by omega)
  have w01 := rc.1
  have w12 := co.1
  have tk := q3.2.1.2.2
  have wc := (tk.wn (k := 28) (v := 1667330917) (by decide) (by decide)).mpr (by omega)
  have we : ¬ f_m_isWord 1701606245 M1 = 0 := fun e => (tk.wn (k := 30) (v := 1701606245) (by decide) (by decide)).mp e hj
  obtain ⟨m2, rfl⟩ : ∃ m2, m1 = m2 + 1 := ⟨m1 - 1, by omega⟩
  have s2 : Rs B n u (si (si M1' 134 p 43) 129 22 0) jc (d + 1) (p + 1) (g + 1) w1 0 := by
    have R'' := R'
    obtain ⟨a, b, c, d1, d2, d3, d4, d5⟩ := R''
    refine R'.up ?_ rfl ?_ ?_ ?_ ?_ ?_ ?_
    · rw [si_1, if_neg (by decide), si_1, if_neg (by decide)]
    · intro i hi
      rw [si_at, if_neg (by omega), si_at, if_neg (by omega)]
    · rw [si_at, if_neg (by omega), si_at, if_neg (by omega)]; exact d1
    · rw [si_at, if_neg (by omega), si_at, if_neg (by omega)]; exact d2
    · rw [si_at, if_neg (by omega), si_at, if_neg (by omega)]; exact d3
    · rw [si_at, if_neg (by omega), si_at, if_neg (by omega)]; exact d4
    · rw [si_at, if_pos ⟨rfl, rfl⟩]; rfl
  obtain ⟨M2, n1, n2, n3⟩ := s2.next hN
  have K3 : Kp u M1' M2 p (g + 1) w1 := ((Kp.pile p _ (Nat.le_refl _)).tr (Kp.f 22 _ (by omega)) (Nat.le_refl _) (Nat.le_refl _) (Nat.le_refl _)).tr n3.kp (Nat.le_refl _) (Nat.le_refl _) (Nat.le_refl _)
  have K4 : Kp u Mb M2 p (g + 1) wb := (K2.mono (by omega) (Nat.le_refl _) (Nat.le_refl _)).tr K3 (Nat.le_refl _) (Nat.le_refl _) (by omega)
  have KM : Kp u M M2 p g w := K.tr K4 (Nat.le_refl _) (by omega) (by omega)
  have t4 : M2.1 134 p = nI 43 := by
    rw [n3.1 _ _ (by omega), si_at, if_neg (by omega), si_at, if_pos ⟨rfl, rfl⟩]
    rfl
  refine ⟨m2, M2, w1, ?_, by omega, ⟨n2, by omega, ?_, fun _ => ⟨by omega, 43, by omega, t4, Or.inl (by decide)⟩⟩, KM, t4, (K4.2.1 g (by omega)).trans t2, ?_, RCs.snoc (rc.cong (fun i i1 i2 => K4.2.2.2.1 i i2)) (co.cong (fun i i1 i2 => K3.2.2.2.1 i i2)), l2⟩
  · have bo : f_m_behindOne N M1 = some (0, M2) := by
      unfold f_m_behindOne f_m_behindOne_68 f_m_behindOne_102 f_m_behindOne_137 f_m_behindOne_168
      rw [o2, Option.bind_some, if_pos (show (-1 : Int32) < 0 by decide), o1, Option.bind_some, if_pos wc, if_neg (show ¬ nI 42 = (40 : Int32) by decide), if_neg (show ¬ nI 42 = (43 : Int32) by decide), if_neg (show ¬ nI 42 = (41 : Int32) by decide), if_pos (show nI 42 = (42 : Int32) from rfl), if_pos (show (0 : Int32) = 0 from rfl), if_pos (show nI 42 = (42 : Int32) from rfl), if_neg we, o3, Option.bind_some, if_pos (show (0 : Int32) = 0 from rfl), show gi M1' 129 19 = nI (p + 1) from R'.2.2.2.2.1, nI_s1, if_pos (am_in_nI (by omega) (by decide)), nI_clamp (by omega), Option.bind_some, Option.bind_some, if_pos (show (0 : Int32) = 0 from rfl), n1]
      rfl
    rw [e1, p25_1 q3.2.2.2.2.2.2.2, bo, Option.bind_some]
    exact p43_0 N _ x M2
  · rw [KM.2.2.2.2.2.1 14 (by omega)]
    exact hP.2.2.1
  · intro i hi2
    obtain ⟨x1, x2⟩ := t3 i hi2
    exact ⟨(K4.2.2.1 (6 * g + i) (by omega)).1.trans x1, (K4.2.2.1 (6 * g + i) (by omega)).2.trans x2⟩
/-- the pairs are written behind -/
theorem shut_loop (hN : 4000 ≤ N) (hu : u < 4) {j5 p g w2 : Nat} (hg : g < 9) (hw : w2 + cnt ≤ 303) (hc6 : cnt ≤ 6) : ∀ (r i m : Nat) (M : Mem), i + r = cnt → r < m → Rs B n u M j5 d p g (w2 + 1 + i) 1 → M.1 135 g = nI cnt → (∀ i, i < cnt → M.1 136 (6 * g + i) = nI (lo i) ∧ M.1 137 (6 * g + i) = nI (hi i)) → ∃ Mf, f_m_shut_52 N m (nI i) M = (Option.bind (f_m_nextToken N Mf) fun q7 => Option.bind (f_m_settle N 7 q7) fun q8 => some q8) ∧ Rs B n u Mf j5 d p g (w2 + 1 + cnt) 1 ∧ Kp u M Mf p g (w2 + 1 + i) ∧ ∀ k, i ≤ k → k < cnt → Mf.1 132 (705 * u + 97 + 2 * (w2 + 1 + k)) = nI (lo k) ∧ Mf.1 132 (705 * u + 97 + 2 * (w2 + 1 + k) + 1) = nI (hi k) := by
  intro r
  induction r with
  | zero =>
    intro i m M h1 h2 hR hc hl
    obtain ⟨m', rfl⟩ : ∃ m', m = m' + 1 := ⟨m - 1, by omega⟩
    have e : i = cnt := by omega
    subst e
    refine ⟨M, ?_, hR, Kp.rf, fun k k1 k2 => by omega⟩
    rw [f_m_shut_52, show gi M 129 21 = nI g from hR.2.2.2.2.2.2.1, if_pos (am_in_nI hg (by decide)), nI_clamp (by omega), show gi M 135 g = nI i from hc, if_pos (nI_le (Nat.le_refl _) (by omega))]
  | succ r ih =>
    intro i m M h1 h2 hR hc hl
    obtain ⟨m', rfl⟩ : ∃ m', m = m' + 1 := ⟨m - 1, by omega⟩
    obtain ⟨x1, x2⟩ := hl i (by omega)
    have ix : (6 : Int32) * nI g + nI i = nI (6 * g + i) := by rw [show (6 : Int32) = nI 6 from rfl, nI_mul, nI_add]
    have K1 : Kp u M (emM u M (w2 + 1 + i) (nI (lo i)) (nI (hi i))) p (g + 1) (w2 + 1 + i) := emM_kp
    have oth : ∀ k y, k ≠ 129 → k ≠ 132 → (emM u M (w2 + 1 + i) (nI (lo i)) (nI (hi i))).1 k y = M.1 k y := fun k y a b => by rw [emM_at, if_neg (by omega), if_neg (by omega), if_neg (by omega)]
    obtain ⟨Mf, a1, a2, a3, a4⟩ := ih (i + 1) m' (emM u M (w2 + 1 + i) (nI (lo i)) (nI (hi i))) (by omega) (by omega) (emM_rs hR _ _) (by rw [oth _ _ (by omega) (by omega)]; exact hc) (fun k hk => by rw [oth _ _ (by omega) (by omega), oth _ _ (by omega) (by omega)]; exact hl k hk)
    refine ⟨Mf, ?_, a2, (K1.mono (Nat.le_refl _) (by omega) (Nat.le_refl _)).tr a3 (Nat.le_refl _) (Nat.le_refl _) (by omega), fun k k1 k2 => ?_⟩
    · rw [f_m_shut_52, show gi M 129 21 = nI g from hR.2.2.2.2.2.2.1, if_pos (am_in_nI hg (by decide)), nI_clamp (by omega), show gi M 135 g = nI cnt from hc, if_neg (nI_ge (by omega) (by omega)), ix, if_pos (am_in_nI (by omega) (by decide)), if_pos (am_in_nI (by omega) (by decide)), nI_clamp (by omega), show gi M 136 (6 * g + i) = nI (lo i) from x1, show gi M 137 (6 * g + i) = nI (hi i) from x2, r_emit (u := u) (w := w2 + 1 + i) hR.2.2.1 hR.2.2.2.1 hu (by omega), Option.bind_some, nI_1]
      exact a1
    · by_cases z : k = i
      · subst z
        refine ⟨?_, ?_⟩
        · rw [a3.2.2.2.1 _ (by omega), emM_at, if_neg (by omega), if_neg (by omega), if_pos ⟨rfl, rfl⟩]
        · rw [a3.2.2.2.1 _ (by omega), emM_at, if_neg (by omega), if_pos ⟨rfl, rfl⟩]
      · exact a4 k (by omega) k2
theorem one_choE (hN : 4000 ≤ N) (hc6 : cnt ≤ 6) (hT2 : ∀ j, kd B n (stk B n j) ≠ 48 → j < T) (hd : d < 8) (h : ChSt B n u so T N x j d jc cnt 42 lo hi Vs) (hj : kd B n (stk B n jc) = 30) {f jf : Nat} (hv : LvFl B n u so T N x 5 (jc + 1) (d + 1) f jf) : OneFl B n u so T N x j d f jf := by
  intro m M p g w hP hm
  have b := hP.2.1
  obtain ⟨m1, Mb, w1, e1, l1, P1, k1, t1, t2, t3, rc, l2⟩ := else_go (N := N) hN hc6 hT2 hd h hj m M p g w hP hm
  obtain ⟨M2, e2, a2, k2⟩ := hv m1 Mb (p + 1) (g + 1) w1 P1 (by omega) (Or.inr ⟨43, by omega, t1, by decide⟩) l1
  have w01 := rc.1
  exact ⟨M2, by rw [e1, e2], a2, k1.tr k2 (by omega) (by omega) (by omega)⟩
theorem one_choM (hN : 4000 ≤ N) (hc6 : cnt ≤ 6) (hT2 : ∀ j, kd B n (stk B n j) ≠ 48 → j < T) (hd : d < 8) (h : ChSt B n u so T N x j d jc cnt 42 lo hi Vs) (hj : kd B n (stk B n jc) = 30) {j5 : Nat} {Ve : (Nat → Int32) → Int32} (hv : LvOk B n u so T N x 5 (jc + 1) (d + 1) j5 Ve) (hj5 : kd B n (stk B n j5) ≠ 31) (hj6 : kd B n (stk B n j5) < 38 ∨ 41 < kd B n (stk B n j5)) : OneFl B n u so T N x j d 1 j5 := by
  intro m M p g w hP hm
  have b := hP.2.1
  obtain ⟨m1, Mb, w1, e1, l1, P1, k1, t1, t2, t3, rc, l2⟩ := else_go (N := N) hN hc6 hT2 hd h hj m M p g w hP hm
  obtain ⟨m2, M2, M2', w2, e2, l3, W2, l4, l5⟩ := hv m1 Mb (p + 1) (g + 1) w1 P1 (by omega) (Or.inr ⟨43, by omega, t1, by decide⟩) l1
  obtain ⟨o1, o2, o3, o4⟩ := in_br (N := N) hN (kb := 43) (by omega) W2 t1 (by omega) hj6
  obtain ⟨⟨q, q1, q2, ⟨wa, q3⟩, q4⟩, R', K1, K2, co⟩ := W2
  have w01 := rc.1
  have tk := q3.2.1.2.2
  have we := (tk.wn (k := 31) (v := 6647396) (by decide) (by decide)).mpr hj5
  obtain ⟨m3, rfl⟩ : ∃ m3, m2 = m3 + 1 := ⟨m2 - 1, by omega⟩
  refine ⟨M2, ?_, q3.2.1.1, k1.tr K1 (by omega) (by omega) (by omega)⟩
  have bo : f_m_behindOne N M2 = some (-1, M2) := by
    unfold f_m_behindOne f_m_behindOne_68 f_m_behindOne_102 f_m_behindOne_137
    rw [o2, Option.bind_some, if_pos (show (-1 : Int32) < 0 by decide), o1, Option.bind_some, if_neg (show ¬ nI 43 = (40 : Int32) by decide), if_pos (show nI 43 = (43 : Int32) from rfl), if_pos we, if_neg (show ¬ nI 43 = (41 : Int32) by decide), if_neg (show ¬ nI 43 = (42 : Int32) by decide), if_pos (show (0 : Int32) = 0 from rfl), if_neg (show ¬ nI 43 = (42 : Int32) by decide)]
  rw [e1, e2, p25_1 q3.2.2.2.2.2.2.2, bo, Option.bind_some]
  unfold f_m_parsed_43
  rw [if_pos (show (-1 : Int32) ≤ 0 by decide), if_neg (show ¬ (-1 : Int32) = 0 by decide), o1, Option.bind_some, if_pos (show (0 : Int32) ≤ nI 43 by decide)]
  rfl
theorem one_cho (hN : 4000 ≤ N) (hT : T ≤ 300) (hc6 : cnt ≤ 6) (hT2 : ∀ j, kd B n (stk B n j) ≠ 48 → j < T) (hd : d < 8) (h : ChSt B n u so T N x j d jc cnt 42 lo hi Vs) (hj : kd B n (stk B n jc) = 30) {j5 : Nat} (hv : LvOk B n u so T N x 5 (jc + 1) (d + 1) j5 (Vs (cnt + 1))) (hj5 : kd B n (stk B n j5) = 31) : OneOk B n u so T N x j d (j5 + 1) (fun e => Vs (1 + pik lo hi (Vs 0 e) cnt cnt) e) := by
  intro m M p g w hP hm
  have b := hP.2.1
  obtain ⟨m1, Mb, w1, e1, l1, P1, k1, t1, t2, t3, rc, l2⟩ := else_go (N := N) hN hc6 hT2 hd h hj m M p g w hP hm
  obtain ⟨m2, M2, M2', w2, e2, l3, W2, l4, l5⟩ := hv m1 Mb (p + 1) (g + 1) w1 P1 (by omega) (Or.inr ⟨43, by omega, t1, by decide⟩) l1
  obtain ⟨o1, o2, o3, o4⟩ := in_br (N := N) hN (kb := 43) (by omega) W2 t1 (by omega) (by omega)
  obtain ⟨⟨q, q1, q2, ⟨wa, q3⟩, q4⟩, R', K1, K2, co⟩ := W2
  have w01 := rc.1
  have w12 := co.1
  have jT := hT2 j5 (by omega)
  have tk := q3.2.1.2.2
  have we : ¬ f_m_isWord 6647396 M2 = 0 := fun e => (tk.wn (k := 31) (v := 6647396) (by decide) (by decide)).mp e hj5
  obtain ⟨m3, rfl⟩ : ∃ m3, m2 = m3 + 1 := ⟨m2 - 1, by omega⟩
  have R3 : Rs B n u (si (si (si M2' 129 19 (nI p)) 129 20 (nI d)) 129 21 (nI g)) j5 d p g w2 1 := by
    have R'' := R'
    obtain ⟨a, b, c, d1, d2, d3, d4, d5⟩ := R''
    refine R'.up rfl rfl ?_ ?_ ?_ ?_ ?_ ?_
    · intro i hi
      rw [si_at, if_neg (by omega), si_at, if_neg (by omega), si_at, if_neg (by omega)]
    · rw [si_at, if_neg (by omega), si_at, if_neg (by omega), si_at, if_neg (by omega)]; exact d1
    · rw [si_at, if_neg (by omega), si_at, if_neg (by omega), si_at, if_pos ⟨rfl, rfl⟩]
    · rw [si_at, if_neg (by omega), si_at, if_pos ⟨rfl, rfl⟩]
    · rw [si_at, if_pos ⟨rfl, rfl⟩]
    · rw [si_at, if_neg (by omega), si_at, if_neg (by omega), si_at, if_neg (by omega)]; exact d5
  have K3 : Kp u M2' (si (si (si M2' 129 19 (nI p)) 129 20 (nI d)) 129 21 (nI g)) p (g + 1) w2 := ((Kp.f 19 _ (by omega)).tr (Kp.f 20 _ (by omega)) (Nat.le_refl _) (Nat.le_refl _) (Nat.le_refl _)).tr (Kp.f 21 _ (by omega)) (Nat.le_refl _) (Nat.le_refl _) (Nat.le_refl _)
  have KB : Kp u Mb (si (si (si M2' 129 19 (nI p)) 129 20 (nI d)) 129 21 (nI g)) p (g + 1) w1 := (K2.mono (by omega) (Nat.le_refl _) (Nat.le_refl _)).tr K3 (Nat.le_refl _) (Nat.le_refl _) (by omega)
  have R4 := emM_rs R3 2 (nI cnt)
  have K4 : Kp u (si (si (si M2' 129 19 (nI p)) 129 20 (nI d)) 129 21 (nI g)) (emM u (si (si (si M2' 129 19 (nI p)) 129 20 (nI d)) 129 21 (nI g)) w2 2 (nI cnt)) p (g + 1) w2 := emM_kp
  have KC : Kp u Mb (emM u (si (si (si M2' 129 19 (nI p)) 129 20 (nI d)) 129 21 (nI g)) w2 2 (nI cnt)) p (g + 1) w1 := KB.tr K4 (Nat.le_refl _) (Nat.le_refl _) (by omega)
  obtain ⟨Mf, a1, a2, a3, a4⟩ := shut_loop (N := N) (B := B) (n := n) (d := d) (cnt := cnt) (lo := lo) (hi := hi) hN b.2.2.2.2.2 (j5 := j5) (p := p) (g := g) (w2 := w2) (by omega) (by omega) hc6 cnt 0 N (emM u (si (si (si M2' 129 19 (nI p)) 129 20 (nI d)) 129 21 (nI g)) w2 2 (nI cnt)) (by omega) (by omega) R4 ((KC.2.1 g (by omega)).trans t2) (fun i hi => by
    obtain ⟨y1, y2⟩ := KC.2.2.1 (6 * g + i) (by omega)
    obtain ⟨x1, x2⟩ := t3 i hi
    exact ⟨y1.trans x1, y2.trans x2⟩)
  obtain ⟨M5, n1, n2, n3⟩ := a2.next hN
  have KF : Kp u (emM u (si (si (si M2' 129 19 (nI p)) 129 20 (nI d)) 129 21 (nI g)) w2 2 (nI cnt)) M5 p g (w2 + 1) := a3.tr n3.kp (Nat.le_refl _) (Nat.le_refl _) (Nat.le_refl _)
  have KG : Kp u Mb M5 p g w1 := (KC.mono (Nat.le_refl _) (by omega) (Nat.le_refl _)).tr KF (Nat.le_refl _) (Nat.le_refl _) (by omega)
  have KH : Kp u M2' M5 p g w2 := ((K3.tr K4 (Nat.le_refl _) (Nat.le_refl _) (Nat.le_refl _)).mono (Nat.le_refl _) (by omega) (Nat.le_refl _)).tr KF (Nat.le_refl _) (Nat.le_refl _) (by omega)
  have sh : f_m_shut N (nI 43) M2' = (Option.bind (f_m_settle N 7 M5) fun q8 => some q8) := by
    unfold f_m_shut
    rw [show gi M2' 129 19 = nI (p + 1) from R'.2.2.2.2.1, nI_s1, Option.bind_some, show gi (si M2' 129 19 (nI p)) 129 20 = nI (d + 1) from R'.2.2.2.2.2.1, nI_s1, Option.bind_some, if_pos (show nI 43 = (43 : Int32) from rfl), show gi (si (si M2' 129 19 (nI p)) 129 20 (nI d)) 129 21 = nI (g + 1) from R'.2.2.2.2.2.2.1, nI_s1, Option.bind_some, show gi (si (si (si M2' 129 19 (nI p)) 129 20 (nI d)) 129 21 (nI g)) 129 21 = nI g from R3.2.2.2.2.2.2.1, if_pos (am_in_nI (by omega) (by decide)), nI_clamp (by omega), show gi (si (si (si M2' 129 19 (nI p)) 129 20 (nI d)) 129 21 (nI g)) 135 g = nI cnt from (KB.2.1 g (by omega)).trans t2, r_emit (u := u) (w := w2) R3.2.2.1 R3.2.2.2.1 (by omega) (by omega), Option.bind_some, show (0 : Int32) = nI 0 from rfl, a1, n1, Option.bind_some]
  refine ⟨m3, N, M5, w2 + 1 + cnt, ?_, by omega, by omega, n2, ?_, ?_, by omega, by omega⟩
  · rw [e1, e2, p25_1 q3.2.2.2.2.2.2.2]
    unfold f_m_behindOne f_m_behindOne_68
    rw [o2, Option.bind_some, if_pos (show (-1 : Int32) < 0 by decide), o1, Option.bind_some, if_neg (show ¬ nI 43 = (40 : Int32) by decide), if_pos (show nI 43 = (43 : Int32) from rfl), if_neg we, o3, Option.bind_some, sh]
    unfold f_m_settle
    cases f_m_settle_0 N N 7 M5 with
    | none => rfl
    | some z => exact p43_0 N _ x z
  · exact k1.tr KG (Nat.le_refl _) (Nat.le_refl _) (by omega)
  · refine RCo.cho (RCs.snoc (rc.cong (fun i i1 i2 => KG.2.2.2.1 i i2)) (co.cong (fun i i1 i2 => KH.2.2.2.1 i i2))) hc6 ?_ ?_ (fun i hi => ?_)
    · rw [KF.2.2.2.1 _ (by omega), emM_at, if_neg (by omega), if_neg (by omega), if_pos ⟨rfl, rfl⟩]
    · rw [KF.2.2.2.1 _ (by omega), emM_at, if_neg (by omega), if_pos ⟨rfl, rfl⟩]
    · obtain ⟨y1, y2⟩ := a4 i (by omega) hi
      rw [n3.1 _ _ (by omega), n3.1 _ _ (by omega)]
      exact ⟨y1, y2⟩
end SHUT
