/-! Choose in the reference: one case more; where it fails. -/
theorem Kp.mono {u p g w p' g' w' : Nat} {M M' : Mem} (h : Kp u M M' p g w) (hp : p' ≤ p) (hg : g' ≤ g) (hw : w' ≤ w) : Kp u M M' p' g' w' := by
  obtain ⟨a1, a2, a3, a4, a5⟩ := h
  exact ⟨fun i hi => a1 i (by omega), fun i hi => a2 i (by omega), fun i hi => a3 i (by omega), fun i hi => a4 i (by omega), a5⟩
section CASES
variable {B : Nat → Nat} {n u so T N : Nat} {x : Int32} {j d jc cnt kb : Nat} {lo hi : Nat → Nat} {Vs : Nat → (Nat → Int32) → Int32}
theorem HdOk.le {j2 l h : Nat} (hh : HdOk B n jc j2 l h) : jc + 3 ≤ j2 ∧ kd B n (stk B n (j2 - 1)) = 44 ∧ l ≤ 9999 ∧ h ≤ 9999 := by
  obtain ⟨h1, h2, h3, h4 | h4⟩ := hh
  · refine ⟨by omega, ?_, by omega, by omega⟩
    rw [show j2 - 1 = jc + 2 by omega]
    exact h4.1
  · refine ⟨by omega, ?_, by omega, by omega⟩
    rw [show j2 - 1 = jc + 4 by omega]
    exact h4.2.2.2.2.2.1
/-- the head is read: the value is to come -/
theorem case_go (hN : 4000 ≤ N) (hT : T ≤ 300) (hT2 : ∀ j, kd B n (stk B n j) ≠ 48 → j < T) (hd : d < 8) (h : ChSt B n u so T N x j d jc cnt kb lo hi Vs) (hkb : kb = 41 ∨ kb = 42) (hj : kd B n (stk B n jc) = 28) (hc : cnt < 6) {j2 l h' : Nat} (hh : HdOk B n jc j2 l h') (hl : lo cnt = l) (hi' : hi cnt = h') (m : Nat) (M : Mem) (p g w : Nat) (hP : Pr B n u so T M j d p g w) (hm : T + 2 ≤ m + j) : ∃ m' Mb w1, f_m_parsed_25 N m x M = f_m_parsed_25 N m' x Mb ∧ T + 2 ≤ m' + j2 ∧ Pr B n u so T Mb j2 (d + 1) (p + 1) (g + 1) w1 ∧ Kp u M Mb p g w ∧ Mb.1 134 p = nI 42 ∧ Mb.1 135 g = nI (cnt + 1) ∧ (∀ i, i < cnt + 1 → Mb.1 136 (6 * g + i) = nI (lo i) ∧ Mb.1 137 (6 * g + i) = nI (hi i)) ∧ RCs so (Mb.1 132) (705 * u + 97) w w1 (cnt + 1) Vs ∧ w1 + cnt + 1 + j ≤ w + jc := by
  have b := hP.2.1
  obtain ⟨m1, Mb, M1, M1', wb, w1, e1, l1, W, K, t1, t2, t3, rc, l2, l3⟩ := h m M p g w hP hm
  obtain ⟨s1, s2, s3⟩ := step28 (N := N) hN W t1 hkb (by omega) hj
  obtain ⟨⟨q, q1, q2, ⟨wa, q3⟩, q4⟩, R', K1, K2, co⟩ := W
  obtain ⟨hl1, hl2, hl3, hl4⟩ := hh.le
  have jT := hT2 (j2 - 1) (by omega)
  have w01 := rc.1
  have w12 := co.1
  have c0 : (si (si M1' 134 p 42) 129 22 0).1 135 g = nI cnt := by
    rw [(s3 (g + 1)).2.1 g (by omega), K2.2.1 g (by omega)]
    exact t2
  obtain ⟨M2, a1, a2, a3, a4, a5, a6⟩ := (case_head (N := N) hN s2 (by omega) c0 hc).1 j2 l h' hh
  have kk := a6 (p + 1)
  have t4 : M2.1 134 p = nI 42 := by
    rw [kk.1.1 p (by omega), si_at, if_neg (by omega), si_at, if_pos ⟨rfl, rfl⟩]
    rfl
  have K3 : Kp u M1' M2 p g w1 := (s3 g).tr kk.1 (by omega) (Nat.le_refl _) (Nat.le_refl _)
  have K4 : Kp u Mb M2 p g wb := (K2.mono (by omega) (by omega) (Nat.le_refl _)).tr K3 (Nat.le_refl _) (Nat.le_refl _) (by omega)
  have KM : Kp u M M2 p g w := K.tr K4 (Nat.le_refl _) (Nat.le_refl _) (by omega)
  obtain ⟨m2, rfl⟩ : ∃ m2, m1 = m2 + 1 := ⟨m1 - 1, by omega⟩
  refine ⟨m2, M2, w1, ?_, by omega, ⟨a2, by omega, ?_, fun _ => ⟨by omega, 42, by omega, t4, Or.inl (by decide)⟩⟩, KM, t4, a3, ?_, RCs.snoc (rc.cong (fun i i1 i2 => K4.2.2.2.1 i i2)) (co.cong (fun i i1 i2 => K3.2.2.2.1 i i2)), l2⟩
  · rw [e1, p25_1 q3.2.2.2.2.2.2.2, s1, a1, Option.bind_some, Option.bind_some]
    exact p43_0 N _ x M2
  · rw [KM.2.2.2.2.2.1 14 (by omega)]
    exact hP.2.2.1
  · intro i hi2
    by_cases z : i = cnt
    · rw [z, hl, hi']
      exact ⟨a4, a5⟩
    · obtain ⟨y1, y2⟩ := kk.2 (6 * g + i) (by omega)
      obtain ⟨z1, z2⟩ := K2.2.2.1 (6 * g + i) (by omega)
      obtain ⟨x1, x2⟩ := t3 i (by omega)
      refine ⟨?_, ?_⟩
      · rw [y1, si_at, if_neg (by omega), si_at, if_neg (by omega), z1, x1]
      · rw [y2, si_at, if_neg (by omega), si_at, if_neg (by omega), z2, x2]
theorem ch_case (hN : 4000 ≤ N) (hT : T ≤ 300) (hT2 : ∀ j, kd B n (stk B n j) ≠ 48 → j < T) (hd : d < 8) (h : ChSt B n u so T N x j d jc cnt kb lo hi Vs) (hkb : kb = 41 ∨ kb = 42) (hj : kd B n (stk B n jc) = 28) (hc : cnt < 6) {j2 j3 l h' : Nat} (hh : HdOk B n jc j2 l h') (hl : lo cnt = l) (hi' : hi cnt = h') (hv : LvOk B n u so T N x 5 j2 (d + 1) j3 (Vs (cnt + 1))) : ChSt B n u so T N x j d j3 (cnt + 1) 42 lo hi Vs := by
  intro m M p g w hP hm
  have b := hP.2.1
  obtain ⟨m1, Mb, w1, e1, l1, P1, k1, t1, t2, t3, rc, l2⟩ := case_go (N := N) hN hT hT2 hd h hkb hj hc hh hl hi' m M p g w hP hm
  obtain ⟨hl1, hl2, hl3, hl4⟩ := hh.le
  obtain ⟨m2, M2, M2', w2, e2, l3, W2, l4, l5⟩ := hv m1 Mb (p + 1) (g + 1) w1 P1 (by omega) (Or.inr ⟨42, by omega, t1, by decide⟩) l1
  exact ⟨m2, Mb, M2, M2', w1, w2, by rw [e1, e2], l3, W2, k1, t1, t2, t3, rc, by omega, l5⟩
theorem ch_caseV (hN : 4000 ≤ N) (hT : T ≤ 300) (hT2 : ∀ j, kd B n (stk B n j) ≠ 48 → j < T) (hd : d < 8) (h : ChSt B n u so T N x j d jc cnt kb lo hi Vs) (hkb : kb = 41 ∨ kb = 42) (hj : kd B n (stk B n jc) = 28) (hc : cnt < 6) {j2 l h' f jf : Nat} (hh : HdOk B n jc j2 l h') (hl : lo cnt = l) (hi' : hi cnt = h') (hv : LvFl B n u so T N x 5 j2 (d + 1) f jf) : OneFl B n u so T N x j d f jf := by
  intro m M p g w hP hm
  have b := hP.2.1
  obtain ⟨m1, Mb, w1, e1, l1, P1, k1, t1, t2, t3, rc, l2⟩ := case_go (N := N) hN hT hT2 hd h hkb hj hc hh hl hi' m M p g w hP hm
  obtain ⟨M2, e2, a2, k2⟩ := hv m1 Mb (p + 1) (g + 1) w1 P1 (by omega) (Or.inr ⟨42, by omega, t1, by decide⟩) l1
  have w01 := rc.1
  exact ⟨M2, by rw [e1, e2], a2, k1.tr k2 (by omega) (by omega) (by omega)⟩
/-- a head that isn't as it should be; a seventh case -/
theorem ch_caseF (hN : 4000 ≤ N) (hd : d < 8) (h : ChSt B n u so T N x j d jc cnt kb lo hi Vs) (hkb : kb = 41 ∨ kb = 42) (hj : kd B n (stk B n jc) = 28) {f jf : Nat} (hf1 : 1 ≤ f) (hf2 : f ≤ 7) (hc : (cnt < 6 ∧ HdFl B n jc f jf) ∨ (cnt = 6 ∧ f = 7 ∧ jf = jc)) : OneFl B n u so T N x j d f jf := by
  intro m M p g w hP hm
  have b := hP.2.1
  obtain ⟨m1, Mb, M1, M1', wb, w1, e1, l1, W, K, t1, t2, t3, rc, l2, l3⟩ := h m M p g w hP hm
  obtain ⟨s1, s2, s3⟩ := step28 (N := N) hN W t1 hkb (by omega) hj
  obtain ⟨⟨q, q1, q2, ⟨wa, q3⟩, q4⟩, R', K1, K2, co⟩ := W
  have w01 := rc.1
  have w12 := co.1
  have c0 : (si (si M1' 134 p 42) 129 22 0).1 135 g = nI cnt := by
    rw [(s3 (g + 1)).2.1 g (by omega), K2.2.1 g (by omega)]
    exact t2
  obtain ⟨m2, rfl⟩ : ∃ m2, m1 = m2 + 1 := ⟨m1 - 1, by omega⟩
  have fin : ∃ M2, f_m_oneCase N (si (si M1' 134 p 42) 129 22 0) = some (nI f, M2) ∧ M2.1 129 8 = nI (stk B n jf) ∧ Kp u (si (si M1' 134 p 42) 129 22 0) M2 p g w1 := by
    rcases hc with ⟨c1, c2⟩ | ⟨c1, c2, c3⟩
    · obtain ⟨M2, a1, a2, a3⟩ := (case_head (N := N) hN s2 (by omega) c0 c1).2 f jf c2
      exact ⟨M2, a1, a2, (a3 p).1⟩
    · refine ⟨_, ?_, ?_, Kp.rf⟩
      · unfold f_m_oneCase
        rw [show gi (si (si M1' 134 p 42) 129 22 0) 129 21 = nI (g + 1) from s2.2.2.2.2.2.2.1, nI_s1, if_pos (am_in_nI (by omega) (by decide)), nI_clamp (by omega), show gi (si (si M1' 134 p 42) 129 22 0) 135 g = nI cnt from c0, if_pos (show nI cnt = (6 : Int32) by rw [c1]; rfl), c2]
        rfl
      · rw [c3]
        exact s2.2.1.1
  obtain ⟨M2, a1, a2, a3⟩ := fin
  refine ⟨M2, ?_, a2, ?_⟩
  · rw [e1, p25_1 q3.2.2.2.2.2.2.2, s1, a1, Option.bind_some, Option.bind_some]
    exact p43_f N _ x M2 hf1 hf2
  · exact K.tr ((K2.mono (by omega) (by omega) (Nat.le_refl _)).tr ((s3 g).tr a3 (Nat.le_refl _) (Nat.le_refl _) (Nat.le_refl _)) (Nat.le_refl _) (Nat.le_refl _) (by omega)) (Nat.le_refl _) (Nat.le_refl _) (by omega)
/-- neither a case nor (after one) else -/
theorem ch_bad (hN : 4000 ≤ N) (hd : d < 8) (h : ChSt B n u so T N x j d jc cnt kb lo hi Vs) (hkb : kb = 41 ∨ kb = 42) (hj : kd B n (stk B n jc) ≠ 28) (hj2 : kb = 42 → kd B n (stk B n jc) ≠ 30) (hj3 : kd B n (stk B n jc) < 38 ∨ 41 < kd B n (stk B n jc)) : OneFl B n u so T N x j d 1 jc := by
  intro m M p g w hP hm
  have b := hP.2.1
  obtain ⟨m1, Mb, M1, M1', wb, w1, e1, l1, W, K, t1, t2, t3, rc, l2, l3⟩ := h m M p g w hP hm
  obtain ⟨o1, o2, o3, o4⟩ := in_br (N := N) hN (kb := kb) (by omega) W t1 (by omega) hj3
  obtain ⟨⟨q, q1, q2, ⟨wa, q3⟩, q4⟩, R', K1, K2, co⟩ := W
  have w01 := rc.1
  have tk := q3.2.1.2.2
  have wc := (tk.wn (k := 28) (v := 1667330917) (by decide) (by decide)).mpr hj
  obtain ⟨m2, rfl⟩ : ∃ m2, m1 = m2 + 1 := ⟨m1 - 1, by omega⟩
  refine ⟨M1, ?_, q3.2.1.1, K.tr (K1.mono (by omega) (by omega) (Nat.le_refl _)) (Nat.le_refl _) (Nat.le_refl _) (by omega)⟩
  have bo : f_m_behindOne N M1 = some (-1, M1) := by
    unfold f_m_behindOne f_m_behindOne_68 f_m_behindOne_102 f_m_behindOne_137
    rw [o2, Option.bind_some, if_pos (show (-1 : Int32) < 0 by decide), o1, Option.bind_some, if_pos wc]
    rcases hkb with rfl | rfl
    · rw [if_neg (show ¬ nI 41 = (40 : Int32) by decide), if_neg (show ¬ nI 41 = (43 : Int32) by decide), if_pos (show nI 41 = (41 : Int32) from rfl), if_pos (show (0 : Int32) = 0 from rfl), if_neg (show ¬ nI 41 = (42 : Int32) by decide)]
    · have we := (tk.wn (k := 30) (v := 1701606245) (by decide) (by decide)).mpr (hj2 rfl)
      rw [if_neg (show ¬ nI 42 = (40 : Int32) by decide), if_neg (show ¬ nI 42 = (43 : Int32) by decide), if_neg (show ¬ nI 42 = (41 : Int32) by decide), if_pos (show nI 42 = (42 : Int32) from rfl), if_pos (show (0 : Int32) = 0 from rfl), if_pos (show nI 42 = (42 : Int32) from rfl), if_pos we]
  rw [e1, p25_1 q3.2.2.2.2.2.2.2, bo, Option.bind_some]
  unfold f_m_parsed_43
  rw [if_pos (show (-1 : Int32) ≤ 0 by decide), if_neg (show ¬ (-1 : Int32) = 0 by decide), o1, Option.bind_some, if_pos (show (0 : Int32) ≤ nI kb from nI_le (a := 0) (by omega) (by omega))]
  rfl
end CASES
