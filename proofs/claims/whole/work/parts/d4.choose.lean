/-! Choose in the reference: the cases. -/
/-- in a choose that began at j: cnt cases are read, the last value (or what is asked about) is whole -/
def ChSt (B : Nat → Nat) (n u so T N : Nat) (x : Int32) (j d jc cnt kb : Nat) (lo hi : Nat → Nat) (Vs : Nat → (Nat → Int32) → Int32) : Prop := ∀ (m : Nat) (M : Mem) (p g w : Nat), Pr B n u so T M j d p g w → T + 2 ≤ m + j → ∃ m' Mb M1 M1' wb w1, f_m_parsed_25 N m x M = f_m_parsed_25 N m' x M1 ∧ T + 2 ≤ m' + jc ∧ Wst B n u so N Mb M1 jc (d + 1) (p + 1) (g + 1) wb 5 (Vs cnt) M1' w1 ∧ Kp u M Mb p g w ∧ Mb.1 134 p = nI kb ∧ Mb.1 135 g = nI cnt ∧ (∀ i, i < cnt → Mb.1 136 (6 * g + i) = nI (lo i) ∧ Mb.1 137 (6 * g + i) = nI (hi i)) ∧ RCs so (Mb.1 132) (705 * u + 97) w wb cnt Vs ∧ w1 + cnt + 1 + j ≤ w + jc ∧ jc ≤ T
section CHOOSE
variable {B : Nat → Nat} {n u so T N : Nat} {x : Int32} {j d : Nat} {M : Mem} {p g w : Nat}
theorem opened_41 (hN : 4000 ≤ N) (hR : Rs B n u M j d p g w 0) (hp : p < 160) (hd : d < 8) (hg : g < 9) : ∃ M', f_m_opened N 41 M = some (0, M') ∧ Rs B n u M' (j + 1) (d + 1) (p + 1) (g + 1) w 0 ∧ M'.1 134 p = nI 41 ∧ M'.1 135 g = nI 0 ∧ Kp u M M' p g w := by
  have hR' := hR
  obtain ⟨a, b, c, d1, d2, d3, d4, d5⟩ := hR'
  have h3 : Rs B n u (si (si (si (si (si M 129 20 (nI (d + 1))) 134 p 41) 129 19 (nI (p + 1))) 135 g 0) 129 21 (nI (g + 1))) j (d + 1) (p + 1) (g + 1) w 0 := by
    refine hR.up ?_ rfl ?_ ?_ ?_ ?_ ?_ ?_
    · rw [si_1, if_neg (by decide), si_1, if_neg (by decide), si_1, if_neg (by decide), si_1, if_neg (by decide), si_1, if_neg (by decide)]
    · intro i hi
      rw [si_at, if_neg (by omega), si_at, if_neg (by omega), si_at, if_neg (by omega), si_at, if_neg (by omega), si_at, if_neg (by omega)]
    · rw [si_at, if_neg (by omega), si_at, if_neg (by omega), si_at, if_neg (by omega), si_at, if_neg (by omega), si_at, if_neg (by omega)]; exact d1
    · rw [si_at, if_neg (by omega), si_at, if_neg (by omega), si_at, if_pos ⟨rfl, rfl⟩]
    · rw [si_at, if_neg (by omega), si_at, if_neg (by omega), si_at, if_neg (by omega), si_at, if_neg (by omega), si_at, if_pos ⟨rfl, rfl⟩]
    · rw [si_at, if_pos ⟨rfl, rfl⟩]
    · rw [si_at, if_neg (by omega), si_at, if_neg (by omega), si_at, if_neg (by omega), si_at, if_neg (by omega), si_at, if_neg (by omega)]; exact d5
  obtain ⟨M2, n1, n2, n3⟩ := h3.next hN
  refine ⟨M2, ?_, n2, ?_, ?_, ?_⟩
  · unfold f_m_opened
    rw [if_neg (show ¬ gi M 129 20 = (8 : Int32) by show ¬ M.1 129 20 = _; rw [d3]; exact fun e => by have := (nI_eq (b := 8) (by omega) (by decide)).mp e; omega), show gi M 129 20 = nI d from d3, nI_1, Option.bind_some, show gi (si M 129 20 (nI (d + 1))) 129 19 = nI p from d2, if_pos (am_in_nI hp (by decide)), nI_clamp (by omega), Option.bind_some, show gi (si (si M 129 20 (nI (d + 1))) 134 p 41) 129 19 = nI p from d2, nI_1, Option.bind_some, if_pos (show (41 : Int32) = 41 from rfl), show gi (si (si (si M 129 20 (nI (d + 1))) 134 p 41) 129 19 (nI (p + 1))) 129 21 = nI g from d4, if_pos (am_in_nI hg (by decide)), nI_clamp (by omega), Option.bind_some, show gi (si (si (si (si M 129 20 (nI (d + 1))) 134 p 41) 129 19 (nI (p + 1))) 135 g 0) 129 21 = nI g from d4, nI_1, Option.bind_some, n1]
    rfl
  · rw [n3.1 _ _ (by omega), si_at, if_neg (by omega), si_at, if_neg (by omega), si_at, if_neg (by omega), si_at, if_pos ⟨rfl, rfl⟩]
    rfl
  · rw [n3.1 _ _ (by omega), si_at, if_neg (by omega), si_at, if_pos ⟨rfl, rfl⟩]
    rfl
  · have r := Nat.le_refl
    exact (((((Kp.f 20 _ (by omega)).tr (Kp.pile p _ (r _)) (r _) (r _) (r _)).tr (Kp.f 19 _ (by omega)) (r _) (r _) (r _)).tr (Kc.ct (c := 0) _).1 (r _) (r _) (r _)).tr (Kp.f 21 _ (by omega)) (r _) (r _) (r _)).tr n3.kp (r _) (r _) (r _)
theorem cho_go (hN : 4000 ≤ N) (hT2 : ∀ j, kd B n (stk B n j) ≠ 48 → j < T) (hP : Pr B n u so T M j d p g w) (hd : d < 8) {m : Nat} (hj : kd B n (stk B n j) = 27) (hm : T + 2 ≤ m + j) : ∃ m' M', f_m_parsed_25 N m x M = f_m_parsed_25 N m' x M' ∧ T + 2 ≤ m' + (j + 1) ∧ Pr B n u so T M' (j + 1) (d + 1) (p + 1) (g + 1) w ∧ M'.1 134 p = nI 41 ∧ M'.1 135 g = nI 0 ∧ Kp u M M' p g w := by
  obtain ⟨m', rfl, e2⟩ := p25_0 (N := N) (x := x) hP hm
  have b := hP.2.1
  obtain ⟨M', o1, o2, o3, o4, o5⟩ := opened_41 (N := N) hN hP.1 (by omega) hd (by omega)
  have jT : j < T := hT2 j (by omega)
  refine ⟨m', M', ?_, by omega, ⟨o2, by omega, by rw [o5.2.2.2.2.2.1 14 (by omega)]; exact hP.2.2.1, fun _ => ⟨by omega, 41, by omega, o3, Or.inl (by decide)⟩⟩, o3, o4, o5⟩
  rw [e2, begin_sign hP (by omega) (by omega), if_neg (by omega), if_neg (by omega), if_pos hj, o1, Option.bind_some]
  exact p43_0 N _ x M'
theorem ch_0 (hN : 4000 ≤ N) (hT2 : ∀ j, kd B n (stk B n j) ≠ 48 → j < T) (hj : kd B n (stk B n j) = 27) (hd : d < 8) {j1 : Nat} {lo hi : Nat → Nat} {Vs : Nat → (Nat → Int32) → Int32} (h : LvOk B n u so T N x 5 (j + 1) (d + 1) j1 (Vs 0)) : ChSt B n u so T N x j d j1 0 41 lo hi Vs := by
  intro m M p g w hP hm
  have b := hP.2.1
  obtain ⟨m1, M1, e1, l1, P1, t1, t2, k1⟩ := cho_go (N := N) (x := x) hN hT2 hP hd hj hm
  obtain ⟨m2, M2, M2', w1, e2, l2, W2, l3, l4⟩ := h m1 M1 (p + 1) (g + 1) w P1 (by omega) (Or.inr ⟨41, by omega, t1, by decide⟩) l1
  exact ⟨m2, M1, M2, M2', w, w1, by rw [e1, e2], l2, W2, k1, t1, t2, fun i hi => by omega, RCs.nil, by omega, l4⟩
theorem one_choF (hN : 4000 ≤ N) (hT2 : ∀ j, kd B n (stk B n j) ≠ 48 → j < T) (hj : kd B n (stk B n j) = 27) (hd : d < 8) {f jf : Nat} (h : LvFl B n u so T N x 5 (j + 1) (d + 1) f jf) : OneFl B n u so T N x j d f jf := by
  intro m M p g w hP hm
  have b := hP.2.1
  obtain ⟨m1, M1, e1, l1, P1, t1, t2, k1⟩ := cho_go (N := N) (x := x) hN hT2 hP hd hj hm
  obtain ⟨M2, e2, a2, k2⟩ := h m1 M1 (p + 1) (g + 1) w P1 (by omega) (Or.inr ⟨41, by omega, t1, by decide⟩) l1
  exact ⟨M2, by rw [e1, e2], a2, k1.tr k2 (by omega) (by omega) (Nat.le_refl _)⟩
/-- the word 'case' -/
theorem step28 (hN : 4000 ≤ N) {Mb M1 M1' : Mem} {V : (Nat → Int32) → Int32} {jc d1 g1 wb w1 kb : Nat} (hW : Wst B n u so N Mb M1 jc d1 (p + 1) g1 wb 5 V M1' w1) (ht : Mb.1 134 p = nI kb) (hkb : kb = 41 ∨ kb = 42) (hp : p < 100) (hj : kd B n (stk B n jc) = 28) : f_m_behindOne N M1 = (Option.bind (f_m_oneCase N (si (si M1' 134 p 42) 129 22 0)) fun q => some (q.1, q.2)) ∧ Rs B n u (si (si M1' 134 p 42) 129 22 0) jc d1 (p + 1) g1 w1 0 ∧ ∀ g2, Kp u M1' (si (si M1' 134 p 42) 129 22 0) p g2 w1 := by
  obtain ⟨o1, o2, o3, o4⟩ := in_br (N := N) hN (kb := kb) (by omega) hW ht hp (by omega)
  obtain ⟨⟨q, q1, q2, ⟨wa, q3⟩, q4⟩, R', K1, K2, co⟩ := hW
  have tk := q3.2.1.2.2
  have wc := tk.wn (k := 28) (v := 1667330917) (by decide) (by decide)
  have nz : ¬ f_m_isWord 1667330917 M1 = 0 := fun e => wc.mp e hj
  refine ⟨?_, ?_, fun g2 => (Kp.pile p _ (Nat.le_refl _)).tr (Kp.f 22 _ (by omega)) (Nat.le_refl _) (Nat.le_refl _) (Nat.le_refl _)⟩
  · unfold f_m_behindOne f_m_behindOne_68 f_m_behindOne_102
    have e137 : f_m_behindOne_137 N (nI kb) 1 M1 = (Option.bind (f_m_oneCase N (si (si M1' 134 p 42) 129 22 0)) fun q => some (q.1, q.2)) := by
      unfold f_m_behindOne_137 f_m_behindOne_168
      rw [if_neg (show ¬ (1 : Int32) = 0 by decide), o3, Option.bind_some, if_neg (show ¬ (1 : Int32) = 0 by decide), show gi M1' 129 19 = nI (p + 1) from R'.2.2.2.2.1, nI_s1, if_pos (am_in_nI (by omega) (by decide)), nI_clamp (by omega), Option.bind_some, Option.bind_some, if_neg (show ¬ (1 : Int32) = 0 by decide)]
    rw [o2, Option.bind_some, if_pos (show (-1 : Int32) < 0 by decide), o1, Option.bind_some, if_neg nz, e137]
    rcases hkb with rfl | rfl
    · rw [if_neg (show ¬ nI 41 = (40 : Int32) by decide), if_neg (show ¬ nI 41 = (43 : Int32) by decide), if_pos (show nI 41 = (41 : Int32) from rfl)]
    · rw [if_neg (show ¬ nI 42 = (40 : Int32) by decide), if_neg (show ¬ nI 42 = (43 : Int32) by decide), if_neg (show ¬ nI 42 = (41 : Int32) by decide), if_pos (show nI 42 = (42 : Int32) from rfl)]
  · have R'' := R'
    obtain ⟨a, b, c, d1, d2, d3, d4, d5⟩ := R''
    refine R'.up ?_ rfl ?_ ?_ ?_ ?_ ?_ ?_
    · rw [si_1, if_neg (by decide), si_1, if_neg (by decide)]
    · intro i hi
      rw [si_at, if_neg (by omega), si_at, if_neg (by omega)]
    · rw [si_at, if_neg (by omega), si_at, if_neg (by omega)]; exact d1
    · rw [si_at, if_neg (by omega), si_at, if_neg (by omega)]; exact d2
    · rw [si_at, if_neg (by omega), si_at, if_neg (by omega)]; exact d3
    · rw [si_at, if_neg (by omega), si_at, if_neg (by omega)]; exact d4
    · rw [si_at, if_pos ⟨rfl, rfl⟩]; rfl
end CHOOSE
