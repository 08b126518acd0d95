/-! Brackets in the reference. -/
section PAREN
variable {B : Nat → Nat} {n u so T N : Nat} {x : Int32} {j d j' j1 : Nat} {V : (Nat → Int32) → Int32} {M M' : Mem} {p g w w1 : Nat}
theorem open_br {kb : Nat} (hb : 40 ≤ kb ∧ kb < 44) (ht : M.1 134 p = nI kb) : ∀ (q m : Nat), p + 1 + q ≤ 160 → q < m → (∀ i, p + 1 ≤ i → i < p + 1 + q → ∃ k, k < 40 ∧ M.1 134 i = nI k) → f_m_openAt_7 N m (nI (p + 1 + q) - 1) M = some (nI p) := by
  intro q
  induction q with
  | zero =>
    intro m h1 h2 h3
    obtain ⟨m', rfl⟩ : ∃ m', m = m' + 1 := ⟨m - 1, by omega⟩
    rw [f_m_openAt_7, show p + 1 + 0 = p + 1 from rfl, nI_s1, if_neg (nI_pos (by omega)), if_pos (am_in_nI (by omega) (by decide)), nI_clamp (by omega), show gi M 134 p = nI kb from ht, if_pos (show (40 : Int32) ≤ nI kb from nI_le (a := 40) hb.1 (by omega))]
  | succ q ih =>
    intro m h1 h2 h3
    obtain ⟨m', rfl⟩ : ∃ m', m = m' + 1 := ⟨m - 1, by omega⟩
    obtain ⟨k, k1, k2⟩ := h3 (p + 1 + q) (by omega) (by omega)
    rw [f_m_openAt_7, show p + 1 + (q + 1) = p + 1 + q + 1 by omega, nI_s1, if_neg (nI_pos (by omega)), if_pos (am_in_nI (by omega) (by decide)), nI_clamp (by omega), show gi M 134 (p + 1 + q) = nI k from k2, if_neg (show ¬ (40 : Int32) ≤ nI k from nI_ge (b := 40) k1 (by decide)), show nI (p + 1 + q) + (-1 : Int32) = nI (p + 1 + q) - 1 from (Int32.sub_eq_add_neg _ _).symm]
    exact ih m' (by omega) (by omega) (fun i i1 i2 => h3 i i1 (by omega))
theorem now_br (hN : 4000 ≤ N) {kb q : Nat} (hb : 40 ≤ kb ∧ kb < 44) (ht : M.1 134 p = nI kb) (h19 : M.1 129 19 = nI (p + 1 + q)) (hq : p + 1 + q ≤ 160) (h3 : ∀ i, p + 1 ≤ i → i < p + 1 + q → ∃ k, k < 40 ∧ M.1 134 i = nI k) : f_m_openNow N M = some (nI kb) := by
  unfold f_m_openNow f_m_openAt
  rw [show gi M 129 19 = nI (p + 1 + q) from h19, open_br hb ht q N hq (by omega) h3, Option.bind_some, if_pos (show (0 : Int32) ≤ nI p from nI_le (a := 0) (by omega) (by omega)), Option.bind_some, if_pos (am_in_nI (by omega) (by decide)), nI_clamp (by omega)]
  exact congrArg some ht
theorem bt_br {s : Nat} (tk : TkR M B n s) (hk : kd B n s < 38 ∨ 41 < kd B n s) {kb : Nat} (hb : 40 ≤ kb ∧ kb < 44) (ho : f_m_openNow N M = some (nI kb)) : f_m_betweenOf N M = some (-1) := by
  unfold f_m_betweenOf f_m_isAskHere
  rw [if_neg (show ¬ gi M 129 9 = (43 : Int32) from fun e => by have := (tk.sg (k := 38) (by omega) (by omega)).mp e; omega), if_neg (show ¬ gi M 129 9 = (45 : Int32) from fun e => by have := (tk.sg (k := 39) (by omega) (by omega)).mp e; omega), if_neg (show ¬ gi M 129 9 = (42 : Int32) from fun e => by have := (tk.sg (k := 40) (by omega) (by omega)).mp e; omega), if_neg (show ¬ gi M 129 9 = (47 : Int32) from fun e => by have := (tk.sg (k := 41) (by omega) (by omega)).mp e; omega), ho]
  have ne : ¬ nI kb = (-1 : Int32) := fun e => absurd (show nI kb < (0 : Int32) by rw [e]; decide) (nI_pos (by omega))
  by_cases a : gi M 129 23 = (0 : Int32)
  · rw [if_pos a, Option.bind_some, if_pos rfl]
  · rw [if_neg a, Option.bind_some, if_neg ne, Option.bind_some, if_pos rfl]
/-- a whole within a bracket: what is open, what lies between, how it settles -/
theorem in_br (hN : 4000 ≤ N) {M0 : Mem} {kb : Nat} (hb : 40 ≤ kb ∧ kb < 44) (hW : Wst B n u so N M0 M j d (p + 1) g w 5 V M' w1) (ht : M0.1 134 p = nI kb) (hp : p < 100) (hk : kd B n (stk B n j) < 38 ∨ 41 < kd B n (stk B n j)) : f_m_openNow N M = some (nI kb) ∧ f_m_betweenOf N M = some (-1) ∧ f_m_settle N 1 M = some M' ∧ M'.1 134 p = nI kb := by
  obtain ⟨⟨q, q1, q2, ⟨wa, q3⟩, q4⟩, R', K1, K2, co⟩ := hW
  have t1 : M.1 134 p = nI kb := (K1.1 p (by omega)).trans ht
  have t2 : M'.1 134 p = nI kb := (K2.1 p (by omega)).trans ht
  have ho := now_br (N := N) hN hb t1 q3.2.2.2.2.1 (by omega) (fun i i1 i2 => by
    obtain ⟨k, k1, k2, -⟩ := q4 i i1 i2
    exact ⟨k, k1, k2⟩)
  refine ⟨ho, bt_br q3.2.1.2.2 hk hb ho, ?_, t2⟩
  unfold f_m_settle
  obtain ⟨e, he⟩ : ∃ e, N = (e + 1) + q := ⟨N - 1 - q, by omega⟩
  have a1 := q2 1 (e + 1) (by omega) (by omega)
  rw [← he] at a1
  rw [show (1 : Int32) = nI 1 from rfl, a1]
  exact set_stop (p := p + 1) R'.2.2.2.2.1 (by omega) (by omega) (Or.inr ⟨kb, by omega, t2, by
    have : rkN kb = 0 := by unfold rkN; rw [if_neg (by omega)]
    omega⟩)
theorem p25_1 {m : Nat} (h22 : M.1 129 22 = nI 1) : f_m_parsed_25 N (m + 1) x M = Option.bind (f_m_behindOne N M) fun q7 => f_m_parsed_43 N (f_m_parsed_25 N m) x q7.1 q7.2 := by
  rw [f_m_parsed_25, show gi M 129 22 = nI 1 from h22, if_neg (show ¬ nI 1 = (0 : Int32) by decide)]
theorem one_par (hN : 4000 ≤ N) (hT : T ≤ 300) (hT2 : ∀ j, kd B n (stk B n j) ≠ 48 → j < T) (hj : kd B n (stk B n j) = 42) (hd : d < 8) (h : LvOk B n u so T N x 5 (j + 1) (d + 1) j1 V) (hj1 : kd B n (stk B n j1) = 43) : OneOk B n u so T N x j d (j1 + 1) V := by
  intro m M p g w hP hm
  have b := hP.2.1
  obtain ⟨m1, M1, e1, l1, P1, t1, k1⟩ := open_go (N := N) (x := x) hN hT2 hP hd (k := 40) (Or.inr rfl) hj hm
  obtain ⟨m2, M2, M2', w1, e2, l2, W2, l3, l4⟩ := h m1 M1 (p + 1) g w P1 (by omega) (Or.inr ⟨40, by omega, t1, by decide⟩) l1
  obtain ⟨o1, o2, o3, o4⟩ := in_br (N := N) hN (kb := 40) (by omega) W2 t1 (by omega) (by omega)
  obtain ⟨⟨q, q1, q2, ⟨wa, q3⟩, q4⟩, R', K1, K2, co⟩ := W2
  have jT := hT2 j1 (by omega)
  obtain ⟨m3, rfl⟩ : ∃ m3, m2 = m3 + 1 := ⟨m2 - 1, by omega⟩
  have R3 : Rs B n u (si (si M2' 129 19 (nI p)) 129 20 (nI d)) j1 d p g w1 1 := by
    have R'' := R'
    obtain ⟨a, b, c, d1, d2, d3, d4, d5⟩ := R''
    refine R'.up rfl rfl ?_ ?_ ?_ ?_ ?_ ?_
    · intro i hi
      rw [si_at, if_neg (by omega), si_at, if_neg (by omega)]
    · rw [si_at, if_neg (by omega), si_at, if_neg (by omega)]; exact d1
    · rw [si_at, if_neg (by omega), si_at, if_pos ⟨rfl, rfl⟩]
    · rw [si_at, if_pos ⟨rfl, rfl⟩]
    · rw [si_at, if_neg (by omega), si_at, if_neg (by omega)]; exact d4
    · rw [si_at, if_neg (by omega), si_at, if_neg (by omega)]; exact d5
  obtain ⟨M3, n1, n2, n3⟩ := R3.next hN
  have K3 : Kp u M2' M3 p g w1 := ((Kp.f 19 _ (by omega)).tr (Kp.f 20 _ (by omega)) (Nat.le_refl _) (Nat.le_refl _) (Nat.le_refl _)).tr n3.kp (Nat.le_refl _) (Nat.le_refl _) (Nat.le_refl _)
  have w01 := co.1
  have sh : f_m_shut N (nI 40) M2' = Option.bind (f_m_settle N 7 M3) fun q6 => some q6 := by
    unfold f_m_shut
    rw [show gi M2' 129 19 = nI (p + 1) from R'.2.2.2.2.1, nI_s1, Option.bind_some, show gi (si M2' 129 19 (nI p)) 129 20 = nI (d + 1) from R'.2.2.2.2.2.1, nI_s1, Option.bind_some, if_neg (show ¬ nI 40 = (43 : Int32) by decide), n1, Option.bind_some]
  refine ⟨m3, N, M3, w1, ?_, by omega, by omega, n2, ?_, ?_, by omega, by omega⟩
  · rw [e1, e2, p25_1 q3.2.2.2.2.2.2.2]
    unfold f_m_behindOne
    rw [o2, Option.bind_some, if_pos (show (-1 : Int32) < 0 by decide), o1, Option.bind_some, if_pos (show nI 40 = (40 : Int32) from rfl), if_pos (show gi M2 129 9 = (41 : Int32) from (q3.2.1.2.2.sg (k := 43) (by omega) (by omega)).mpr hj1), o3, Option.bind_some, sh]
    unfold f_m_settle
    cases f_m_settle_0 N N 7 M3 with
    | none => rfl
    | some z => exact p43_0 N _ x z
  · exact ((k1.tr K2 (by omega) (Nat.le_refl _) (Nat.le_refl _))).tr K3 (Nat.le_refl _) (Nat.le_refl _) (by omega)
  · exact co.cong (fun i i1 i2 => K3.2.2.2.1 i i2)
theorem one_parF (hN : 4000 ≤ N) (hT2 : ∀ j, kd B n (stk B n j) ≠ 48 → j < T) (hj : kd B n (stk B n j) = 42) (hd : d < 8) {f jf : Nat} (h : LvFl B n u so T N x 5 (j + 1) (d + 1) f jf) : OneFl B n u so T N x j d f jf := by
  intro m M p g w hP hm
  have b := hP.2.1
  obtain ⟨m1, M1, e1, l1, P1, t1, k1⟩ := open_go (N := N) (x := x) hN hT2 hP hd (k := 40) (Or.inr rfl) hj hm
  obtain ⟨M2, e2, a2, k2⟩ := h m1 M1 (p + 1) g w P1 (by omega) (Or.inr ⟨40, by omega, t1, by decide⟩) l1
  exact ⟨M2, by rw [e1, e2], a2, k1.tr k2 (by omega) (Nat.le_refl _) (Nat.le_refl _)⟩
theorem one_parM (hN : 4000 ≤ N) (hT2 : ∀ j, kd B n (stk B n j) ≠ 48 → j < T) (hj : kd B n (stk B n j) = 42) (hd : d < 8) (h : LvOk B n u so T N x 5 (j + 1) (d + 1) j1 V) (hj1 : kd B n (stk B n j1) ≠ 43) (hj2 : kd B n (stk B n j1) < 38 ∨ 41 < kd B n (stk B n j1)) : OneFl B n u so T N x j d 1 j1 := by
  intro m M p g w hP hm
  have b := hP.2.1
  obtain ⟨m1, M1, e1, l1, P1, t1, k1⟩ := open_go (N := N) (x := x) hN hT2 hP hd (k := 40) (Or.inr rfl) hj hm
  obtain ⟨m2, M2, M2', w1, e2, l2, W2, l3, l4⟩ := h m1 M1 (p + 1) g w P1 (by omega) (Or.inr ⟨40, by omega, t1, by decide⟩) l1
  obtain ⟨o1, o2, o3, o4⟩ := in_br (N := N) hN (kb := 40) (by omega) W2 t1 (by omega) hj2
  obtain ⟨⟨q, q1, q2, ⟨wa, q3⟩, q4⟩, R', K1, K2, co⟩ := W2
  obtain ⟨m3, rfl⟩ : ∃ m3, m2 = m3 + 1 := ⟨m2 - 1, by omega⟩
  refine ⟨M2, ?_, q3.2.1.1, k1.tr K1 (by omega) (Nat.le_refl _) (Nat.le_refl _)⟩
  rw [e1, e2, p25_1 q3.2.2.2.2.2.2.2]
  unfold f_m_behindOne f_m_behindOne_68 f_m_behindOne_102 f_m_behindOne_137
  rw [o2, Option.bind_some, if_pos (show (-1 : Int32) < 0 by decide), o1, Option.bind_some, if_pos (show nI 40 = (40 : Int32) from rfl), if_neg (show ¬ gi M2 129 9 = (41 : Int32) from fun e => hj1 ((q3.2.1.2.2.sg (k := 43) (by omega) (by omega)).mp e)), if_neg (show ¬ nI 40 = (43 : Int32) by decide), if_neg (show ¬ nI 40 = (41 : Int32) by decide), if_neg (show ¬ nI 40 = (42 : Int32) by decide), if_pos (show (0 : Int32) = 0 from rfl), if_neg (show ¬ nI 40 = (42 : Int32) by decide), Option.bind_some]
  unfold f_m_parsed_43
  rw [if_pos (show (-1 : Int32) ≤ 0 by decide), if_neg (show ¬ (-1 : Int32) = 0 by decide), o1, Option.bind_some, if_pos (show (0 : Int32) ≤ nI 40 by decide)]
  rfl
end PAREN
