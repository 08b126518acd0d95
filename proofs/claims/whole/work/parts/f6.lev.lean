/-! What the code of a law says: both sides alike. -/
section LEVOF
variable {m : Nat → Nat → Int32} {u s st k b ws we S : Nat} {V : (Nat → Int32) → Int32}
theorem run_of {N : Nat} {Mc : Mem} (hN : 4000 ≤ N) {a : Nat} (ha : 113 ≤ a) {C : Nat → Int32} (c3 : Mc.1 a 3 = nI S) (hS : S ≤ 300) (hb : b < S) (hC : Mc.1 (a + 1) = C) (co : Cod C st b 22 V) (c53 : C b = nI 53) : ∃ Mc', f_l_run N a (nI st) Mc = some (V (Mc.1 109), Mc') := by
  have sb := co.1
  have o : ∀ q, q ≠ 108 → (si Mc 108 2 0).1 q = Mc.1 q := fun q hq => by rw [si_1, if_neg hq]
  obtain ⟨M1, x1, m1, e1, l1, l2, k1, k2, k3, k4, k5⟩ := co.2 N a S 0 0 N (si Mc 108 2 0) ha (by rw [o a (by omega)]; exact c3) hS (by omega) (fun i _ _ => by rw [o (a + 1) (by omega), hC]) (by rw [si_at, if_pos ⟨rfl, rfl⟩]; rfl) (by omega) (by omega) (by omega)
  obtain ⟨m2, rfl⟩ : ∃ m2, m1 = m2 + 1 := ⟨m1 - 1, by omega⟩
  obtain ⟨o1, -⟩ := op_at (M := M1) (u := a) (S := S) (a := b) (k := 53) (v := 0) (by rw [k4 a (by omega) (by omega), o a (by omega)]; exact c3) hS hb (by rw [k4 (a + 1) (by omega) (by omega), o (a + 1) (by omega), hC]; exact c53) (by decide) (by decide)
  refine ⟨si M1 108 2 (nI 0), ?_⟩
  unfold f_l_run
  have e1' : f_l_run_10 N a N (nI st) (0 : Int32) (si Mc 108 2 0) = f_l_run_10 N a (m2 + 1) (nI b) (nI x1) M1 := e1
  rw [Option.bind_some, e1', f_l_run_10, if_neg (show ¬ (300 : Int32) ≤ nI x1 from nI_ge (b := 300) (by omega) (by decide)), o1, Option.bind_some, if_pos (show nI 53 = (53 : Int32) from rfl), cl_pop (p := 0) k1 (by omega), Option.bind_some]
  show some (M1.1 110 0, si M1 108 2 (nI 0)) = _
  rw [k2, o 109 (by decide)]
theorem lev_of (hu : u < 4) (hk : k < 24) (c3 : m (113 + 4 * u) 3 = nI S) (hS : S ≤ 300) (hb : b < S) (co : Cod (m (114 + 4 * u)) st b 22 V) (c53 : m (114 + 4 * u) b = nI 53) (vo : VOk s V) (dw : m 132 (705 * u + 2 + 4 * k) = nI ws) (de : m 132 (705 * u + 3 + 4 * k) = nI we) (hwe : we ≤ 300) (r0 : s = 0 → RTr 0 (m 132) (705 * u + 97) ws we V) (r1 : s ≠ 0 → RCo s (m 132) (705 * u + 97) ws we V) : LEv m u s st k := by
  intro N Mc Mr hN e0 e1 e2 e6 nm
  obtain ⟨Mc', rc⟩ := run_of (N := N) (Mc := Mc) (V := V) (S := S) (b := b) (st := st) hN (a := 113 + 4 * u) (by omega) (C := m (114 + 4 * u)) (by rw [e0]; exact c3) hS hb (by rw [show 113 + 4 * u + 1 = 114 + 4 * u by omega]; exact e1) co c53
  have en : EnB s (Mr.1 138) := fun i hi => by
    obtain ⟨n1, n2, n3⟩ := nm i hi
    rw [← n1]
    exact ⟨n2, n3⟩
  have ev : V (Mr.1 138) = V (Mc.1 109) := vo.2 _ _ (fun i hi => (nm i hi).1.symm)
  have wk : f_m_work N (nI k) Mr = f_m_work_49 N N (nI (705 * u + 1 + 4 * k)) (nI (705 * u + 97)) (nI 0) (nI 0) (nI ws) Mr := by
    unfold f_m_work
    have x1 : (705 : Int32) * nI u + (1 : Int32) + (4 : Int32) * nI k = nI (705 * u + 1 + 4 * k) := ix705 1
    have x2 : nI (705 * u + 1 + 4 * k) + (1 : Int32) = nI (705 * u + 2 + 4 * k) := by rw [nI_1]; congr 1; omega
    have x3 : (705 : Int32) * nI u + (97 : Int32) = nI (705 * u + 97) := by rw [ix705']; exact nI_add _ 97
    rw [show gi Mr 130 6 = nI u from e6, x1, x2, x3, if_pos (am_in_nI (by omega) (by decide)), nI_clamp (by omega), show gi Mr 132 (705 * u + 2 + 4 * k) = nI ws by show Mr.1 132 _ = _; rw [e2 _ (by omega) (by omega)]; exact dw]
    rfl
  have dE : Mr.1 132 (705 * u + 1 + 4 * k + 2) = nI we := by
    rw [show 705 * u + 1 + 4 * k + 2 = 705 * u + 3 + 4 * k by omega, e2 _ (by omega) (by omega)]
    exact de
  have fin : ∀ (m' t y : Nat) (M' : Mem), M'.1 132 = Mr.1 132 → f_m_work_49 N (m' + 1) (nI (705 * u + 1 + 4 * k)) (nI (705 * u + 97)) (nI t) (nI y) (nI we) M' = some M' := fun m' t y M' h => by
    rw [f_m_work_49, show nI (705 * u + 1 + 4 * k) + (2 : Int32) = nI (705 * u + 1 + 4 * k + 2) from nI_add _ 2, if_pos (am_in_nI (by omega) (by decide)), nI_clamp (by omega), show gi M' 132 (705 * u + 1 + 4 * k + 2) = nI we by show M'.1 132 _ = _; rw [h]; exact dE, if_pos (nI_le (Nat.le_refl _) (by omega))]
  by_cases z : s = 0
  · have rt := r0 z
    have wb := rt.1
    obtain ⟨M', m', q1, q2, q3, q4, q5, q6⟩ := rt.2 N N (705 * u + 1 + 4 * k) we 0 0 Mr hN (by rw [← z]; exact en) (by omega) dE (by omega) (Nat.le_refl _) (by omega) (fun i i1 i2 => e2 i (by omega) (by omega)) (by omega) (by omega) (by omega)
    obtain ⟨m2, rfl⟩ : ∃ m2, m' = m2 + 1 := ⟨m' - 1, by omega⟩
    refine ⟨V (Mc.1 109), Mc', M', rc, ?_, fun _ => ?_, fun h => absurd z h⟩
    · rw [wk, q1]
      exact fin m2 0 1 M' (q3 132 (by decide))
    · rw [q4, ev]
  · have rt := r1 z
    have wb := rt.1
    obtain ⟨M', m', q1, q2, q3, q4, q5⟩ := rt.2 N N (705 * u + 1 + 4 * k) we 0 (nI 0) Mr hN en (by omega) dE (by omega) (Nat.le_refl _) (by omega) (fun i i1 i2 => e2 i (by omega) (by omega)) (by omega) (by omega)
    obtain ⟨m2, rfl⟩ : ∃ m2, m' = m2 + 1 := ⟨m' - 1, by omega⟩
    refine ⟨V (Mc.1 109), Mc', M', rc, ?_, fun h => absurd h z, fun _ => ?_⟩
    · rw [wk, q1]
      exact fin m2 1 0 M' (by rw [q3])
    · rw [q4, ev]
end LEVOF
