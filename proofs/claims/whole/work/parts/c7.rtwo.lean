/-! The reference's code, on: two on top, questions, choose. -/
theorem bdI_64 {x : Int64} (h1 : -1000000 ≤ x.toInt) (h2 : x.toInt ≤ 1000000) : bdI x.toInt32 ∧ x.toInt32.toInt64 = x := by
  have e : x.toInt32.toInt = x.toInt := by
    rw [Int64.toInt_toInt32, Int.bmod_eq_of_le (by omega) (by omega)]
  refine ⟨?_, ?_⟩
  · unfold bdI
    rw [e]
    exact ⟨h1, h2⟩
  · apply Int64.toInt_inj.mp
    rw [Int32.toInt_toInt64, e]
theorem clip_eq (z : Int64) (M : Mem) : f_k_max1 (-1000000 : Int64) (f_k_min1 (1000000 : Int64) z M) M = f_m_clip z M ∧ -1000000 ≤ (f_m_clip z M).toInt ∧ (f_m_clip z M).toInt ≤ 1000000 := by
  have a1 : (1000000 : Int64).toInt = 1000000 := by decide
  have a2 : (-1000000 : Int64).toInt = -1000000 := by decide
  unfold f_k_max1 f_k_min1 f_m_clip
  by_cases h1 : z.toInt ≤ 1000000
  · have c1 : lg_cmp z 1000000 ≤ 0 := by rw [lg_cmp_le, Int64.le_iff_toInt_le, a1]; exact h1
    by_cases h2 : -1000000 ≤ z.toInt
    · have c2 : 0 ≤ lg_cmp z (-1000000) := by rw [lg_cmp_ge, Int64.le_iff_toInt_le, a2]; exact h2
      rw [if_pos c1, if_pos c2]
      refine ⟨?_, h2, h1⟩
      have em : (if (0 : Int32) < lg_cmp 1000000 z then z else 1000000) = z := by
        by_cases q : z.toInt < 1000000
        · rw [if_pos (by rw [lg_cmp_gt, Int64.lt_iff_toInt_lt, a1]; exact q)]
        · rw [if_neg (by rw [lg_cmp_gt, Int64.lt_iff_toInt_lt, a1]; exact q)]
          apply Int64.toInt_inj.mp
          omega
      rw [em]
      by_cases q : -1000000 < z.toInt
      · rw [if_pos (by rw [lg_cmp_lt, Int64.lt_iff_toInt_lt, a2]; exact q)]
      · rw [if_neg (by rw [lg_cmp_lt, Int64.lt_iff_toInt_lt, a2]; exact q)]
        apply Int64.toInt_inj.mp
        omega
    · have c2 : ¬ 0 ≤ lg_cmp z (-1000000) := by rw [lg_cmp_ge, Int64.le_iff_toInt_le, a2]; exact h2
      rw [if_pos c1, if_neg c2, if_pos (show (0 : Int32) < lg_cmp 1000000 z by rw [lg_cmp_gt, Int64.lt_iff_toInt_lt, a1]; omega), if_neg (show ¬ lg_cmp (-1000000) z < 0 by rw [lg_cmp_lt, Int64.lt_iff_toInt_lt, a2]; omega)]
      exact ⟨rfl, by rw [a2]; omega, by rw [a2]; omega⟩
  · have c1 : ¬ lg_cmp z 1000000 ≤ 0 := by rw [lg_cmp_le, Int64.le_iff_toInt_le, a1]; exact h1
    rw [if_neg c1, if_neg (show ¬ (0 : Int32) < lg_cmp 1000000 z by rw [lg_cmp_gt, Int64.lt_iff_toInt_lt, a1]; omega), if_pos (show lg_cmp (-1000000) 1000000 < 0 by decide)]
    exact ⟨rfl, by rw [a1]; omega, by rw [a1]; omega⟩
theorem div64 {x y : Int32} (hx : bdI x) : (x / y).toInt64 = x.toInt64 / y.toInt64 := by
  apply Int64.toInt_inj.mp
  have b := Int.natAbs_tdiv_le_natAbs x.toInt y.toInt
  obtain ⟨h1, h2⟩ := hx
  rw [Int32.toInt_toInt64, Int32.toInt_div, Int64.toInt_div, Int32.toInt_toInt64, Int32.toInt_toInt64, Int.bmod_eq_of_le (by omega) (by omega), Int.bmod_eq_of_le (by omega) (by omega)]
theorem z64 {y : Int32} : y.toInt64 = 0 ↔ y = 0 := by
  constructor
  · intro h
    apply Int32.toInt_inj.mp
    rw [← Int32.toInt_toInt64, h]
    decide
  · intro h
    rw [h]
    decide
theorem two64 {k : Nat} (hk : 38 ≤ k ∧ k ≤ 41) {x y : Int32} (hx : bdI x) (M : Mem) : f_m_two (nI (k - 34)) x.toInt64 y.toInt64 M = some (cou k x y).toInt64 ∧ bdI (cou k x y) := by
  have fin : ∀ z : Int64, some (f_m_clip z M) = some (Int64.toInt32 (f_k_max1 (-1000000 : Int64) (f_k_min1 (1000000 : Int64) z M0) M0)).toInt64 ∧ bdI (Int64.toInt32 (f_k_max1 (-1000000 : Int64) (f_k_min1 (1000000 : Int64) z M0) M0)) := by
    intro z
    obtain ⟨c1, c2, c3⟩ := clip_eq z M0
    rw [c1]
    obtain ⟨b1, b2⟩ := bdI_64 c2 c3
    exact ⟨by rw [b2]; rfl, b1⟩
  unfold f_m_two cou f_l_counted
  rcases (show k = 38 ∨ k = 39 ∨ k = 40 ∨ k = 41 by omega) with rfl | rfl | rfl | rfl
  · rw [if_pos (show nI (38 - 34) = (4 : Int32) from rfl), if_pos (show nI 38 = (38 : Int32) from rfl)]
    exact fin _
  · rw [if_neg (show ¬ nI (39 - 34) = (4 : Int32) by decide), if_pos (show nI (39 - 34) = (5 : Int32) from rfl), if_neg (show ¬ nI 39 = (38 : Int32) by decide), if_pos (show nI 39 = (39 : Int32) from rfl)]
    exact fin _
  · rw [if_neg (show ¬ nI (40 - 34) = (4 : Int32) by decide), if_neg (show ¬ nI (40 - 34) = (5 : Int32) by decide), if_pos (show nI (40 - 34) = (6 : Int32) from rfl), if_neg (show ¬ nI 40 = (38 : Int32) by decide), if_neg (show ¬ nI 40 = (39 : Int32) by decide), if_pos (show nI 40 = (40 : Int32) from rfl)]
    exact fin _
  · rw [if_neg (show ¬ nI (41 - 34) = (4 : Int32) by decide), if_neg (show ¬ nI (41 - 34) = (5 : Int32) by decide), if_neg (show ¬ nI (41 - 34) = (6 : Int32) by decide), if_neg (show ¬ nI 41 = (38 : Int32) by decide), if_neg (show ¬ nI 41 = (39 : Int32) by decide), if_neg (show ¬ nI 41 = (40 : Int32) by decide)]
    by_cases d : y = 0
    · rw [if_pos d, if_pos (show lg_cmp y.toInt64 0 = 0 by rw [lg_cmp_eq, z64]; exact d)]
      exact ⟨by decide, by show bdI (Int64.toInt32 0); unfold bdI; decide⟩
    · rw [if_neg d, if_neg d, if_neg (show ¬ lg_cmp y.toInt64 0 = 0 by rw [lg_cmp_eq, z64]; exact d), if_neg (show ¬ y.toInt64 = 0 by rw [z64]; exact d), ← div64 hx]
      exact fin _
theorem nI_m1 (k : Nat) : nI (k + 1) + (-1 : Int32) = nI k := by
  rw [← nI_1, Int32.add_assoc, show (1 : Int32) + (-1) = 0 by decide, Int32.add_zero]
theorem nI_s1 {k : Nat} : nI (k + 1) - (1 : Int32) = nI k := by
  rw [show (1 : Int32) = nI 1 from rfl, nI_sub (by omega)]
  congr 1
/-- a truth is left on the other pile -/
def Tk (M M' : Mem) (t y : Nat) (v : Int32) : Prop := (∀ k, k ≠ 140 → M'.1 k = M.1 k) ∧ M'.1 140 y = v ∧ (∀ i, i < y → M'.1 140 i = M.1 140 i) ∧ ∀ i, i < t → M'.2 139 i = M.2 139 i
def RTr (s : Nat) (D : Nat → Int32) (c a b : Nat) (V : (Nat → Int32) → Int32) : Prop := a < b ∧ ∀ (N m z E t y : Nat) (M : Mem), 4000 ≤ N → EnB s (M.1 138) → z + 2 < 2820 → M.1 132 (z + 2) = nI E → E < 1000 → b ≤ E → c + 2 * b ≤ 2820 → (∀ i, c + 2 * a ≤ i → i < c + 2 * b → M.1 132 i = D i) → t + b ≤ 330 + a → y + b ≤ 330 + a → b < m + a → ∃ M' m', f_m_work_49 N m (nI z) (nI c) (nI t) (nI y) (nI a) M = f_m_work_49 N m' (nI z) (nI c) (nI t) (nI (y + 1)) (nI b) M' ∧ m + a ≤ m' + b ∧ Tk M M' t y (V (M.1 138))
def VT (V : (Nat → Int32) → Int32) : Prop := ∀ e, V e = 0 ∨ V e = 1
section RCODE
variable {s c a b d k v : Nat} {D : Nat → Int32}
theorem op_r : ∀ k, k < 42 → 38 ≤ k → (1 : Int32) < nI (k - 34) ∧ ¬ nI (k - 34) = (2 : Int32) ∧ ¬ nI (k - 34) = (3 : Int32) ∧ ¬ (10 : Int32) ≤ nI (k - 34) := by decide +kernel
theorem RCo.bin {V1 V2 : (Nat → Int32) → Int32} (h : RCo s D c a b V1) (h' : RCo s D c b d V2) (hV : VOk s V1) (hk : 38 ≤ k ∧ k ≤ 41) (h0 : D (c + 2 * d) = nI (k - 34)) : RCo s D c a (d + 1) (fun e => cou k (V1 e) (V2 e)) := by
  obtain ⟨hab, h⟩ := h
  obtain ⟨hbd, h'⟩ := h'
  obtain ⟨o1, o2, o3, o4⟩ := op_r k (by omega) (by omega)
  refine ⟨by omega, fun N m z E t y M hN he hz hE hE2 hb hc hD ht hm => ?_⟩
  obtain ⟨M1, m1, e1, l1, r1, r2, r3⟩ := h N m z E t y M hN he hz hE hE2 (by omega) (by omega) (fun i i1 i2 => hD i i1 (by omega)) (by omega) (by omega)
  obtain ⟨M2, m2, e2, l2, q1, q2, q3⟩ := h' N m1 z E (t + 1) y M1 hN (by rw [r1]; exact he) hz (by rw [r1]; exact hE) hE2 (by omega) (by omega) (fun i i1 i2 => by rw [r1]; exact hD i (by omega) (by omega)) (by omega) (by omega)
  obtain ⟨m3, rfl⟩ : ∃ m3, m2 = m3 + 1 := ⟨m2 - 1, by omega⟩
  have w : M2.1 = M.1 := q1.trans r1
  rw [r1] at q2
  refine ⟨sj M2 139 t (cou k (V1 (M.1 138)) (V2 (M.1 138))).toInt64, m3, ?_, by omega, w, ?_, ?_⟩
  · rw [e1, e2, f_m_work_49, show nI z + (2 : Int32) = nI (z + 2) from nI_add z 2, if_pos (am_in_nI hz (by decide)), nI_clamp (by omega), show gi M2 132 (z + 2) = nI E by show M2.1 132 (z + 2) = _; rw [w]; exact hE, if_neg (nI_ge (by omega) (by omega)), r_idx, if_pos (am_in_nI (by omega) (by decide)), nI_1, if_pos (am_in_nI (by omega) (by decide)), nI_clamp (by omega), show gi M2 132 (c + 2 * d) = nI (k - 34) by show M2.1 132 (c + 2 * d) = _; rw [w]; exact (hD _ (by omega) (by omega)).trans h0, if_pos o1, if_neg o2, if_neg o3, if_neg o4, nI_m1, nI_s1, if_pos (am_in_nI (by omega) (by decide)), if_pos (am_in_nI (by omega) (by decide)), nI_clamp (by omega), nI_clamp (by omega), show gj M2 139 t = (V1 (M.1 138)).toInt64 from (q3 t (by omega)).trans r2, show gj M2 139 (t + 1) = (V2 (M.1 138)).toInt64 from q2, (two64 hk (hV.1 _ he) M2).1, Option.bind_some, if_pos (am_in_nI (by omega) (by decide)), Option.bind_some, nI_1]
  · rw [sj_at, if_pos ⟨rfl, rfl⟩]
  · intro i hi
    rw [sj_at, if_neg (by omega), q3 i (by omega)]
    exact r3 i hi
def cmo (k : Nat) : Nat := if k = 34 then 10 else if k = 46 then 11 else if k = 35 then 12 else if k = 47 then 13 else if k = 36 then 14 else 15
theorem ask64 (hk : (34 ≤ k ∧ k ≤ 37) ∨ k = 46 ∨ k = 47) (x y : Int32) (M : Mem) : f_m_isAsked (nI (cmo k)) x.toInt64 y.toInt64 M = f_l_compared (nI k) x y M0 := by
  have h1 : (0 ≤ lg_cmp x.toInt64 y.toInt64) ↔ y ≤ x := by rw [lg_cmp_ge, Int64.le_iff_toInt_le, Int32.le_iff_toInt_le, Int32.toInt_toInt64, Int32.toInt_toInt64]
  have h2 : (lg_cmp x.toInt64 y.toInt64 ≤ 0) ↔ x ≤ y := by rw [lg_cmp_le, Int64.le_iff_toInt_le, Int32.le_iff_toInt_le, Int32.toInt_toInt64, Int32.toInt_toInt64]
  have h3 : (0 < lg_cmp x.toInt64 y.toInt64) ↔ y < x := by rw [lg_cmp_gt, Int64.lt_iff_toInt_lt, Int32.lt_iff_toInt_lt, Int32.toInt_toInt64, Int32.toInt_toInt64]
  have h4 : (lg_cmp x.toInt64 y.toInt64 < 0) ↔ x < y := by rw [lg_cmp_lt, Int64.lt_iff_toInt_lt, Int32.lt_iff_toInt_lt, Int32.toInt_toInt64, Int32.toInt_toInt64]
  have h5 : (lg_cmp x.toInt64 y.toInt64 = 0) ↔ x = y := by rw [lg_cmp_eq, ← Int64.toInt_inj, ← Int32.toInt_inj, Int32.toInt_toInt64, Int32.toInt_toInt64]
  unfold f_m_isAsked f_l_compared
  simp only [h1, h2, h3, h4, h5]
  rcases (show k = 34 ∨ k = 35 ∨ k = 36 ∨ k = 37 ∨ k = 46 ∨ k = 47 by omega) with rfl | rfl | rfl | rfl | rfl | rfl <;> rfl
theorem op_q : ∀ k, k < 48 → ((34 ≤ k ∧ k ≤ 37) ∨ k = 46 ∨ k = 47) → (1 : Int32) < nI (cmo k) ∧ ¬ nI (cmo k) = (2 : Int32) ∧ ¬ nI (cmo k) = (3 : Int32) ∧ (10 : Int32) ≤ nI (cmo k) ∧ ¬ (20 : Int32) ≤ nI (cmo k) := by decide +kernel
theorem cmp01 (hk : (34 ≤ k ∧ k ≤ 37) ∨ k = 46 ∨ k = 47) (x y : Int32) : f_l_compared (nI k) x y M0 = 0 ∨ f_l_compared (nI k) x y M0 = 1 := by
  unfold f_l_compared
  rcases (show k = 34 ∨ k = 35 ∨ k = 36 ∨ k = 37 ∨ k = 46 ∨ k = 47 by omega) with rfl | rfl | rfl | rfl | rfl | rfl
  · show (if y ≤ x then (0 : Int32) else 1) = 0 ∨ (if y ≤ x then (0 : Int32) else 1) = 1
    split <;> simp
  · show (if x ≤ y then (0 : Int32) else 1) = 0 ∨ (if x ≤ y then (0 : Int32) else 1) = 1
    split <;> simp
  · show (if x = y then (1 : Int32) else 0) = 0 ∨ (if x = y then (1 : Int32) else 0) = 1
    split <;> simp
  · show (if x = y then (0 : Int32) else 1) = 0 ∨ (if x = y then (0 : Int32) else 1) = 1
    split <;> simp
  · show (if y < x then (0 : Int32) else 1) = 0 ∨ (if y < x then (0 : Int32) else 1) = 1
    split <;> simp
  · show (if x < y then (0 : Int32) else 1) = 0 ∨ (if x < y then (0 : Int32) else 1) = 1
    split <;> simp
theorem nI_m2 (k : Nat) : nI (k + 2) + (-2 : Int32) = nI k := by
  rw [show nI (k + 2) = nI k + nI 2 from (nI_add k 2).symm, Int32.add_assoc, show nI 2 + (-2) = 0 by decide, Int32.add_zero]
theorem RTr.cmp {V1 V2 : (Nat → Int32) → Int32} (h : RCo s D c a b V1) (h' : RCo s D c b d V2) (hk : (34 ≤ k ∧ k ≤ 37) ∨ k = 46 ∨ k = 47) (h0 : D (c + 2 * d) = nI (cmo k)) : RTr s D c a (d + 1) (fun e => f_l_compared (nI k) (V1 e) (V2 e) M0) := by
  obtain ⟨hab, h⟩ := h
  obtain ⟨hbd, h'⟩ := h'
  obtain ⟨o1, o2, o3, o4, o5⟩ := op_q k (by omega) hk
  refine ⟨by omega, fun N m z E t y M hN he hz hE hE2 hb hc hD ht hy hm => ?_⟩
  obtain ⟨M1, m1, e1, l1, r1, r2, r3⟩ := h N m z E t (nI y) M hN he hz hE hE2 (by omega) (by omega) (fun i i1 i2 => hD i i1 (by omega)) (by omega) (by omega)
  obtain ⟨M2, m2, e2, l2, q1, q2, q3⟩ := h' N m1 z E (t + 1) (nI y) M1 hN (by rw [r1]; exact he) hz (by rw [r1]; exact hE) hE2 (by omega) (by omega) (fun i i1 i2 => by rw [r1]; exact hD i (by omega) (by omega)) (by omega) (by omega)
  obtain ⟨m3, rfl⟩ : ∃ m3, m2 = m3 + 1 := ⟨m2 - 1, by omega⟩
  have w : M2.1 = M.1 := q1.trans r1
  rw [r1] at q2
  refine ⟨si M2 140 y (f_l_compared (nI k) (V1 (M.1 138)) (V2 (M.1 138)) M0), m3, ?_, by omega, ?_, ?_, ?_, ?_⟩
  · rw [e1, e2, f_m_work_49, show nI z + (2 : Int32) = nI (z + 2) from nI_add z 2, if_pos (am_in_nI hz (by decide)), nI_clamp (by omega), show gi M2 132 (z + 2) = nI E by show M2.1 132 (z + 2) = _; rw [w]; exact hE, if_neg (nI_ge (by omega) (by omega)), r_idx, if_pos (am_in_nI (by omega) (by decide)), nI_1, if_pos (am_in_nI (by omega) (by decide)), nI_clamp (by omega), show gi M2 132 (c + 2 * d) = nI (cmo k) by show M2.1 132 (c + 2 * d) = _; rw [w]; exact (hD _ (by omega) (by omega)).trans h0, if_pos o1, if_neg o2, if_neg o3, if_pos o4, if_neg o5, nI_m2, nI_1, if_pos (am_in_nI (by omega) (by decide)), if_pos (am_in_nI (by omega) (by decide)), nI_clamp (by omega), nI_clamp (by omega), show gj M2 139 t = (V1 (M.1 138)).toInt64 from (q3 t (by omega)).trans r2, show gj M2 139 (t + 1) = (V2 (M.1 138)).toInt64 from q2, ask64 hk, if_pos ⟨am_in_nI (by omega) (by decide), cmp01 hk _ _⟩, nI_clamp (by omega), Option.bind_some, nI_1, nI_1]
  · intro k hk
    rw [si_1, if_neg hk, w]
  · rw [si_at, if_pos ⟨rfl, rfl⟩]
  · intro i hi
    rw [si_at, if_neg (by omega), w]
  · intro i hi
    rw [si_2, q3 i (by omega), r3 i hi]
theorem RTr.not {V : (Nat → Int32) → Int32} (h : RTr s D c a b V) (hV : VT V) (h0 : D (c + 2 * b) = 20) : RTr s D c a (b + 1) (fun e => 1 - V e) := by
  obtain ⟨hab, h⟩ := h
  refine ⟨by omega, fun N m z E t y M hN he hz hE hE2 hb hc hD ht hy hm => ?_⟩
  obtain ⟨M1, m1, e1, l1, r1, r2, r3, r4⟩ := h N m z E t y M hN he hz hE hE2 (by omega) (by omega) (fun i i1 i2 => hD i i1 (by omega)) (by omega) (by omega) (by omega)
  obtain ⟨m2, rfl⟩ : ∃ m2, m1 = m2 + 1 := ⟨m1 - 1, by omega⟩
  have w : M1.1 132 = M.1 132 := r1 132 (by decide)
  refine ⟨si M1 140 y (1 - V (M.1 138)), m2, ?_, by omega, ?_, ?_, ?_, ?_⟩
  · rw [e1, f_m_work_49, show nI z + (2 : Int32) = nI (z + 2) from nI_add z 2, if_pos (am_in_nI hz (by decide)), nI_clamp (by omega), show gi M1 132 (z + 2) = nI E by show M1.1 132 (z + 2) = _; rw [w]; exact hE, if_neg (nI_ge (by omega) (by omega)), r_idx, if_pos (am_in_nI (by omega) (by decide)), nI_1, if_pos (am_in_nI (by omega) (by decide)), nI_clamp (by omega), show gi M1 132 (c + 2 * b) = 20 by show M1.1 132 (c + 2 * b) = _; rw [w]; exact (hD _ (by omega) (by omega)).trans h0, if_pos (show (1 : Int32) < 20 by decide), if_neg (show ¬ (20 : Int32) = 2 by decide), if_neg (show ¬ (20 : Int32) = 3 by decide), if_pos (show (10 : Int32) ≤ 20 by decide), if_pos (show (20 : Int32) ≤ 20 by decide), if_pos (show (20 : Int32) = 20 from rfl), nI_s1, if_pos (am_in_nI (by omega) (by decide)), nI_clamp (by omega), show gi M1 140 y = V (M.1 138) from r2]
    rcases hV (M.1 138) with q | q
    · rw [q, if_pos (show (0 : Int32) = 0 from rfl), if_pos ⟨am_in_nI (by omega) (by decide), Or.inr rfl⟩, Option.bind_some, nI_1]
      rfl
    · rw [q, if_neg (show ¬ (1 : Int32) = 0 by decide), if_pos ⟨am_in_nI (by omega) (by decide), Or.inl rfl⟩, Option.bind_some, nI_1]
      rfl
  · intro k hk
    rw [si_1, if_neg hk, r1 k hk]
  · rw [si_at, if_pos ⟨rfl, rfl⟩]
  · intro i hi
    rw [si_at, if_neg (by omega), r3 i hi]
  · intro i hi
    rw [si_2, r4 i hi]
/-- and (21, class 25), or (22, class 24) -/
theorem RTr.bin {V1 V2 : (Nat → Int32) → Int32} (h : RTr s D c a b V1) (h' : RTr s D c b d V2) (hV1 : VT V1) (hV2 : VT V2) (hk : k = 24 ∨ k = 25) (h0 : D (c + 2 * d) = nI (46 - k)) : RTr s D c a (d + 1) (fun e => f_l_compared (nI k) (V1 e) (V2 e) M0) := by
  obtain ⟨hab, h⟩ := h
  obtain ⟨hbd, h'⟩ := h'
  refine ⟨by omega, fun N m z E t y M hN he hz hE hE2 hb hc hD ht hy hm => ?_⟩
  obtain ⟨M1, m1, e1, l1, r1, r2, r3, r4⟩ := h N m z E t y M hN he hz hE hE2 (by omega) (by omega) (fun i i1 i2 => hD i i1 (by omega)) (by omega) (by omega) (by omega)
  have w1 : M1.1 132 = M.1 132 := r1 132 (by decide)
  have w2 : M1.1 138 = M.1 138 := r1 138 (by decide)
  obtain ⟨M2, m2, e2, l2, q1, q2, q3, q4⟩ := h' N m1 z E t (y + 1) M1 hN (by rw [w2]; exact he) hz (by rw [w1]; exact hE) hE2 (by omega) (by omega) (fun i i1 i2 => by rw [w1]; exact hD i (by omega) (by omega)) (by omega) (by omega) (by omega)
  obtain ⟨m3, rfl⟩ : ∃ m3, m2 = m3 + 1 := ⟨m2 - 1, by omega⟩
  have w : M2.1 132 = M.1 132 := (q1 132 (by decide)).trans w1
  rw [w2] at q2
  have v1 : gi M2 140 y = V1 (M.1 138) := (q3 y (by omega)).trans r2
  have v2 : gi M2 140 (y + 1) = V2 (M.1 138) := q2
  refine ⟨si M2 140 y (f_l_compared (nI k) (V1 (M.1 138)) (V2 (M.1 138)) M0), m3, ?_, by omega, ?_, ?_, ?_, ?_⟩
  · have op : gi M2 132 (c + 2 * d) = nI (46 - k) := by
      show M2.1 132 (c + 2 * d) = _
      rw [w]
      exact (hD _ (by omega) (by omega)).trans h0
    rw [e1, e2, f_m_work_49, show nI z + (2 : Int32) = nI (z + 2) from nI_add z 2, if_pos (am_in_nI hz (by decide)), nI_clamp (by omega), show gi M2 132 (z + 2) = nI E by show M2.1 132 (z + 2) = _; rw [w]; exact hE, if_neg (nI_ge (by omega) (by omega)), r_idx, if_pos (am_in_nI (by omega) (by decide)), nI_1, if_pos (am_in_nI (by omega) (by decide)), nI_clamp (by omega), op]
    rcases hk with rfl | rfl
    · rw [if_pos (show (1 : Int32) < nI (46 - 24) by decide), if_neg (show ¬ nI (46 - 24) = (2 : Int32) by decide), if_neg (show ¬ nI (46 - 24) = (3 : Int32) by decide), if_pos (show (10 : Int32) ≤ nI (46 - 24) by decide), if_pos (show (20 : Int32) ≤ nI (46 - 24) by decide), if_neg (show ¬ nI (46 - 24) = (20 : Int32) by decide), if_neg (show ¬ nI (46 - 24) = (21 : Int32) by decide), nI_m1, nI_s1, if_pos (am_in_nI (by omega) (by decide)), nI_clamp (by omega), nI_clamp (by omega), v1, v2]
      rcases hV1 (M.1 138) with x1 | x1
      · rcases hV2 (M.1 138) with x2 | x2
        · rw [x1, x2, if_pos (show (0 : Int32) = 0 from rfl), if_pos (am_in_nI (by omega) (by decide)), if_pos (show (0 : Int32) = 0 from rfl), if_pos ⟨am_in_nI (by omega) (by decide), Or.inl rfl⟩, Option.bind_some, nI_1]
          rfl
        · rw [x1, x2, if_pos (show (0 : Int32) = 0 from rfl), if_pos (am_in_nI (by omega) (by decide)), if_neg (show ¬ (1 : Int32) = 0 by decide), if_pos ⟨am_in_nI (by omega) (by decide), Or.inr rfl⟩, Option.bind_some, nI_1]
          rfl
      · rw [x1, if_neg (show ¬ (1 : Int32) = 0 by decide), if_pos ⟨am_in_nI (by omega) (by decide), Or.inr rfl⟩, Option.bind_some, nI_1]
        rcases hV2 (M.1 138) with x2 | x2 <;> (rw [x2]; rfl)
    · rw [if_pos (show (1 : Int32) < nI (46 - 25) by decide), if_neg (show ¬ nI (46 - 25) = (2 : Int32) by decide), if_neg (show ¬ nI (46 - 25) = (3 : Int32) by decide), if_pos (show (10 : Int32) ≤ nI (46 - 25) by decide), if_pos (show (20 : Int32) ≤ nI (46 - 25) by decide), if_neg (show ¬ nI (46 - 25) = (20 : Int32) by decide), if_pos (show nI (46 - 25) = (21 : Int32) from rfl), nI_m1, nI_s1, if_pos (am_in_nI (by omega) (by decide)), nI_clamp (by omega), nI_clamp (by omega), v1, v2]
      rcases hV1 (M.1 138) with x1 | x1
      · rw [x1, if_pos (show (0 : Int32) = 0 from rfl), if_pos ⟨am_in_nI (by omega) (by decide), Or.inl rfl⟩, Option.bind_some, nI_1]
        rcases hV2 (M.1 138) with x2 | x2 <;> (rw [x2]; rfl)
      · rcases hV2 (M.1 138) with x2 | x2
        · rw [x1, x2, if_neg (show ¬ (1 : Int32) = 0 by decide), if_pos (am_in_nI (by omega) (by decide)), if_pos (show (0 : Int32) = 0 from rfl), if_pos ⟨am_in_nI (by omega) (by decide), Or.inl rfl⟩, Option.bind_some, nI_1]
          rfl
        · rw [x1, x2, if_neg (show ¬ (1 : Int32) = 0 by decide), if_pos (am_in_nI (by omega) (by decide)), if_neg (show ¬ (1 : Int32) = 0 by decide), if_pos ⟨am_in_nI (by omega) (by decide), Or.inr rfl⟩, Option.bind_some, nI_1]
          rfl
  · intro k hk
    rw [si_1, if_neg hk, q1 k hk, r1 k hk]
  · rw [si_at, if_pos ⟨rfl, rfl⟩]
  · intro i hi
    rw [si_at, if_neg (by omega), q3 i (by omega), r3 i hi]
  · intro i hi
    rw [si_2, q4 i hi, r4 i hi]
/-- several values, one on the other -/
def RCs (s : Nat) (D : Nat → Int32) (c a b n : Nat) (Vs : Nat → (Nat → Int32) → Int32) : Prop := a + n ≤ b ∧ ∀ (N m z E t : Nat) (y : Int32) (M : Mem), 4000 ≤ N → EnB s (M.1 138) → z + 2 < 2820 → M.1 132 (z + 2) = nI E → E < 1000 → b ≤ E → c + 2 * b ≤ 2820 → (∀ i, c + 2 * a ≤ i → i < c + 2 * b → M.1 132 i = D i) → t + b ≤ 330 + a → b < m + a → ∃ M' m', f_m_work_49 N m (nI z) (nI c) (nI t) y (nI a) M = f_m_work_49 N m' (nI z) (nI c) (nI (t + n)) y (nI b) M' ∧ m + a ≤ m' + b ∧ M'.1 = M.1 ∧ (∀ i, i < t → M'.2 139 i = M.2 139 i) ∧ ∀ i, i < n → M'.2 139 (t + i) = (Vs i (M.1 138)).toInt64
theorem RCs.nil {Vs : Nat → (Nat → Int32) → Int32} : RCs s D c a a 0 Vs := ⟨Nat.le_refl _, fun _ m _ _ _ _ M _ _ _ _ _ _ _ _ _ _ => ⟨M, m, rfl, Nat.le_refl _, rfl, fun _ _ => rfl, fun i hi => by omega⟩⟩
theorem RCs.snoc {n : Nat} {Vs : Nat → (Nat → Int32) → Int32} (h : RCs s D c a b n Vs) (h' : RCo s D c b d (Vs n)) : RCs s D c a d (n + 1) Vs := by
  obtain ⟨hab, h⟩ := h
  obtain ⟨hbd, h'⟩ := h'
  refine ⟨by omega, fun N m z E t y M hN he hz hE hE2 hb hc hD ht hm => ?_⟩
  obtain ⟨M1, m1, e1, l1, r1, r2, r3⟩ := h N m z E t y M hN he hz hE hE2 (by omega) (by omega) (fun i i1 i2 => hD i i1 (by omega)) (by omega) (by omega)
  obtain ⟨M2, m2, e2, l2, q1, q2, q3⟩ := h' N m1 z E (t + n) y M1 hN (by rw [r1]; exact he) hz (by rw [r1]; exact hE) hE2 (by omega) (by omega) (fun i i1 i2 => by rw [r1]; exact hD i (by omega) (by omega)) (by omega) (by omega)
  refine ⟨M2, m2, by rw [e1, e2]; rfl, by omega, q1.trans r1, fun i hi => by rw [q3 i (by omega), r2 i hi], fun i hi => ?_⟩
  by_cases e : i = n
  · rw [e, q2, r1]
  · rw [q3 (t + i) (by omega), r3 i (by omega)]
theorem RCs.cong {D' : Nat → Int32} {n : Nat} {Vs : Nat → (Nat → Int32) → Int32} (h : RCs s D c a b n Vs) (e : ∀ i, c + 2 * a ≤ i → i < c + 2 * b → D' i = D i) : RCs s D' c a b n Vs := ⟨h.1, fun N m z E t y M hN he hz hE hE2 hb hc hD ht hm => h.2 N m z E t y M hN he hz hE hE2 hb hc (fun i i1 i2 => (hD i i1 i2).trans (e i i1 i2)) ht hm⟩
theorem RCo.cong {D' : Nat → Int32} {V : (Nat → Int32) → Int32} (h : RCo s D c a b V) (e : ∀ i, c + 2 * a ≤ i → i < c + 2 * b → D' i = D i) : RCo s D' c a b V := ⟨h.1, fun N m z E t y M hN he hz hE hE2 hb hc hD ht hm => h.2 N m z E t y M hN he hz hE hE2 hb hc (fun i i1 i2 => (hD i i1 i2).trans (e i i1 i2)) ht hm⟩
theorem RTr.cong {D' : Nat → Int32} {V : (Nat → Int32) → Int32} (h : RTr s D c a b V) (e : ∀ i, c + 2 * a ≤ i → i < c + 2 * b → D' i = D i) : RTr s D' c a b V := ⟨h.1, fun N m z E t y M hN he hz hE hE2 hb hc hD ht hy hm => h.2 N m z E t y M hN he hz hE hE2 hb hc (fun i i1 i2 => (hD i i1 i2).trans (e i i1 i2)) ht hy hm⟩
/-- which case is taken: the first that fits, of those from n - j on -/
def pik (lo hi : Nat → Nat) (x : Int32) (n : Nat) : Nat → Nat
  | 0 => n
  | j + 1 => if f_w_within x (nI (lo (n - (j + 1)))) (nI (hi (n - (j + 1)))) M0 = 0 then pik lo hi x n j else n - (j + 1)
theorem pik_le (lo hi : Nat → Nat) (x : Int32) (n : Nat) : ∀ j, pik lo hi x n j ≤ n
  | 0 => Nat.le_refl _
  | j + 1 => by
    show (if _ then _ else _) ≤ n
    split
    · exact pik_le lo hi x n j
    · exact Nat.sub_le _ _
theorem win64 (x : Int32) (l h : Nat) : (f_w_within x (nI l) (nI h) M0 = 0) ↔ (lg_cmp x.toInt64 (nI l).toInt64 < 0 ∨ 0 < lg_cmp x.toInt64 (nI h).toInt64) := by
  have h3 : (0 < lg_cmp x.toInt64 (nI h).toInt64) ↔ nI h < x := by rw [lg_cmp_gt, Int64.lt_iff_toInt_lt, Int32.lt_iff_toInt_lt, Int32.toInt_toInt64, Int32.toInt_toInt64]
  have h4 : (lg_cmp x.toInt64 (nI l).toInt64 < 0) ↔ x < nI l := by rw [lg_cmp_lt, Int64.lt_iff_toInt_lt, Int32.lt_iff_toInt_lt, Int32.toInt_toInt64, Int32.toInt_toInt64]
  rw [h3, h4]
  unfold f_w_within
  by_cases p : x < nI l
  · rw [if_pos p]; exact ⟨fun _ => Or.inl p, fun _ => rfl⟩
  · rw [if_neg p]
    by_cases q : nI h < x
    · rw [if_pos q]; exact ⟨fun _ => Or.inr q, fun _ => rfl⟩
    · rw [if_neg q]
      constructor
      · intro e; exact absurd e (by decide)
      · intro e
        rcases e with e | e
        · exact absurd e p
        · exact absurd e q
theorem r_choose {N t n g : Nat} {lo hi : Nat → Nat} {x : Int32} {M : Mem} (hN : 4000 ≤ N) (hn : n ≤ 6) (ht : t + n + 2 ≤ 330) (hg : g + 2 * n ≤ 2820) (hx : M.2 139 t = x.toInt64) (hl : ∀ i, i < n → M.1 132 (g + 2 * i) = nI (lo i) ∧ M.1 132 (g + 2 * i + 1) = nI (hi i)) : f_m_choose N (nI (t + n + 2)) (nI n) (nI g) M = some (nI (t + 1), sj M 139 t (M.2 139 (t + 1 + pik lo hi x n n))) := by
  have go : ∀ (j m : Nat), j ≤ n → n < m + j → f_m_choose_15 N m (nI g) (nI t) (nI (pik lo hi x n j)) (nI (n - j) - 1) M = some (nI (t + 1), sj M 139 t (M.2 139 (t + 1 + pik lo hi x n n))) := by
    intro j
    induction h : n - j generalizing j with
    | zero =>
      intro m h1 h2
      have e : j = n := by omega
      subst e
      obtain ⟨m', rfl⟩ : ∃ m', m = m' + 1 := ⟨m - 1, by omega⟩
      have pl := pik_le lo hi x j j
      rw [f_m_choose_15, if_pos (show nI 0 - 1 < (0 : Int32) by decide), nI_1, nI_add, if_pos (am_in_nI (by omega) (by decide)), if_pos (am_in_nI (by omega) (by decide)), nI_clamp (by omega), nI_clamp (by omega)]
      rfl
    | succ r ih =>
      intro m h1 h2
      obtain ⟨m', rfl⟩ : ∃ m', m = m' + 1 := ⟨m - 1, by omega⟩
      have e : n - (j + 1) = r := by omega
      obtain ⟨l1, l2⟩ := hl r (by omega)
      have nx : ∀ q, q = pik lo hi x n (j + 1) → f_m_choose_15 N m' (nI g) (nI t) (nI q) (nI r + (-1)) M = some (nI (t + 1), sj M 139 t (M.2 139 (t + 1 + pik lo hi x n n))) := by
        intro q hq
        rw [hq]
        have := ih (j + 1) e m' (by omega) (by omega)
        rw [show nI r + (-1 : Int32) = nI r - 1 from (Int32.sub_eq_add_neg _ _).symm]
        exact this
      have pe : pik lo hi x n (j + 1) = if f_w_within x (nI (lo r)) (nI (hi r)) M0 = 0 then pik lo hi x n j else r := by
        show (if f_w_within x (nI (lo (n - (j + 1)))) (nI (hi (n - (j + 1)))) M0 = 0 then pik lo hi x n j else n - (j + 1)) = _
        rw [e]
      have wn := win64 x (lo r) (hi r)
      rw [f_m_choose_15, nI_s1, if_neg (nI_pos (by omega)), if_pos (am_in_nI (by omega) (by decide)), r_idx, if_pos (am_in_nI (by omega) (by decide)), nI_clamp (by omega), nI_clamp (by omega), show gi M 132 (g + 2 * r) = nI (lo r) from l1, show gj M 139 t = x.toInt64 from hx, nI_1, if_pos (am_in_nI (by omega) (by decide)), nI_clamp (by omega), show gi M 132 (g + 2 * r + 1) = nI (hi r) from l2]
      by_cases p : lg_cmp x.toInt64 (nI (lo r)).toInt64 < 0
      · rw [if_pos p]
        exact nx _ (by rw [pe, if_pos (wn.mpr (Or.inl p))])
      · rw [if_neg p, if_pos (am_in_nI (by omega) (by decide))]
        by_cases q : 0 < lg_cmp x.toInt64 (nI (hi r)).toInt64
        · rw [if_pos q]
          exact nx _ (by rw [pe, if_pos (wn.mpr (Or.inr q))])
        · rw [if_neg q]
          refine nx _ ?_
          rw [pe, if_neg (fun e => ?_)]
          rcases wn.mp e with e | e
          · exact p e
          · exact q e
  unfold f_m_choose
  have e1 : nI (t + n + 2) - nI n - (2 : Int32) = nI t := by
    rw [nI_sub (by omega), show (2 : Int32) = nI 2 from rfl, nI_sub (by omega)]
    congr 1
    omega
  rw [e1]
  exact go 0 N (by omega) (by omega)
/-- choose -/
theorem RCo.cho {n : Nat} {lo hi : Nat → Nat} {Vs : Nat → (Nat → Int32) → Int32} (h : RCs s D c a b (n + 2) Vs) (hn : n ≤ 6) (h0 : D (c + 2 * b) = 2) (h1 : D (c + 2 * b + 1) = nI n) (hl : ∀ i, i < n → D (c + 2 * (b + 1 + i)) = nI (lo i) ∧ D (c + 2 * (b + 1 + i) + 1) = nI (hi i)) : RCo s D c a (b + 1 + n) (fun e => Vs (1 + pik lo hi (Vs 0 e) n n) e) := by
  obtain ⟨hab, h⟩ := h
  refine ⟨by omega, fun N m z E t y M hN he hz hE hE2 hb hc hD ht hm => ?_⟩
  obtain ⟨M1, m1, e1, l1, r1, r2, r3⟩ := h N m z E t y M hN he hz hE hE2 (by omega) (by omega) (fun i i1 i2 => hD i i1 (by omega)) (by omega) (by omega)
  obtain ⟨m2, rfl⟩ : ∃ m2, m1 = m2 + 1 := ⟨m1 - 1, by omega⟩
  have pl := pik_le lo hi (Vs 0 (M.1 138)) n n
  have ch := r_choose (N := N) (t := t) (n := n) (g := c + 2 * b + 2) (lo := lo) (hi := hi) (x := Vs 0 (M.1 138)) (M := M1) hN hn (by omega) (by omega) (r3 0 (by omega)) (fun i hi => by
    obtain ⟨d1, d2⟩ := hl i hi
    rw [r1, hD _ (by omega) (by omega), hD _ (by omega) (by omega), show c + 2 * b + 2 + 2 * i = c + 2 * (b + 1 + i) by omega]
    exact ⟨d1, d2⟩)
  refine ⟨sj M1 139 t (M1.2 139 (t + 1 + pik lo hi (Vs 0 (M.1 138)) n n)), m2, ?_, by omega, r1, ?_, ?_⟩
  · rw [e1, f_m_work_49, show nI z + (2 : Int32) = nI (z + 2) from nI_add z 2, if_pos (am_in_nI hz (by decide)), nI_clamp (by omega), show gi M1 132 (z + 2) = nI E by show M1.1 132 (z + 2) = _; rw [r1]; exact hE, if_neg (nI_ge (by omega) (by omega)), r_idx, if_pos (am_in_nI (by omega) (by decide)), nI_1, if_pos (am_in_nI (by omega) (by decide)), nI_clamp (by omega), nI_clamp (by omega), show gi M1 132 (c + 2 * b) = 2 by show M1.1 132 (c + 2 * b) = _; rw [r1]; exact (hD _ (by omega) (by omega)).trans h0, if_pos (show (1 : Int32) < 2 by decide), if_pos (show (2 : Int32) = 2 from rfl), show gi M1 132 (c + 2 * b + 1) = nI n by show M1.1 132 (c + 2 * b + 1) = _; rw [r1]; exact (hD _ (by omega) (by omega)).trans h1, show nI (c + 2 * b) + (2 : Int32) = nI (c + 2 * b + 2) from nI_add _ 2, show t + (n + 2) = t + n + 2 by omega, ch, Option.bind_some, nI_add, nI_1, show b + n + 1 = b + 1 + n by omega]
  · rw [sj_at, if_pos ⟨rfl, rfl⟩, show t + 1 + pik lo hi (Vs 0 (M.1 138)) n n = t + (1 + pik lo hi (Vs 0 (M.1 138)) n n) by omega]
    exact r3 _ (by omega)
  · intro i hi
    rw [sj_at, if_neg (by omega)]
    exact r2 i hi
end RCODE
