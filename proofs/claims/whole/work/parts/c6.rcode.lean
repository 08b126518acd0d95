/-! What a stretch of the reference's code does. -/
def EnB (s : Nat) (e : Nat → Int32) : Prop := ∀ i, NmOk s i → bdI (e i)
/-- a value: bounded, and of the names that may be used -/
def VOk (s : Nat) (V : (Nat → Int32) → Int32) : Prop := (∀ e, EnB s e → bdI (V e)) ∧ ∀ e e', (∀ i, NmOk s i → e i = e' i) → V e = V e'
def Rk (M M' : Mem) (t : Nat) (v : Int32) : Prop := M'.1 = M.1 ∧ M'.2 139 t = v.toInt64 ∧ ∀ i, i < t → M'.2 139 i = M.2 139 i
def RCo (s : Nat) (D : Nat → Int32) (c a b : Nat) (V : (Nat → Int32) → Int32) : Prop := a < b ∧ ∀ (N m z E t : Nat) (y : Int32) (M : Mem), 4000 ≤ N → EnB s (M.1 138) → z + 2 < 2820 → M.1 132 (z + 2) = nI E → E < 1000 → b ≤ E → c + 2 * b ≤ 2820 → (∀ i, c + 2 * a ≤ i → i < c + 2 * b → M.1 132 i = D i) → t + b ≤ 330 + a → b < m + a → ∃ M' m', f_m_work_49 N m (nI z) (nI c) (nI t) y (nI a) M = f_m_work_49 N m' (nI z) (nI c) (nI (t + 1)) y (nI b) M' ∧ m + a ≤ m' + b ∧ Rk M M' t (V (M.1 138))
theorem r_idx (c a : Nat) : nI c + (2 : Int32) * nI a = nI (c + 2 * a) := by rw [show (2 : Int32) = nI 2 from rfl, nI_mul, nI_add]
section RCODE
variable {s c a b k v : Nat} {D : Nat → Int32}
theorem RCo.num (hv : v < 2 ^ 31) (h0 : D (c + 2 * a) = 0) (h1 : D (c + 2 * a + 1) = nI v) : RCo s D c a (a + 1) (fun _ => nI v) := by
  refine ⟨by omega, fun N m z E t y M hN he hz hE hE2 hb hc hD ht hm => ?_⟩
  obtain ⟨m', rfl⟩ : ∃ m', m = m' + 1 := ⟨m - 1, by omega⟩
  refine ⟨sj M 139 t (nI v).toInt64, m', ?_, by omega, rfl, ?_, ?_⟩
  · rw [f_m_work_49, show nI z + (2 : Int32) = nI (z + 2) from nI_add z 2, if_pos (am_in_nI hz (by decide)), nI_clamp (by omega), show gi M 132 (z + 2) = nI E from hE, if_neg (nI_ge (by omega) (by omega)), r_idx, if_pos (am_in_nI (by omega) (by decide)), nI_1, if_pos (am_in_nI (by omega) (by decide)), nI_clamp (by omega), nI_clamp (by omega), show gi M 132 (c + 2 * a) = 0 from (hD _ (by omega) (by omega)).trans h0, show gi M 132 (c + 2 * a + 1) = nI v from (hD _ (by omega) (by omega)).trans h1, if_neg (show ¬ (1 : Int32) < 0 by decide), if_pos (show (0 : Int32) = 0 from rfl), if_pos (am_in_nI (by omega) (by decide)), nI_clamp (by omega), Option.bind_some, nI_1, nI_1]
  · rw [sj_at, if_pos ⟨rfl, rfl⟩]
  · intro i hi
    rw [sj_at, if_neg (by omega)]
theorem RCo.name (hk : k < 12) (h0 : D (c + 2 * a) = 1) (h1 : D (c + 2 * a + 1) = nI k) : RCo s D c a (a + 1) (fun e => e k) := by
  refine ⟨by omega, fun N m z E t y M hN he hz hE hE2 hb hc hD ht hm => ?_⟩
  obtain ⟨m', rfl⟩ : ∃ m', m = m' + 1 := ⟨m - 1, by omega⟩
  refine ⟨sj M 139 t (M.1 138 k).toInt64, m', ?_, by omega, rfl, ?_, ?_⟩
  · rw [f_m_work_49, show nI z + (2 : Int32) = nI (z + 2) from nI_add z 2, if_pos (am_in_nI hz (by decide)), nI_clamp (by omega), show gi M 132 (z + 2) = nI E from hE, if_neg (nI_ge (by omega) (by omega)), r_idx, if_pos (am_in_nI (by omega) (by decide)), nI_1, if_pos (am_in_nI (by omega) (by decide)), nI_clamp (by omega), nI_clamp (by omega), show gi M 132 (c + 2 * a) = 1 from (hD _ (by omega) (by omega)).trans h0, show gi M 132 (c + 2 * a + 1) = nI k from (hD _ (by omega) (by omega)).trans h1, if_neg (show ¬ (1 : Int32) < 1 by decide), if_neg (show ¬ (1 : Int32) = 0 by decide), if_pos (am_in_nI hk (by decide)), if_pos (am_in_nI (by omega) (by decide)), nI_clamp (by omega), nI_clamp (by omega), Option.bind_some, nI_1, nI_1]
    rfl
  · rw [sj_at, if_pos ⟨rfl, rfl⟩]
  · intro i hi
    rw [sj_at, if_neg (by omega)]
theorem neg64 {v : Int32} (h : bdI v) : -(v.toInt64) = (-v).toInt64 := by
  apply Int64.toInt_inj.mp
  obtain ⟨h1, h2⟩ := h
  have e1 : (-v).toInt = -(v.toInt) := by
    rw [Int32.toInt_neg, Int.bmod_eq_of_le (by omega) (by omega)]
  rw [Int32.toInt_toInt64, e1, Int64.toInt_neg, Int32.toInt_toInt64, Int.bmod_eq_of_le (by omega) (by omega)]
theorem RCo.neg {V : (Nat → Int32) → Int32} (h : RCo s D c a b V) (hV : VOk s V) (h0 : D (c + 2 * b) = 3) : RCo s D c a (b + 1) (fun e => -(V e)) := by
  obtain ⟨hab, h⟩ := h
  refine ⟨by omega, fun N m z E t y M hN he hz hE hE2 hb hc hD ht hm => ?_⟩
  obtain ⟨M1, m1, e1, l1, r1, r2, r3⟩ := h N m z E t y M hN he hz hE hE2 (by omega) (by omega) (fun i i1 i2 => hD i i1 (by omega)) (by omega) (by omega)
  obtain ⟨m2, rfl⟩ : ∃ m2, m1 = m2 + 1 := ⟨m1 - 1, by omega⟩
  have t1 : nI (t + 1) - (1 : Int32) = nI t := by
    rw [show (1 : Int32) = nI 1 from rfl, nI_sub (by omega)]
    congr 1
  refine ⟨sj M1 139 t (-(V (M.1 138))).toInt64, m2, ?_, by omega, r1, ?_, ?_⟩
  · rw [e1, f_m_work_49, show nI z + (2 : Int32) = nI (z + 2) from nI_add z 2, if_pos (am_in_nI hz (by decide)), nI_clamp (by omega), show gi M1 132 (z + 2) = nI E by show M1.1 132 (z + 2) = _; rw [r1]; exact hE, if_neg (nI_ge (by omega) (by omega)), r_idx, if_pos (am_in_nI (by omega) (by decide)), nI_1, if_pos (am_in_nI (by omega) (by decide)), nI_clamp (by omega), show gi M1 132 (c + 2 * b) = 3 by show M1.1 132 (c + 2 * b) = _; rw [r1]; exact (hD _ (by omega) (by omega)).trans h0, if_pos (show (1 : Int32) < 3 by decide), if_neg (show ¬ (3 : Int32) = 2 by decide), if_pos (show (3 : Int32) = 3 from rfl), t1, if_pos (am_in_nI (by omega) (by decide)), if_pos (am_in_nI (by omega) (by decide)), nI_clamp (by omega), show gj M1 139 t = (V (M.1 138)).toInt64 from r2, neg64 (hV.1 _ he), Option.bind_some, nI_1]
  · rw [sj_at, if_pos ⟨rfl, rfl⟩]
  · intro i hi
    rw [sj_at, if_neg (by omega)]
    exact r3 i hi
end RCODE
