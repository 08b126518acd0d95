/-! Questions in the reference: what it sees on its pile. -/
section QSEE
variable {B : Nat → Nat} {n u so T N : Nat} {x : Int32} {j d p g w w1 : Nat} {M M' : Mem}
theorem no_open : ∀ (m i : Nat), i ≤ 160 → i < m → (∀ t, t < i → ∃ k, k < 40 ∧ M.1 134 t = nI k) → f_m_openAt_7 N m (nI i - 1) M = some (-1) := by
  intro m
  induction m with
  | zero => intro i h1 h2; omega
  | succ m ih =>
    intro i h1 h2 h3
    rw [f_m_openAt_7]
    by_cases z : i = 0
    · subst z
      rw [if_pos (show nI 0 - 1 < (0 : Int32) by decide)]
      rfl
    · obtain ⟨q, rfl⟩ : ∃ q, i = q + 1 := ⟨i - 1, by omega⟩
      obtain ⟨k, k1, k2⟩ := h3 q (by omega)
      rw [nI_s1, if_neg (nI_pos (by omega)), if_pos (am_in_nI (by omega) (by decide)), nI_clamp (by omega), show gi M 134 q = nI k from k2, if_neg (show ¬ (40 : Int32) ≤ nI k from nI_ge (b := 40) k1 (by decide)), show nI q + (-1 : Int32) = nI q - 1 from (Int32.sub_eq_add_neg _ _).symm]
      exact ih q (by omega) (by omega) (fun t ht => h3 t (by omega))
theorem now_no (hN : 4000 ≤ N) (h19 : M.1 129 19 = nI p) (hp : p ≤ 160) (h : ∀ t, t < p → ∃ k, k < 40 ∧ M.1 134 t = nI k) : f_m_openNow N M = some (-1) := by
  unfold f_m_openNow f_m_openAt
  rw [show gi M 129 19 = nI p from h19, no_open N p hp (by omega) h, Option.bind_some, if_neg (show ¬ (0 : Int32) ≤ -1 by decide)]
theorem ask_here (ho : f_m_openNow N M = some (-1)) (h23 : M.1 129 23 = nI 1) : f_m_isAskHere N M = some 1 := by
  unfold f_m_isAskHere
  rw [show gi M 129 23 = nI 1 from h23, if_neg (show ¬ nI 1 = (0 : Int32) by decide), ho, Option.bind_some, if_pos rfl]
/-- is there a compare above all that is lower -/
theorem cmp_0 : ∀ (q m : Nat), p + q ≤ 160 → q < m → (p = 0 ∨ ∃ k, k < 44 ∧ M.1 134 (p - 1) = nI k ∧ rkN k < 4) → (∀ i, p ≤ i → i < p + q → ∃ k, k < 40 ∧ M.1 134 i = nI k ∧ 5 ≤ rkN k) → f_m_isCompared_7 N m (nI (p + q) - 1) M = some 0 := by
  intro q
  induction q with
  | zero =>
    intro m h1 h2 h3 h4
    obtain ⟨m', rfl⟩ : ∃ m', m = m' + 1 := ⟨m - 1, by omega⟩
    rw [f_m_isCompared_7]
    unfold f_m_isCompared_30
    by_cases z : p = 0
    · subst z
      rw [if_pos (show nI (0 + 0) - 1 < (0 : Int32) by decide), if_pos (show nI (0 + 0) - 1 < (0 : Int32) by decide)]
    · rcases h3 with h3 | ⟨k, k1, k2, k3⟩
      · exact absurd h3 z
      · obtain ⟨t, rfl⟩ : ∃ t, p = t + 1 := ⟨p - 1, by omega⟩
        rw [show t + 1 + 0 = t + 1 from rfl, nI_s1, if_neg (nI_pos (by omega)), if_pos (am_in_nI (by omega) (by decide)), nI_clamp (by omega), show gi M 134 t = nI k from k2, rk_all k k1, if_pos (show nI (rkN k) ≤ (4 : Int32) from nI_le (b := 4) (by omega) (by decide)), if_neg (nI_pos (by omega)), if_pos (am_in_nI (by omega) (by decide)), if_neg (show ¬ nI (rkN k) = (4 : Int32) from fun e => by have := (nI_eq (b := 4) (by omega) (by decide)).mp e; omega)]
  | succ q ih =>
    intro m h1 h2 h3 h4
    obtain ⟨m', rfl⟩ : ∃ m', m = m' + 1 := ⟨m - 1, by omega⟩
    obtain ⟨k, k1, k2, k3⟩ := h4 (p + q) (by omega) (by omega)
    have rl := rkN_le k
    rw [f_m_isCompared_7, show p + (q + 1) = p + q + 1 by omega, nI_s1, if_neg (nI_pos (by omega)), if_pos (am_in_nI (by omega) (by decide)), nI_clamp (by omega), show gi M 134 (p + q) = nI k from k2, rk_all k (by omega), if_neg (show ¬ nI (rkN k) ≤ (4 : Int32) from nI_ge (a := 4) (by omega) (by omega)), show nI (p + q) + (-1 : Int32) = nI (p + q) - 1 from (Int32.sub_eq_add_neg _ _).symm]
    exact ih m' (by omega) (by omega) h3 (fun i i1 i2 => h4 i i1 (by omega))
theorem cmp_1 {k0 : Nat} (hk : k0 < 40) (ht : M.1 134 p = nI k0) (hr : rkN k0 = 4) : ∀ (q m : Nat), p + 1 + q ≤ 160 → q < m → (∀ i, p < i → i < p + 1 + q → ∃ k, k < 40 ∧ M.1 134 i = nI k ∧ 5 ≤ rkN k) → f_m_isCompared_7 N m (nI (p + 1 + q) - 1) M = some 1 := by
  intro q
  induction q with
  | zero =>
    intro m h1 h2 h4
    obtain ⟨m', rfl⟩ : ∃ m', m = m' + 1 := ⟨m - 1, by omega⟩
    rw [f_m_isCompared_7]
    unfold f_m_isCompared_30
    rw [show p + 1 + 0 = p + 1 from rfl, nI_s1, if_neg (nI_pos (by omega)), if_pos (am_in_nI (by omega) (by decide)), nI_clamp (by omega), show gi M 134 p = nI k0 from ht, rk_all k0 (by omega), hr, if_pos (show nI 4 ≤ (4 : Int32) by decide), if_neg (nI_pos (by omega)), if_pos (am_in_nI (by omega) (by decide)), if_pos (show nI 4 = (4 : Int32) from rfl)]
  | succ q ih =>
    intro m h1 h2 h4
    obtain ⟨m', rfl⟩ : ∃ m', m = m' + 1 := ⟨m - 1, by omega⟩
    obtain ⟨k, k1, k2, k3⟩ := h4 (p + 1 + q) (by omega) (by omega)
    have rl := rkN_le k
    rw [f_m_isCompared_7, show p + 1 + (q + 1) = p + 1 + q + 1 by omega, nI_s1, if_neg (nI_pos (by omega)), if_pos (am_in_nI (by omega) (by decide)), nI_clamp (by omega), show gi M 134 (p + 1 + q) = nI k from k2, rk_all k (by omega), if_neg (show ¬ nI (rkN k) ≤ (4 : Int32) from nI_ge (a := 4) (by omega) (by omega)), show nI (p + 1 + q) + (-1 : Int32) = nI (p + 1 + q) - 1 from (Int32.sub_eq_add_neg _ _).symm]
    exact ih m' (by omega) (by omega) (fun i i1 i2 => h4 i i1 (by omega))
/-- a pile on which a compare waits -/
def QTop (M : Mem) (pt : Nat) : Prop := (∀ i, i < pt → ∃ k, k < 40 ∧ M.1 134 i = nI k) ∧ ∃ ic k, ic < pt ∧ k < 40 ∧ M.1 134 ic = nI k ∧ rkN k = 4 ∧ ∀ i, ic < i → i < pt → ∃ k, k < 40 ∧ M.1 134 i = nI k ∧ 5 ≤ rkN k
theorem QTop.cmp (hN : 4000 ≤ N) (h : QTop M p) (h19 : M.1 129 19 = nI p) (hp : p ≤ 160) : f_m_isCompared N M = some 1 ∧ f_m_openNow N M = some (-1) := by
  obtain ⟨h1, ic, k, i1, i2, i3, i4, i5⟩ := h
  refine ⟨?_, now_no hN h19 hp h1⟩
  unfold f_m_isCompared
  obtain ⟨q, rfl⟩ : ∃ q, p = ic + 1 + q := ⟨p - (ic + 1), by omega⟩
  rw [show gi M 129 19 = nI (ic + 1 + q) from h19]
  exact cmp_1 i2 i3 i4 q N hp (by omega) i5
/-- tokens that aren't of sums -/
theorem bt_no {s : Nat} (tk : TkR M B n s) (hk : kd B n s < 38 ∨ 41 < kd B n s) : f_m_betweenOf N M = Option.bind (f_m_isAskHere N M) fun q1 => (if q1 = (0 : Int32) then some (-1 : Int32) else Option.bind (f_m_isCompared N M) fun q2 => (if q2 = (0 : Int32) then some (f_m_compareOf M) else (if (f_m_isWord (6385252 : Int64) M) = (0 : Int32) then (if (f_m_isWord (28530 : Int64) M) = (0 : Int32) then some (-1 : Int32) else some (22 : Int32)) else some (21 : Int32)))) := by
  unfold f_m_betweenOf
  rw [if_neg (show ¬ gi M 129 9 = (43 : Int32) from fun e => by have := (tk.sg (k := 38) (by omega) (by omega)).mp e; omega), if_neg (show ¬ gi M 129 9 = (45 : Int32) from fun e => by have := (tk.sg (k := 39) (by omega) (by omega)).mp e; omega), if_neg (show ¬ gi M 129 9 = (42 : Int32) from fun e => by have := (tk.sg (k := 40) (by omega) (by omega)).mp e; omega), if_neg (show ¬ gi M 129 9 = (47 : Int32) from fun e => by have := (tk.sg (k := 41) (by omega) (by omega)).mp e; omega)]
theorem cmp_of {s : Nat} (tk : TkR M B n s) : (∀ k, ((34 ≤ k ∧ k ≤ 37) ∨ k = 46 ∨ k = 47) → kd B n s = k → f_m_compareOf M = nI (cmo k)) ∧ (¬ ((34 ≤ kd B n s ∧ kd B n s ≤ 37) ∨ kd B n s = 46 ∨ kd B n s = 47) → f_m_compareOf M = -1) := by
  have s34 : (gi M 129 9 = (60 : Int32)) ↔ kd B n s = 34 := tk.sg (k := 34) (by omega) (by omega)
  have s46 : (gi M 129 9 = (4 : Int32)) ↔ kd B n s = 46 := tk.sg (k := 46) (by omega) (by omega)
  have s35 : (gi M 129 9 = (62 : Int32)) ↔ kd B n s = 35 := tk.sg (k := 35) (by omega) (by omega)
  have s47 : (gi M 129 9 = (5 : Int32)) ↔ kd B n s = 47 := tk.sg (k := 47) (by omega) (by omega)
  have s36 : (gi M 129 9 = (61 : Int32)) ↔ kd B n s = 36 := tk.sg (k := 36) (by omega) (by omega)
  have s37 : (gi M 129 9 = (35 : Int32)) ↔ kd B n s = 37 := tk.sg (k := 37) (by omega) (by omega)
  unfold f_m_compareOf
  simp only [s34, s46, s35, s47, s36, s37]
  refine ⟨fun k hk e => ?_, fun h => ?_⟩
  · rw [e]
    rcases (show k = 34 ∨ k = 35 ∨ k = 36 ∨ k = 37 ∨ k = 46 ∨ k = 47 by omega) with rfl | rfl | rfl | rfl | rfl | rfl <;> rfl
  · rw [if_neg (by omega), if_neg (by omega), if_neg (by omega), if_neg (by omega), if_neg (by omega), if_neg (by omega)]
/-- an operator is pushed -/
theorem push_go (hN : 4000 ≤ N) {o m w wa pa da : Nat} (ho : o < 40) (hb : f_m_betweenOf N M = some (nI o)) (hs : f_m_settle N (nI (rkN o)) M = some M') (hR : Rs B n u M j da pa g wa 1) (hR' : Rs B n u M' j d p g w 1) (hp : p < 160) : ∃ M2, f_m_parsed_25 N (m + 1) x M = f_m_parsed_25 N m x M2 ∧ Rs B n u M2 (j + 1) d (p + 1) g w 0 ∧ M2.1 134 p = nI o ∧ Kp u M' M2 p g w := by
  have R2 : Rs B n u (si (si (si M' 134 p (nI o)) 129 19 (nI (p + 1))) 129 22 0) j d (p + 1) g w 0 := by
    have R'' := hR'
    obtain ⟨a, b, c, d1, d2, d3, d4, d5⟩ := R''
    refine hR'.up ?_ rfl ?_ ?_ ?_ ?_ ?_ ?_
    · rw [si_1, if_neg (by decide), si_1, if_neg (by decide), si_1, if_neg (by decide)]
    · intro i hi
      rw [si_at, if_neg (by omega), si_at, if_neg (by omega), si_at, if_neg (by omega)]
    · rw [si_at, if_neg (by omega), si_at, if_neg (by omega), si_at, if_neg (by omega)]; exact d1
    · rw [si_at, if_neg (by omega), si_at, if_pos ⟨rfl, rfl⟩]
    · rw [si_at, if_neg (by omega), si_at, if_neg (by omega), si_at, if_neg (by omega)]; exact d3
    · rw [si_at, if_neg (by omega), si_at, if_neg (by omega), si_at, if_neg (by omega)]; exact d4
    · rw [si_at, if_pos ⟨rfl, rfl⟩]; rfl
  obtain ⟨M2, n1, n2, n3⟩ := R2.next hN
  have K3 : Kp u M' M2 p g w := (((Kp.pile p _ (Nat.le_refl _)).tr (Kp.f 19 _ (by omega)) (Nat.le_refl _) (Nat.le_refl _) (Nat.le_refl _)).tr (Kp.f 22 _ (by omega)) (Nat.le_refl _) (Nat.le_refl _) (Nat.le_refl _)).tr n3.kp (Nat.le_refl _) (Nat.le_refl _) (Nat.le_refl _)
  have t2 : M2.1 134 p = nI o := by rw [n3.1 _ _ (by omega), si_at, if_neg (by omega), si_at, if_neg (by omega), si_at, if_pos ⟨rfl, rfl⟩]
  refine ⟨M2, ?_, n2, t2, K3⟩
  rw [p25_1 hR.2.2.2.2.2.2.2]
  unfold f_m_behindOne
  rw [hb, Option.bind_some, if_neg (nI_pos (by omega)), rk_all o (by omega), hs, Option.bind_some, show gi M' 129 19 = nI p from hR'.2.2.2.2.1, if_pos (am_in_nI (by omega) (by decide)), nI_clamp (by omega), Option.bind_some, show gi (si M' 134 p (nI o)) 129 19 = nI p from hR'.2.2.2.2.1, nI_1, Option.bind_some, Option.bind_some, n1, Option.bind_some, Option.bind_some]
  exact p43_0 N _ x M2
/-- a whole behind which nothing fits, and no bracket is open -/
theorem end_go (hN : 4000 ≤ N) {m wa pa da : Nat} (hb : f_m_betweenOf N M = some (-1)) (ho : f_m_openNow N M = some (-1)) (hR : Rs B n u M j da pa g wa 1) : f_m_parsed_25 N (m + 1) x M = if x = 0 then Option.bind (f_m_settle N 1 M) (fun q9 => some (0, q9)) else Option.bind (f_m_isCompared N M) fun q10 => (if q10 = (0 : Int32) then some ((1 : Int32), M) else Option.bind (f_m_settle N (1 : Int32) M) fun q11 => some ((0 : Int32), q11)) := by
  rw [p25_1 hR.2.2.2.2.2.2.2]
  unfold f_m_behindOne f_m_behindOne_68 f_m_behindOne_102 f_m_behindOne_137
  rw [hb, Option.bind_some, if_pos (show (-1 : Int32) < 0 by decide), ho, Option.bind_some, if_neg (show ¬ (-1 : Int32) = 40 by decide), if_neg (show ¬ (-1 : Int32) = 43 by decide), if_neg (show ¬ (-1 : Int32) = 41 by decide), if_neg (show ¬ (-1 : Int32) = 42 by decide), if_pos (show (0 : Int32) = 0 from rfl), if_neg (show ¬ (-1 : Int32) = 42 by decide), Option.bind_some]
  unfold f_m_parsed_43
  rw [if_pos (show (-1 : Int32) ≤ 0 by decide), if_neg (show ¬ (-1 : Int32) = 0 by decide), ho, Option.bind_some, if_neg (show ¬ (0 : Int32) ≤ -1 by decide)]
end QSEE
