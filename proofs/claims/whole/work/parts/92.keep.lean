/-! A step is kept, on both sides. -/
theorem cur0 (A : Nat → Int32) {i : Nat} (h : i ≤ 4) : cur A i = A i := by unfold cur; rw [if_pos h]
theorem cur5 (A : Nat → Int32) : cur A 5 = A 8 := rfl
theorem cur6 (A : Nat → Int32) : cur A 6 = A 9 := rfl
theorem gi130 (M : Mem) (F : Nat → Int32) (i : Nat) : gi (sr M 130 F) 130 i = F i := by rw [gi_sr, if_pos rfl]
theorem si130 (M : Mem) (F : Nat → Int32) (i : Nat) (v : Int32) : si (sr M 130 F) 130 i v = sr M 130 (upd F i v) := si_of_sr M 130 i F v
/-- the first m cells of a step at x are written -/
def wst (B : Nat → Int32) (x m : Nat) : Nat → Int32 := fun j => if x ≤ j ∧ j < x + m then cur B (j - x) else B j
theorem wst_0 (B : Nat → Int32) (x : Nat) : wst B x 0 = B := by
  funext j
  unfold wst
  rw [if_neg (by omega)]
theorem wst_lo {B : Nat → Int32} {x m j : Nat} (h : j < x) : wst B x m j = B j := by
  unfold wst
  rw [if_neg (by omega)]
theorem wst_1 {B : Nat → Int32} {x m : Nat} {v : Int32} (hv : v = cur B m) : upd (wst B x m) (x + m) v = wst B x (m + 1) := by
  subst hv
  funext j
  rw [upd_get]
  unfold wst
  by_cases h : j = x + m
  · subst h
    rw [if_pos rfl, if_pos (by omega), show x + m - x = m by omega]
  · rw [if_neg h]
    by_cases q : x ≤ j ∧ j < x + m
    · rw [if_pos q, if_pos (by omega)]
    · rw [if_neg q, if_neg (by omega)]
section KEEP
variable {N : Nat} {M : Mem} {B : Nat → Int32} {x : Nat}
theorem k197 (hN : 4000 ≤ N) (hx : 126 ≤ x) (hx2 : x ≤ 2446) (hB : ∃ k, B 7 = nI k) : f_m_keep_197 N N (nI x) 0 (sr M 130 (wst B x 39)) = some (sr M 130 (upd (wst B x 79) 7 (B 7 + 1))) := by
  refine run_loop (fun n a i => f_m_keep_197 N n (nI x) i (sr M 130 a)) (fun i => wst B x (39 + i)) _ 40 (fun n => ?_) (fun n i hi => ?_) N 0 (by omega) (by omega)
  · show f_m_keep_197 N (n + 1) (nI x) (nI 40) (sr M 130 (wst B x 79)) = _
    rw [f_m_keep_197, if_pos (show (40 : Int32) ≤ nI 40 by decide), Option.bind_some, gi130, si130, wst_lo (by omega)]
  · show f_m_keep_197 N (n + 1) (nI x) (nI i) (sr M 130 (wst B x (39 + i))) = f_m_keep_197 N n (nI x) (nI (i + 1)) (sr M 130 (wst B x (39 + (i + 1))))
    have e1 : (68 : Int32) + nI i = nI (68 + i) := nI_add 68 i
    have e2 : nI x + (39 : Int32) + nI i = nI (x + (39 + i)) := by
      rw [show (39 : Int32) = nI 39 from rfl, nI_add, nI_add]
      congr 1
      omega
    rw [f_m_keep_197, if_neg (show ¬ (40 : Int32) ≤ nI i from nI_ge (b := 40) hi (by decide)), e1, e2, if_pos (am_in_nI (by omega) (by decide)), if_pos (am_in_nI (by omega) (by decide)), Option.bind_some, nI_clamp (by omega), nI_clamp (by omega), gi130, si130, wst_1 (by rw [wst_lo (by omega), cur_L]), nI_1]
    rfl
theorem k155 (K : Int32 → Int32 → Mem → Option Mem) {g : Nat} (hg : g < 8) (hN : 4000 ≤ N) (hx : 126 ≤ x) (hx2 : x ≤ 2446) : f_m_keep_155 N K N (nI x) (nI g) 0 (sr M 130 (wst B x (7 + 4 * g))) = K (nI x) (nI (g + 1)) (sr M 130 (wst B x (7 + 4 * (g + 1)))) := by
  refine run_loop (fun n a i => f_m_keep_155 N K n (nI x) (nI g) i (sr M 130 a)) (fun i => wst B x (7 + 4 * g + i)) _ 4 (fun n => ?_) (fun n i hi => ?_) N 0 (by omega) (by omega)
  · show f_m_keep_155 N K (n + 1) (nI x) (nI g) (nI 4) (sr M 130 (wst B x (7 + 4 * g + 4))) = _
    rw [f_m_keep_155, if_pos (show (4 : Int32) ≤ nI 4 by decide), nI_1, show 7 + 4 * g + 4 = 7 + 4 * (g + 1) by omega]
  · show f_m_keep_155 N K (n + 1) (nI x) (nI g) (nI i) (sr M 130 (wst B x (7 + 4 * g + i))) = f_m_keep_155 N K n (nI x) (nI g) (nI (i + 1)) (sr M 130 (wst B x (7 + 4 * g + (i + 1))))
    have e1 : (3 : Int32) + nI i = nI (3 + i) := nI_add 3 i
    have e2 : nI x + (7 : Int32) + (4 : Int32) * nI g + nI i = nI (x + (7 + 4 * g + i)) := by
      rw [show (7 : Int32) = nI 7 from rfl, show (4 : Int32) = nI 4 from rfl, nI_mul, nI_add, nI_add, nI_add]
      congr 1
      omega
    rw [f_m_keep_155, if_neg (show ¬ (4 : Int32) ≤ nI i from nI_ge (b := 4) hi (by decide)), e1, e2, r_get (by omega) (by omega), Option.bind_some, if_pos (am_in_nI (by omega) (by decide)), Option.bind_some, nI_clamp (by omega), show (sr M 130 (wst B x (7 + 4 * g + i))).1 130 (12 + 7 * g + (3 + i)) = wst B x (7 + 4 * g + i) (12 + 7 * g + (3 + i)) from gi130 M _ _, si130, wst_1 (by rw [wst_lo (by omega), cur_G B g i hg hi]; congr 1; omega), nI_1]
    rfl
theorem k147 (hN : 4000 ≤ N) (hx : 126 ≤ x) (hx2 : x ≤ 2446) (hB : ∃ k, B 7 = nI k) : f_m_keep_147 N N (nI x) 0 (sr M 130 (wst B x 7)) = some (sr M 130 (upd (wst B x 79) 7 (B 7 + 1))) := by
  refine run_loop (fun n a i => f_m_keep_147 N n (nI x) i (sr M 130 a)) (fun i => wst B x (7 + 4 * i)) _ 8 (fun n => ?_) (fun n i hi => ?_) N 0 (by omega) (by omega)
  · show f_m_keep_147 N (n + 1) (nI x) (nI 8) (sr M 130 (wst B x 39)) = _
    rw [f_m_keep_147, if_pos (show (8 : Int32) ≤ nI 8 by decide), k197 hN hx hx2 hB]
  · show f_m_keep_147 N (n + 1) (nI x) (nI i) (sr M 130 (wst B x (7 + 4 * i))) = f_m_keep_147 N n (nI x) (nI (i + 1)) (sr M 130 (wst B x (7 + 4 * (i + 1))))
    rw [f_m_keep_147, if_neg (show ¬ (8 : Int32) ≤ nI i from nI_ge (b := 8) hi (by decide)), k155 _ hi hN hx hx2]
theorem k85 (hN : 4000 ≤ N) (hx : 126 ≤ x) (hx2 : x ≤ 2446) (hB : ∃ k, B 7 = nI k) : f_m_keep_85 N N (nI x) 0 (sr M 130 (wst B x 1)) = some (sr M 130 (upd (wst B x 79) 7 (B 7 + 1))) := by
  refine run_loop (fun n a i => f_m_keep_85 N n (nI x) i (sr M 130 a)) (fun i => wst B x (1 + i)) _ 4 (fun n => ?_) (fun n i hi => ?_) N 0 (by omega) (by omega)
  · show f_m_keep_85 N (n + 1) (nI x) (nI 4) (sr M 130 (wst B x 5)) = _
    have e5 : nI x + (5 : Int32) = nI (x + 5) := nI_add x 5
    have e6 : nI x + (6 : Int32) = nI (x + 6) := nI_add x 6
    rw [f_m_keep_85, if_pos (show (4 : Int32) ≤ nI 4 by decide), e5, e6, if_pos (am_in_nI (by omega) (by decide)), Option.bind_some, nI_clamp (by omega), gi130, si130, wst_1 (by rw [wst_lo (by omega), cur5]), if_pos (am_in_nI (by omega) (by decide)), Option.bind_some, nI_clamp (by omega), gi130, si130, wst_1 (by rw [wst_lo (by omega), cur6]), k147 hN hx hx2 hB]
  · show f_m_keep_85 N (n + 1) (nI x) (nI i) (sr M 130 (wst B x (1 + i))) = f_m_keep_85 N n (nI x) (nI (i + 1)) (sr M 130 (wst B x (1 + (i + 1))))
    have e1 : (1 : Int32) + nI i = nI (1 + i) := nI_add 1 i
    have e2 : nI x + (1 : Int32) + nI i = nI (x + (1 + i)) := by
      rw [show (1 : Int32) = nI 1 from rfl, nI_add, nI_add]
      congr 1
      omega
    rw [f_m_keep_85, if_neg (show ¬ (4 : Int32) ≤ nI i from nI_ge (b := 4) hi (by decide)), e1, e2, if_pos (am_in_nI (by omega) (by decide)), if_pos (am_in_nI (by omega) (by decide)), Option.bind_some, nI_clamp (by omega), nI_clamp (by omega), gi130, si130, wst_1 (by rw [wst_lo (by omega), cur0 B (by omega)]), nI_1]
    rfl
theorem k57 {k : Nat} (hN : 4000 ≤ N) (hk : k ≤ 29) (hB : B 7 = nI k) : f_m_keep_57 N (sr M 130 B) = some (sr M 130 (upd (wst B (126 + 80 * k) 79) 7 (nI (k + 1)))) := by
  have ex : (126 : Int32) + (80 : Int32) * nI k = nI (126 + 80 * k) := by
    rw [show (80 : Int32) = nI 80 from rfl, show (126 : Int32) = nI 126 from rfl, nI_mul, nI_add]
  rw [f_m_keep_57, gi130, hB, ex, if_pos (am_in_nI (by omega) (by decide)), Option.bind_some, nI_clamp (by omega), gi130, si130]
  have := k85 (M := M) (N := N) (B := B) (x := 126 + 80 * k) hN (by omega) (by omega) ⟨k, hB⟩
  rw [hB, nI_1] at this
  rw [← this]
  congr 2
  have w0 := wst_1 (B := B) (x := 126 + 80 * k) (m := 0) (v := B 0) rfl
  rw [wst_0] at w0
  exact w0
/-- the steps move down by one -/
def shd (A : Nat → Int32) : Nat → Int32 := upd (fun j => if 126 ≤ j ∧ j < 2446 then A (j + 80) else A j) 7 (nI 29)
theorem k14 {A : Nat → Int32} (hN : 4000 ≤ N) (hA : A 7 = nI 30) : f_m_keep_14 N N 0 (sr M 130 A) = f_m_keep_57 N (sr M 130 (shd A)) := by
  have e0 : A = fun j => if 126 ≤ j ∧ j < 126 + 0 then A (j + 80) else A j := by
    funext j
    rw [if_neg (by omega)]
  have := run_loop (fun n a i => f_m_keep_14 N n i (sr M 130 a)) (fun i => fun j => if 126 ≤ j ∧ j < 126 + i then A (j + 80) else A j) (f_m_keep_57 N (sr M 130 (shd A))) 2320 (fun n => ?_) (fun n i hi => ?_) N 0 (by omega) (by omega)
  · show f_m_keep_14 N N (nI 0) (sr M 130 A) = _
    rw [← this]
    show _ = f_m_keep_14 N N (nI 0) (sr M 130 _)
    rw [← e0]
  · show f_m_keep_14 N (n + 1) (nI 2320) (sr M 130 _) = _
    rw [f_m_keep_14, if_pos (show (2320 : Int32) ≤ nI 2320 by decide), Option.bind_some, gi130, si130]
    show f_m_keep_57 N (sr M 130 (upd _ 7 ((if 126 ≤ 7 ∧ 7 < 126 + 2320 then A (7 + 80) else A 7) - 1))) = _
    rw [if_neg (by omega), hA]
    rfl
  · show f_m_keep_14 N (n + 1) (nI i) (sr M 130 _) = f_m_keep_14 N n (nI (i + 1)) (sr M 130 _)
    have e1 : (206 : Int32) + nI i = nI (206 + i) := nI_add 206 i
    have e2 : (126 : Int32) + nI i = nI (126 + i) := nI_add 126 i
    rw [f_m_keep_14, if_neg (show ¬ (2320 : Int32) ≤ nI i from nI_ge (b := 2320) hi (by decide)), e1, e2, if_pos (am_in_nI (by omega) (by decide)), if_pos (am_in_nI (by omega) (by decide)), Option.bind_some, nI_clamp (by omega), nI_clamp (by omega), gi130, si130, nI_1]
    congr 2
    funext j
    rw [upd_get]
    by_cases h : j = 126 + i
    · subst h
      rw [if_pos rfl, if_neg (by omega), if_pos (by omega)]
      congr 1
      omega
    · rw [if_neg h]
      by_cases q : 126 ≤ j ∧ j < 126 + i
      · rw [if_pos q, if_pos (by omega)]
      · rw [if_neg q, if_neg (by omega)]
def kp (A : Nat → Int32) (k : Nat) : Nat → Int32 := if k = 30 then upd (wst (shd A) 2446 79) 7 (nI 30) else upd (wst A (126 + 80 * k) 79) 7 (nI (k + 1))
theorem r_keep {k : Nat} (hN : 4000 ≤ N) (hk : k ≤ 30) (hA : M.1 130 7 = nI k) : f_m_keep N M = some (sr M 130 (kp (M.1 130) k)) := by
  have em : M = sr M 130 (M.1 130) := (sr_self M 130).symm
  unfold f_m_keep kp
  rw [show gi M 130 7 = nI k from hA]
  by_cases h : k = 30
  · subst h
    rw [if_pos (show nI 30 = (30 : Int32) from rfl), if_pos rfl]
    have := k14 (M := M) (N := N) (A := M.1 130) hN hA
    rw [← em] at this
    rw [this, k57 (k := 29) hN (by omega) rfl]
  · rw [if_neg (show ¬ nI k = (30 : Int32) from fun q => h ((nI_eq (b := 30) (by omega) (by decide)).mp q)), if_neg h]
    have := k57 (M := M) (N := N) (B := M.1 130) (k := k) hN (by omega) hA
    rw [← em] at this
    exact this
theorem kp_lo {A : Nat → Int32} {k j : Nat} (h : j < 126) (h7 : j ≠ 7) : kp A k j = A j := by
  unfold kp
  split
  · rw [upd_get, if_neg h7, wst_lo (by omega)]
    unfold shd
    rw [upd_get, if_neg h7, if_neg (by omega)]
  · rw [upd_get, if_neg h7, wst_lo (by omega)]
theorem kp_7 {A : Nat → Int32} {k : Nat} (hk : k ≤ 30) : kp A k 7 = nI (min (k + 1) 30) := by
  unfold kp
  split
  · rename_i h
    subst h
    rfl
  · rw [upd_get, if_pos rfl]
    congr 1
    omega
theorem kp_hi {A : Nat → Int32} {k j : Nat} (hk : k ≤ 30) (h : 2526 ≤ j) : kp A k j = A j := by
  unfold kp
  split
  · rw [upd_get, if_neg (by omega)]
    unfold wst shd
    rw [if_neg (by omega), upd_get, if_neg (by omega), if_neg (by omega)]
  · rw [upd_get, if_neg (by omega)]
    unfold wst
    rw [if_neg (by omega)]
theorem cur_shd (A : Nat → Int32) {i : Nat} (h : i < 79) : cur (shd A) i = cur A i := by
  have : ∀ j, j < 126 → j ≠ 7 → shd A j = A j := by
    intro j h1 h2
    unfold shd
    rw [upd_get, if_neg h2, if_neg (by omega)]
  unfold cur
  split
  · exact this _ (by omega) (by omega)
  · split
    · exact this _ (by omega) (by omega)
    · split
      · exact this _ (by omega) (by omega)
      · split
        · exact this _ (by omega) (by omega)
        · exact this _ (by omega) (by omega)
/-- the new step holds the evening -/
theorem kp_new {A : Nat → Int32} {k i : Nat} (hk : k ≤ 30) (hi : i < 79) : stp (kp A k) (min k 29) i = cur A i := by
  unfold stp kp
  by_cases h : k = 30
  · subst h
    rw [if_pos rfl, upd_get, if_neg (by omega)]
    unfold wst
    rw [if_pos (by omega), ← cur_shd A hi, show 126 + 80 * min 30 29 + i - 2446 = i by omega]
  · rw [if_neg h, upd_get, if_neg (by omega)]
    unfold wst
    rw [if_pos (by omega), show 126 + 80 * min k 29 + i - (126 + 80 * k) = i by omega]
/-- the others are as they were -/
theorem kp_old {A : Nat → Int32} {k i j : Nat} (hk : k ≤ 30) (hj : j < min k 29) (hi : i < 80) : stp (kp A k) j i = stp A (if k = 30 then j + 1 else j) i := by
  unfold stp kp
  by_cases h : k = 30
  · subst h
    rw [if_pos rfl, if_pos rfl, upd_get, if_neg (by omega), wst_lo (by omega)]
    unfold shd
    rw [upd_get, if_neg (by omega), if_pos (by omega)]
    congr 1
    omega
  · rw [if_neg h, if_neg h, upd_get, if_neg (by omega), wst_lo (by omega)]
end KEEP
/-- the class's side -/
def ck (M : Mem) (n k : Nat) : Mem := sr (sr M (16 + n) (va_cpy (M.1 12) (M.1 (16 + n)) 0 0 66)) 14 (upd (upd (M.1 14) 1 (nI ((n + 1) % 30))) 2 (nI (min (k + 1) 30)))
theorem fm_all : ∀ n, n < 31 → f_k_floorMod (nI n) 30 M0 = some (nI (n % 30)) := by decide +kernel
theorem fm30 {n : Nat} (h : n < 31) (M : Mem) : f_k_floorMod (nI n) 30 M = some (nI (n % 30)) := fm_all n h
theorem s_keep {M : Mem} {n k : Nat} (hn : n < 30) (hk : k ≤ 30) (h1 : M.1 14 1 = nI n) (h2 : M.1 14 2 = nI k) : f_t_keepStep M = some (ck M n k) := by
  have er : f_s_row M n = sr M (16 + n) (va_cpy (M.1 12) (M.1 (16 + n)) 0 0 66) := rfl
  have e14 : (f_s_row M n).1 14 = M.1 14 := by rw [er, sr_1, if_neg (by omega)]
  have em : f_k_min0 (nI (k + 1)) 30 M0 = nI (min (k + 1) 30) := by
    have : ∀ k, k < 31 → f_k_min0 (nI (k + 1)) 30 M0 = nI (min (k + 1) 30) := by decide +kernel
    exact this k (by omega)
  unfold f_t_keepStep f_s_keep
  rw [show gi M 14 1 = nI n from h1, fm30 (by omega), Option.bind_some, show n % 30 = n from Nat.mod_eq_of_lt hn, if_pos (am_in_nI hn (by decide)), nI_clamp (by omega), show gi (f_s_row M n) 14 1 = nI n from by show (f_s_row M n).1 14 1 = _; rw [e14, h1], nI_1, fm30 (by omega), Option.bind_some, Option.bind_some]
  have e2 : gi (si (f_s_row M n) 14 1 (nI ((n + 1) % 30))) 14 2 = nI k := by
    rw [gi_si, if_pos rfl, if_neg (by decide)]
    show (f_s_row M n).1 14 2 = _
    rw [e14, h2]
  rw [e2, nI_1]
  show some (si (si (f_s_row M n) 14 1 _) 14 2 (f_k_min0 (nI (k + 1)) 30 M0)) = _
  rw [em, si_sr (f_s_row M n), si_of_sr, e14, er]
  rfl
section CK
variable {M : Mem} {n k : Nat}
theorem ck_k {q : Nat} (h1 : q ≠ 14) (h2 : q ≠ 16 + n) : (ck M n k).1 q = M.1 q := by
  unfold ck
  rw [sr_1, if_neg h1, sr_1, if_neg h2]
theorem ck_14a : (ck M n k).1 14 1 = nI ((n + 1) % 30) := rfl
theorem ck_14b : (ck M n k).1 14 2 = nI (min (k + 1) 30) := rfl
theorem ck_row (hn : n < 30) {i : Nat} (hi : i < 66) : (ck M n k).1 (16 + n) i = M.1 12 i := by
  unfold ck
  rw [sr_1, if_neg (by omega), sr_1, if_pos rfl, pk_cpy_in (by omega) (by omega), show 0 + (i - 0) = i by omega]
end CK
/-- table and steps behind a keep -/
theorem Tab.keep {M Mr : Mem} {c t : Nat} (h : Tab M.1 0 (Mr.1 130) c t) : ∃ n k, n < 30 ∧ k ≤ 30 ∧ M.1 14 1 = nI n ∧ M.1 14 2 = nI k ∧ Mr.1 130 7 = nI k ∧ Tab (ck M n k).1 0 (kp (Mr.1 130) k) c t := by
  obtain ⟨h1, h2, h3, h4, h5⟩ := h
  obtain ⟨k, n, hk, hn, a1, a2, a3, a4, a5, a6⟩ := h4
  have a1' : M.1 14 2 = nI k := a1
  have a3' : M.1 14 1 = nI n := a3
  refine ⟨n, k, hn, hk, a3', a1', a2, ?_⟩
  have hv : (Mr.1 130 1).toNatClampNeg < 1000 := by
    obtain ⟨nt, m', d, gn, sp, lm, lw, lk, lf, bh, bd, hN, -⟩ := h3
    have e : Mr.1 130 1 = nI nt := hN.2.1.2.1
    rw [e, nI_clamp (by have := hN.2.1.2.2; omega)]
    have := hN.2.1.2.2
    omega
  have lo : ∀ j, j < 126 → j ≠ 7 → kp (Mr.1 130) k j = Mr.1 130 j := fun j => kp_lo
  have hcur : ∀ i, i < 79 → cur (kp (Mr.1 130) k) i = cur (Mr.1 130) i := by
    intro i hi
    unfold cur
    split
    · exact lo _ (by omega) (by omega)
    · split
      · exact lo _ (by omega) (by omega)
      · split
        · exact lo _ (by omega) (by omega)
        · split
          · exact lo _ (by omega) (by omega)
          · exact lo _ (by omega) (by omega)
  have hbk : ∀ i, bk (kp (Mr.1 130) k) i = bk (Mr.1 130) i := fun i => kp_hi hk (by omega)
  have hst1 : ∀ j, j < k → (stp (Mr.1 130) j 1).toNatClampNeg < 1000 := fun j hj => by
    have := a6 j hj
    omega
  have row : ∀ q, q ≠ 14 → q ≠ 16 + n → (ck M n k).1 (q + 0) = M.1 (q + 0) := fun q h1 h2 => ck_k (by omega) (by omega)
  refine ⟨?_, ?_, ?_, ?_, ?_⟩
  · rw [row 7 (by omega) (by omega), row 8 (by omega) (by omega), row 9 (by omega) (by omega), row 10 (by omega) (by omega)]
    obtain ⟨p1, p2, p3, p4⟩ := h1
    refine ⟨p1, p2, by rw [lo 0 (by omega) (by omega)]; exact p3, fun g hg => ?_⟩
    rw [lo _ (by omega) (by omega), lo _ (by omega) (by omega), lo _ (by omega) (by omega)]
    exact p4 g hg
  · rw [row 6 (by omega) (by omega)]
    obtain ⟨t1, t2, t3, t4, t5⟩ := h2
    exact ⟨t1, t2, by rw [lo 5 (by omega) (by omega)]; exact t3, by rw [lo 6 (by omega) (by omega)]; exact t4, t5⟩
  · rw [row 12 (by omega) (by omega)]
    exact h3.cong (fun _ _ => rfl) hcur (fun i _ => hbk i)
  · refine ⟨min (k + 1) 30, (n + 1) % 30, by omega, by omega, ck_14b, kp_7 hk, ck_14a, fun j hj => ?_, fun i j hi hj => ?_, fun j hj => ?_⟩
    · by_cases hl : j = min k 29
      · subst hl
        have e : ((n + 1) % 30 + 30 - min (k + 1) 30 + min k 29) % 30 = n := by omega
        refine ⟨c, Nat.le_refl _, ?_⟩
        show Ev ((ck M n k).1 (16 + 0 + ((n + 1) % 30 + 30 - min (k + 1) 30 + min k 29) % 30)) _ _ _
        rw [e]
        exact h3.cong (fun i hi => ck_row hn hi) (fun i hi => kp_new hk hi) (fun i _ => hbk i)
      · have hj2 : j < min k 29 := by omega
        obtain ⟨cj, b1, b2⟩ := a4 (if k = 30 then j + 1 else j) (by split <;> omega)
        refine ⟨cj, b1, ?_⟩
        have e : (n + 30 - k + (if k = 30 then j + 1 else j)) % 30 = ((n + 1) % 30 + 30 - min (k + 1) 30 + j) % 30 := by split <;> omega
        have ne : ((n + 1) % 30 + 30 - min (k + 1) 30 + j) % 30 ≠ n := by omega
        rw [e] at b2
        show Ev ((ck M n k).1 (16 + 0 + ((n + 1) % 30 + 30 - min (k + 1) 30 + j) % 30)) _ _ _
        rw [ck_k (by omega) (by omega)]
        exact b2.cong (fun _ _ => rfl) (fun i hi => kp_old hk hj2 (by omega)) (fun i _ => hbk i)
    · have q : ∀ j, j < min (k + 1) 30 → (stp (kp (Mr.1 130) k) j 1).toNatClampNeg = if j = min k 29 then (Mr.1 130 1).toNatClampNeg else (stp (Mr.1 130) (if k = 30 then j + 1 else j) 1).toNatClampNeg := by
        intro j hj
        by_cases hl : j = min k 29
        · rw [if_pos hl, hl, kp_new hk (by omega)]
          rfl
        · rw [if_neg hl, kp_old hk (by omega) (by omega)]
      rw [q i (by omega), q j hj]
      by_cases h1 : j = min k 29
      · rw [if_pos h1]
        by_cases h2 : i = min k 29
        · rw [if_pos h2]
          exact Nat.le_refl _
        · rw [if_neg h2]
          exact a6 _ (by split <;> omega)
      · rw [if_neg h1, if_neg (by omega)]
        exact a5 _ _ (by split <;> omega) (by split <;> omega)
    · rw [lo 1 (by omega) (by omega)]
      by_cases hl : j = min k 29
      · rw [hl, kp_new hk (by omega)]
        exact Nat.le_refl _
      · rw [kp_old hk (by omega) (by omega)]
        exact a6 _ (by split <;> omega)
  · have e : ∀ q, 48 ≤ q → (ck M n k).1 (q + 0) = M.1 (q + 0) := fun q hq => row q (by omega) (by omega)
    rw [e 48 (by omega), e 49 (by omega), e 50 (by omega)]
    intro u hu
    rw [lo _ (by omega) (by omega), lo _ (by omega) (by omega), lo _ (by omega) (by omega)]
    exact h5 u hu
