/-! Numbers. -/
theorem nI_mul (a b : Nat) : nI a * nI b = nI (a * b) := (Int32.ofNat_mul a b).symm
theorem nI_sub {a b : Nat} (h : b ≤ a) : nI a - nI b = nI (a - b) := by
  have e : nI a = nI (a - b) + nI b := by rw [nI_add]; congr 1; omega
  rw [e, Int32.add_sub_cancel]
theorem nI_lit (n : Nat) : (OfNat.ofNat n : Int32) = nI n := rfl
theorem nI_inj {a b : Nat} (ha : a < 2 ^ 31) (hb : b < 2 ^ 31) (h : nI a = nI b) : a = b := (nI_eq ha hb).mp h
theorem m1_lt (n : Nat) (h : n < 2 ^ 31) : (-1 : Int32) < nI n := by
  rw [Int32.lt_iff_toInt_lt, nI_toInt h]
  have : (-1 : Int32).toInt = -1 := by decide
  omega
theorem nI_ne_m1 {n : Nat} (h : n < 2 ^ 31) : nI n ≠ -1 := by
  intro e
  have := congrArg Int32.toInt e
  rw [nI_toInt h] at this
  have s : (-1 : Int32).toInt = -1 := by decide
  omega
/-- memory -/
theorem gi_si (M : Mem) (k i : Nat) (v : Int32) (k' i' : Nat) : gi (si M k i v) k' i' = if k' = k then (if i' = i then v else gi M k' i') else gi M k' i' := by
  unfold gi si
  by_cases h : k' = k
  · subst h
    simp only [if_true]
    unfold upd
    rfl
  · simp only [h, if_false]
theorem si_1 (M : Mem) (k i : Nat) (v : Int32) (k' : Nat) : (si M k i v).1 k' = if k' = k then upd (M.1 k) i v else M.1 k' := by
  unfold si
  by_cases h : k' = k
  · subst h; simp only [if_true]
  · simp only [h, if_false]
theorem si_2 (M : Mem) (k i : Nat) (v : Int32) : (si M k i v).2 = M.2 := rfl
theorem sr_1 (M : Mem) (k : Nat) (f : Nat → Int32) (k' : Nat) : (sr M k f).1 k' = if k' = k then f else M.1 k' := rfl
theorem sr_2 (M : Mem) (k : Nat) (f : Nat → Int32) : (sr M k f).2 = M.2 := rfl
theorem gi_sr (M : Mem) (k : Nat) (f : Nat → Int32) (k' i' : Nat) : gi (sr M k f) k' i' = if k' = k then f i' else gi M k' i' := by
  show (sr M k f).1 k' i' = _
  rw [sr_1]
  by_cases h : k' = k
  · simp only [h, if_true]
  · simp only [h, if_false]; rfl
theorem si_sr (M : Mem) (k i : Nat) (v : Int32) : si M k i v = sr M k (upd (M.1 k) i v) := by
  unfold si sr
  congr 1
  funext q
  by_cases h : q = k
  · subst h; simp only [if_true]
  · simp only [h, if_false]
theorem sr_sr (M : Mem) (k : Nat) (f g : Nat → Int32) : sr (sr M k f) k g = sr M k g := by
  unfold sr
  congr 1
  funext q
  by_cases h : q = k
  · simp only [h, if_true]
  · simp only [h, if_false]
theorem si_of_sr (M : Mem) (k i : Nat) (f : Nat → Int32) (v : Int32) : si (sr M k f) k i v = sr M k (upd f i v) := by
  rw [si_sr, sr_sr, sr_1, if_pos rfl]
theorem upd_get (f : Nat → Int32) (i : Nat) (v : Int32) (j : Nat) : upd f i v j = if j = i then v else f j := rfl
theorem sr_self (M : Mem) (k : Nat) : sr M k (M.1 k) = M := by
  unfold sr
  refine Prod.ext ?_ rfl
  funext q
  show (if q = k then M.1 k else M.1 q) = M.1 q
  by_cases h : q = k
  · subst h; simp only [if_true]
  · simp only [h, if_false]
theorem sr_comm (M : Mem) {k l : Nat} (h : k ≠ l) (f g : Nat → Int32) : sr (sr M k f) l g = sr (sr M l g) k f := by
  unfold sr
  refine Prod.ext ?_ rfl
  funext q
  show (if q = l then g else if q = k then f else M.1 q) = (if q = k then f else if q = l then g else M.1 q)
  by_cases h1 : q = k
  · rw [if_pos h1, if_neg (by omega), if_pos h1]
  · rw [if_neg h1, if_neg h1]
/-- copying a whole array -/
theorem m_copy_go (N s d : Nat) (f : Nat → Int32 → Mem → Option Mem) (hf0 : ∀ n x M, f (n + 1) x M = (if (3826 : Int32) ≤ x then some M else (if am_in x 3826 = true then (if am_in x 3826 = true then Option.bind (some (si M d (x).toNatClampNeg (gi M s (x).toNatClampNeg))) fun q1 => f n (x + (1 : Int32)) q1 else none) else none))) (hsd : s ≠ d) :
    ∀ (n i : Nat) (M : Mem), i ≤ 3826 → 3826 < i + n → f n (nI i) M = some (sr M d (fun j => if i ≤ j ∧ j < 3826 then M.1 s j else M.1 d j)) := by
  intro n
  induction n with
  | zero => intro i M h1 h2; omega
  | succ n ih =>
    intro i M h1 h2
    rw [hf0]
    by_cases hc : 3826 ≤ i
    · have e : i = 3826 := by omega
      subst e
      rw [if_pos (by decide)]
      congr 1
      have : (fun j => if 3826 ≤ j ∧ j < 3826 then M.1 s j else M.1 d j) = M.1 d := by
        funext j
        rw [if_neg (by omega)]
      rw [this, sr_self]
    · have hlt : ¬ (3826 : Int32) ≤ nI i := nI_ge (a := i) (b := 3826) (by omega) (by decide)
      have hin : am_in (nI i) 3826 = true := am_in_nI (by omega) (by decide)
      rw [if_neg hlt, if_pos hin, if_pos hin, Option.bind_some, nI_1, ih (i + 1) _ (by omega) (by omega), nI_clamp (by omega)]
      congr 1
      rw [si_sr, sr_sr]
      congr 1
      funext j
      rw [sr_1, sr_1, if_neg hsd, if_pos rfl, upd_get]
      show (if i + 1 ≤ j ∧ j < 3826 then M.1 s j else if j = i then M.1 s i else M.1 d j) = _
      by_cases a1 : j = i
      · subst a1
        rw [if_neg (by omega), if_pos rfl, if_pos (by omega)]
      · rw [if_neg a1]
        by_cases a2 : i ≤ j ∧ j < 3826
        · rw [if_pos (by omega), if_pos a2]
        · rw [if_neg (by omega), if_neg a2]
theorem m_copy_a (N : Nat) (hN : 3826 < N) (M : Mem) : f_m_copy_130_131 N M = some (sr M 131 (fun j => if j < 3826 then M.1 130 j else M.1 131 j)) := by
  rw [f_m_copy_130_131]
  have := m_copy_go N 130 131 (f_m_copy_130_131_2 N) (fun n x M => rfl) (by decide) N 0 M (by omega) (by omega)
  simp only [Nat.zero_le, true_and] at this
  exact this
theorem m_copy_b (N : Nat) (hN : 3826 < N) (M : Mem) : f_m_copy_131_130 N M = some (sr M 130 (fun j => if j < 3826 then M.1 131 j else M.1 130 j)) := by
  rw [f_m_copy_131_130]
  have := m_copy_go N 131 130 (f_m_copy_131_130_2 N) (fun n x M => rfl) (by decide) N 0 M (by omega) (by omega)
  simp only [Nat.zero_le, true_and] at this
  exact this
