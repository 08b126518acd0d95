/-! Small tools: literals, bits, what the two sides ask of the evening. -/
theorem nI_inI {i n : Nat} (hi : i < 2 ^ 31) : (am_in (nI i) n = true) ↔ i < n := by
  unfold am_in
  rw [nI_clamp hi]
  have h0 : ¬ nI i < 0 := nI_pos hi
  simp only [h0, decide_false, Bool.not_false, Bool.true_and, Nat.ble_eq]
  omega
def M0 : Mem := (fun _ _ => 0, fun _ _ => 0)
/-- bits of small sets -/
theorem tb_all : ∀ s, s < 256 → ∀ g, g < 8 → (nI s >>> (nI g &&& 31)) &&& 1 = (if s.testBit g then 1 else 0) := by decide +kernel
theorem tb {s g : Nat} (hs : s < 256) (hg : g < 8) : (nI s >>> (nI g &&& 31)) &&& 1 = (if s.testBit g then 1 else 0) := tb_all s hs g hg
theorem tbm_all : ∀ s, s < 256 → ∀ g, g < 8 → ((nI s &&& nI (2 ^ g) = 0) ↔ s.testBit g = false) := by decide +kernel
theorem tbm {s g : Nat} (hs : s < 256) (hg : g < 8) : (nI s &&& nI (2 ^ g) = 0) ↔ s.testBit g = false := tbm_all s hs g hg
def th (c gn : Nat) : Nat := (2 ^ c - 1) ^^^ gn
theorem th_all : ∀ c, c < 9 → ∀ g, g < 2 ^ c → (nI (2 ^ c) - 1) &&& (nI g ^^^ -1) = nI (th c g) := by decide +kernel
theorem th_lt {c gn : Nat} (h : gn < 2 ^ c) : th c gn < 2 ^ c := Nat.xor_lt_two_pow (by have := Nat.two_pow_pos c; omega) h
theorem th_tb {c gn g : Nat} : (th c gn).testBit g = (decide (g < c) ^^ gn.testBit g) := by
  unfold th
  rw [Nat.testBit_xor, Nat.testBit_two_pow_sub_one]
theorem lt_tb {s c g : Nat} (h : s < 2 ^ c) (hg : c ≤ g) : s.testBit g = false := Nat.testBit_lt_two_pow (Nat.lt_of_lt_of_le h (Nat.pow_le_pow_right (by decide) hg))
theorem p2_le {c : Nat} (h : c ≤ 8) : 2 ^ c ≤ 256 := Nat.pow_le_pow_right (show 0 < 2 by decide) h
def pc (s : Nat) : Nat := ct (fun k => s.testBit k) 8
theorem pc_all : ∀ s, s < 256 → f_k_bitCount (nI s) M0 = nI (pc s) := by decide +kernel
theorem c_pc {s : Nat} (hs : s < 256) (M : Mem) : f_k_bitCount (nI s) M = nI (pc s) := pc_all s hs
theorem ct_le (p : Nat → Bool) : ∀ n, ct p n ≤ n
  | 0 => Nat.le_refl _
  | n + 1 => by
    have := ct_le p n
    show ct p n + _ ≤ _
    split <;> omega
theorem ct_congr {p q : Nat → Bool} : ∀ {n : Nat}, (∀ i, i < n → p i = q i) → ct p n = ct q n
  | 0, _ => rfl
  | n + 1, h => by
    show ct p n + _ = ct q n + _
    rw [ct_congr (n := n) (fun i hi => h i (by omega)), h n (by omega)]
theorem ct_false {p : Nat → Bool} : ∀ {n : Nat}, (∀ i, i < n → p i = false) → ct p n = 0
  | 0, _ => rfl
  | n + 1, h => by
    show ct p n + _ = 0
    rw [ct_false (n := n) (fun i hi => h i (by omega)), h n (by omega)]
    rfl
theorem pc_le (s : Nat) : pc s ≤ 8 := ct_le _ 8
theorem r_pc {s N : Nat} (hs : s < 256) (hN : 4000 ≤ N) (M : Mem) : f_m_bits N (nI s) M = some (nI (pc s)) := by
  rw [f_m_bits]
  refine run_loop (fun n a i => f_m_bits_4 N n (nI s) a i M) (fun i => nI (ct (fun k => s.testBit k) i)) _ 8 (fun n => ?_) (fun n i hi => ?_) N 0 (by omega) (by omega)
  · show f_m_bits_4 N (n + 1) _ _ (nI 8) M = _
    rw [f_m_bits_4, if_pos (show (8 : Int32) ≤ nI 8 by decide)]
    rfl
  · show f_m_bits_4 N (n + 1) _ _ (nI i) M = f_m_bits_4 N n _ (nI (ct (fun k => s.testBit k) i + if s.testBit i = true then 1 else 0)) _ M
    rw [f_m_bits_4, if_neg (show ¬ (8 : Int32) ≤ nI i from nI_ge (b := 8) hi (by decide)), tb hs hi, nI_1]
    by_cases h : s.testBit i = true
    · rw [if_pos h, if_pos h, nI_1]
    · rw [if_neg h, if_neg h, Nat.add_zero, show (0 : Int32) = nI 0 from rfl, nI_add] <;> rfl
theorem has_eq {s g : Nat} (hs : s < 256) (hg : g < 8) (M : Mem) : f_m_has (nI s) (nI g) M = if s.testBit g then 1 else 0 := by
  unfold f_m_has
  rw [tb hs hg]
  by_cases h : s.testBit g = true
  · simp only [h, if_true]
  · simp only [h]
    rfl
section CX2
variable {M Mr Mc : Mem} {c nt mo dr gn sp : Nat} {lm lw lk lf bh bd : Nat → Nat}
theorem Cx.nsp (h : Cx M Mr c nt mo dr gn sp lm lw lk lf bh bd) {i : Nat} (hi : i < sp) : ¬ f_e_spoken M ≤ nI i := by
  rw [show f_e_spoken M = nI sp from h.sp12]
  exact nI_ge hi (by have := h.sp40; omega)
theorem Cx.esp (h : Cx M Mr c nt mo dr gn sp lm lw lk lf bh bd) : f_e_spoken M ≤ nI sp := by
  rw [show f_e_spoken M = nI sp from h.sp12]
  exact nI_le (Nat.le_refl _) (by have := h.sp40; omega)
theorem Cx.rnsp (h : Cx Mc M c nt mo dr gn sp lm lw lk lf bh bd) {i : Nat} (hi : i < sp) : ¬ gi M 130 8 ≤ nI i := by
  rw [show gi M 130 8 = nI sp from h.sp130]
  exact nI_ge hi (by have := h.sp40; omega)
theorem Cx.resp (h : Cx Mc M c nt mo dr gn sp lm lw lk lf bh bd) : gi M 130 8 ≤ nI sp := by
  rw [show gi M 130 8 = nI sp from h.sp130]
  exact nI_le (Nat.le_refl _) (by have := h.sp40; omega)
theorem Cx.ncn (h : Cx M Mr c nt mo dr gn sp lm lw lk lf bh bd) {i : Nat} (hi : i < c) : ¬ gi M 7 3 ≤ nI i := by
  rw [show gi M 7 3 = nI c from h.c7]
  exact nI_ge hi (by have := h.c8; omega)
theorem Cx.ecn (h : Cx M Mr c nt mo dr gn sp lm lw lk lf bh bd) : gi M 7 3 ≤ nI c := by
  rw [show gi M 7 3 = nI c from h.c7]
  exact nI_le (Nat.le_refl _) (by have := h.c8; omega)
theorem Cx.rncn (h : Cx Mc M c nt mo dr gn sp lm lw lk lf bh bd) {i : Nat} (hi : i < c) : ¬ gi M 130 0 ≤ nI i := by
  rw [show gi M 130 0 = nI c from h.c130]
  exact nI_ge hi (by have := h.c8; omega)
theorem Cx.recn (h : Cx Mc M c nt mo dr gn sp lm lw lk lf bh bd) : gi M 130 0 ≤ nI c := by
  rw [show gi M 130 0 = nI c from h.c130]
  exact nI_le (Nat.le_refl _) (by have := h.c8; omega)
/-- counts -/
theorem Cx.count (h : Cx M Mr c nt mo dr gn sp lm lw lk lf bh bd) {N : Nat} (hN : 4000 ≤ N) {g k : Nat} (hg : g < 100) (hk : k < 100) : f_e_countOf N (nI g) (nI k) M = some (nI (ct (fun i => decide (lw i = g) && decide (lk i = k)) sp)) := by
  have hs := h.sp40
  rw [f_e_countOf]
  refine run_loop (fun n a i => f_e_countOf_5 N n (nI g) (nI k) a i M) (fun i => nI (ct (fun i => decide (lw i = g) && decide (lk i = k)) i)) _ sp (fun n => ?_) (fun n i hi => ?_) N 0 (by omega) (by omega)
  · show f_e_countOf_5 N (n + 1) _ _ _ _ M = _
    rw [f_e_countOf_5, if_pos h.esp]
  · obtain ⟨q1, q2, q3, q4⟩ := h.L.lt h.c8 hi
    show f_e_countOf_5 N (n + 1) _ _ _ _ M = f_e_countOf_5 N n _ _ (nI (ct (fun i => decide (lw i = g) && decide (lk i = k)) i + if (decide (lw i = g) && decide (lk i = k)) = true then 1 else 0)) _ M
    rw [f_e_countOf_5, if_neg (h.nsp hi), e_entry M (by omega), Option.bind_some, e_who h.L h.c8 hi, e_kind h.L h.c8 hi, nI_1, nI_1]
    by_cases a : lw i = g
    · rw [if_pos ((nI_eq (by omega) (by omega)).mpr a)]
      by_cases b : lk i = k
      · rw [if_pos ((nI_eq (by omega) (by omega)).mpr b), if_pos (by simp [a, b])]
      · rw [if_neg (fun q => b ((nI_eq (by omega) (by omega)).mp q)), if_neg (by simp [b])] <;> rfl
    · rw [if_neg (fun q => a ((nI_eq (by omega) (by omega)).mp q)), if_neg (by simp [a])] <;> rfl
theorem Cx.cwine (h : Cx M Mr c nt mo dr gn sp lm lw lk lf bh bd) {N : Nat} (hN : 4000 ≤ N) : f_e_wine N M = some (nI (ct (fun i => decide (lk i = 2)) sp)) := by
  have hs := h.sp40
  rw [f_e_wine]
  refine run_loop (fun n a i => f_e_wine_4 N n a i M) (fun i => nI (ct (fun i => decide (lk i = 2)) i)) _ sp (fun n => ?_) (fun n i hi => ?_) N 0 (by omega) (by omega)
  · show f_e_wine_4 N (n + 1) _ _ M = _
    rw [f_e_wine_4, if_pos h.esp]
  · obtain ⟨q1, q2, q3, q4⟩ := h.L.lt h.c8 hi
    show f_e_wine_4 N (n + 1) _ _ M = f_e_wine_4 N n (nI (ct (fun i => decide (lk i = 2)) i + if (decide (lk i = 2)) = true then 1 else 0)) _ M
    rw [f_e_wine_4, if_neg (h.nsp hi), e_entry M (by omega), Option.bind_some, e_kind h.L h.c8 hi, nI_1, nI_1]
    by_cases b : lk i = 2
    · rw [if_pos (show nI (lk i) = (2 : Int32) by rw [b]; rfl), if_pos (by simp [b])]
    · rw [if_neg (show ¬ nI (lk i) = (2 : Int32) from fun q => b ((nI_eq (b := 2) (by omega) (by omega)).mp q)), if_neg (by simp [b])] <;> rfl
theorem Cx.cwords (h : Cx M Mr c nt mo dr gn sp lm lw lk lf bh bd) {N : Nat} (hN : 4000 ≤ N) {g : Nat} (hg : g < 100) : f_e_wordsOf N (nI g) M = some (nI (ct (fun i => decide (lw i = g)) sp)) := by
  have hs := h.sp40
  rw [f_e_wordsOf]
  refine run_loop (fun n a i => f_e_wordsOf_4 N n (nI g) a i M) (fun i => nI (ct (fun i => decide (lw i = g)) i)) _ sp (fun n => ?_) (fun n i hi => ?_) N 0 (by omega) (by omega)
  · show f_e_wordsOf_4 N (n + 1) _ _ _ M = _
    rw [f_e_wordsOf_4, if_pos h.esp]
  · obtain ⟨q1, q2, q3, q4⟩ := h.L.lt h.c8 hi
    show f_e_wordsOf_4 N (n + 1) _ _ _ M = f_e_wordsOf_4 N n _ (nI (ct (fun i => decide (lw i = g)) i + if (decide (lw i = g)) = true then 1 else 0)) _ M
    rw [f_e_wordsOf_4, if_neg (h.nsp hi), e_entry M (by omega), Option.bind_some, e_who h.L h.c8 hi, nI_1, nI_1]
    by_cases b : lw i = g
    · rw [if_pos ((nI_eq (by omega) (by omega)).mpr b), if_pos (by simp [b])]
    · rw [if_neg (fun q => b ((nI_eq (by omega) (by omega)).mp q)), if_neg (by simp [b])] <;> rfl
theorem Cx.clast (h : Cx M Mr c nt mo dr gn sp lm lw lk lf bh bd) {N : Nat} (hN : 4000 ≤ N) {g : Nat} (hg : g < 100) : f_e_lastOf N (nI g) M = some (lastI lm lw g sp) := by
  have hs := h.sp40
  rw [f_e_lastOf]
  refine run_loop (fun n a i => f_e_lastOf_4 N n (nI g) a i M) (fun i => lastI lm lw g i) _ sp (fun n => ?_) (fun n i hi => ?_) N 0 (by omega) (by omega)
  · show f_e_lastOf_4 N (n + 1) _ _ _ M = _
    rw [f_e_lastOf_4, if_pos h.esp]
  · obtain ⟨q1, q2, q3, q4⟩ := h.L.lt h.c8 hi
    show f_e_lastOf_4 N (n + 1) _ _ _ M = f_e_lastOf_4 N n _ (if lw i = g then nI (lm i) else lastI lm lw g i) _ M
    rw [f_e_lastOf_4, if_neg (h.nsp hi), e_entry M (by omega), Option.bind_some, Option.bind_some, e_who h.L h.c8 hi, e_mom h.L h.c8 hi, nI_1]
    by_cases b : lw i = g
    · rw [if_pos ((nI_eq (by omega) (by omega)).mpr b), if_pos b]
    · rw [if_neg (fun q => b ((nI_eq (by omega) (by omega)).mp q)), if_neg b]
/-- who is there -/
theorem Cx.cthere (h : Cx M Mr c nt mo dr gn sp lm lw lk lf bh bd) : f_t_there M = nI (th c gn) := by
  unfold f_t_there f_g_everybody f_e_gone
  rw [show gi M 7 3 = nI c from h.c7, show gi M 12 3 = nI gn from h.gn12, one_shl (by have := h.c8; omega)]
  exact th_all c (by have := h.c8; omega) gn h.gnl
theorem Cx.thl (h : Cx Mc Mr c nt mo dr gn sp lm lw lk lf bh bd) : th c gn < 256 := Nat.lt_of_lt_of_le (th_lt h.gnl) (p2_le h.c8)
theorem Cx.cis (h : Cx M Mr c nt mo dr gn sp lm lw lk lf bh bd) {g : Nat} (hg : g < c) : f_t_isThere (nI g) M = if gn.testBit g then 0 else 1 := by
  have hc := h.c8
  unfold f_t_isThere
  rw [if_neg ((h.knows _).mpr ⟨g, hg, rfl⟩), h.cthere, tb h.thl (by omega), th_tb]
  by_cases q : gn.testBit g = true
  · simp [hg, q]
  · simp [hg, q]
theorem r_ixg {g w : Nat} (hg : g < 9) (hw : w < 10) : am_in (((12 : Int32) + ((7 : Int32) * nI g)) + nI w) 3826 = true ∧ (((12 : Int32) + ((7 : Int32) * nI g)) + nI w).toNatClampNeg = 12 + 7 * g + w := by
  rw [show (7 : Int32) = nI 7 from rfl, show (12 : Int32) = nI 12 from rfl, nI_mul, nI_add, nI_add]
  exact ⟨am_in_nI (by omega) (by decide), nI_clamp (by omega)⟩
theorem r_get {g w : Nat} (hg : g < 9) (hw : w < 10) (M : Mem) : f_m_get (nI g) (nI w) M = some (M.1 130 (12 + 7 * g + w)) := by
  obtain ⟨a, b⟩ := r_ixg hg hw
  unfold f_m_get
  rw [if_pos a, b]
  rfl
theorem r_set {g w : Nat} (hg : g < 9) (hw : w < 10) (v : Int32) (M : Mem) : f_m_set (nI g) (nI w) v M = some (si M 130 (12 + 7 * g + w) v) := by
  obtain ⟨a, b⟩ := r_ixg hg hw
  unfold f_m_set
  rw [if_pos a, b, Option.bind_some]
theorem Cx.g3 (h : Cx Mc M c nt mo dr gn sp lm lw lk lf bh bd) {g : Nat} (hg : g < c) : M.1 130 (15 + 7 * g) = nI (if gn.testBit g then 0 else 1) := by
  have := (h.D.2 g hg).1
  rw [show 7 + 4 * g = 7 + 4 * g + 0 from rfl, cur_G _ g 0 (by have := h.c8; omega) (by omega)] at this
  exact this
theorem Cx.g4 (h : Cx Mc M c nt mo dr gn sp lm lw lk lf bh bd) {g : Nat} (hg : g < c) : M.1 130 (16 + 7 * g) = nI (ct (fun i => decide (lw i = g)) sp) := by
  have := (h.D.2 g hg).2.1
  rw [show 8 + 4 * g = 7 + 4 * g + 1 by omega, cur_G _ g 1 (by have := h.c8; omega) (by omega), show 15 + 7 * g + 1 = 16 + 7 * g by omega] at this
  exact this
theorem Cx.g5 (h : Cx Mc M c nt mo dr gn sp lm lw lk lf bh bd) {g : Nat} (hg : g < c) : M.1 130 (17 + 7 * g) = nI (ct (fun i => decide (lw i = g) && decide (lk i = 2)) sp) := by
  have := (h.D.2 g hg).2.2.1
  rw [show 9 + 4 * g = 7 + 4 * g + 2 by omega, cur_G _ g 2 (by have := h.c8; omega) (by omega), show 15 + 7 * g + 2 = 17 + 7 * g by omega] at this
  exact this
theorem Cx.g6 (h : Cx Mc M c nt mo dr gn sp lm lw lk lf bh bd) {g : Nat} (hg : g < c) : M.1 130 (18 + 7 * g) = lastI lm lw g sp := by
  have := (h.D.2 g hg).2.2.2
  rw [show 10 + 4 * g = 7 + 4 * g + 3 by omega, cur_G _ g 3 (by have := h.c8; omega) (by omega), show 15 + 7 * g + 3 = 18 + 7 * g by omega] at this
  exact this
theorem Cx.ris (h : Cx Mc M c nt mo dr gn sp lm lw lk lf bh bd) {g : Nat} (hg : g < c) : f_m_isThere (nI g) M = some (if gn.testBit g then 0 else 1) := by
  unfold f_m_isThere
  rw [show (3 : Int32) = nI 3 from rfl, r_get (by have := h.c8; omega) (by omega), Option.bind_some, show 12 + 7 * g + 3 = 15 + 7 * g by omega, h.g3 hg]
  by_cases q : gn.testBit g = true
  · simp only [q, if_true]
    rfl
  · simp only [q]
    rfl
theorem or_all : ∀ g, g < 8 → ∀ s, s < 2 ^ g → s ||| 2 ^ g = s + 2 ^ g := by decide +kernel
/-- a set built by its bits -/
def bset (p : Nat → Bool) : Nat → Nat
  | 0 => 0
  | n + 1 => bset p n ||| (if p n = true then 2 ^ n else 0)
theorem bset_tb (p : Nat → Bool) : ∀ n g, (bset p n).testBit g = (decide (g < n) && p g)
  | 0, g => by simp [bset]
  | n + 1, g => by
    show (bset p n ||| _).testBit g = _
    rw [Nat.testBit_or, bset_tb p n g]
    by_cases hp : p n = true
    · rw [if_pos hp, Nat.testBit_two_pow]
      by_cases e : n = g
      · subst e; simp [hp]
      · have : (g < n + 1) ↔ (g < n) := by omega
        simp [e, this]
    · rw [if_neg hp]
      by_cases e : n = g
      · subst e; simp [hp]
      · have : (g < n + 1) ↔ (g < n) := by omega
        simp [this]
theorem bset_lt (p : Nat → Bool) : ∀ n, bset p n < 2 ^ n
  | 0 => by show 0 < 1; decide
  | n + 1 => by
    have h1 : bset p n < 2 ^ (n + 1) := Nat.lt_of_lt_of_le (bset_lt p n) (Nat.pow_le_pow_right (by decide) (by omega))
    refine Nat.or_lt_two_pow h1 ?_
    split
    · exact Nat.pow_lt_pow_right (by decide) (by omega)
    · exact Nat.two_pow_pos _
theorem bset_th {c gn : Nat} (h : gn < 2 ^ c) : bset (fun g => !gn.testBit g) c = th c gn := by
  apply Nat.eq_of_testBit_eq
  intro i
  rw [bset_tb, th_tb]
  by_cases q : i < c
  · simp [q]
  · simp [q, lt_tb h (show c ≤ i by omega)]
theorem Cx.rthere (h : Cx Mc M c nt mo dr gn sp lm lw lk lf bh bd) {N : Nat} (hN : 4000 ≤ N) : f_m_there N M = some (nI (th c gn)) := by
  have hc := h.c8
  rw [f_m_there, ← bset_th h.gnl]
  refine run_loop (fun n a i => f_m_there_4 N n a i M) (fun i => nI (bset (fun g => !gn.testBit g) i)) _ c (fun n => ?_) (fun n i hi => ?_) N 0 (by omega) (by omega)
  · show f_m_there_4 N (n + 1) _ _ M = _
    rw [f_m_there_4, if_pos h.recn]
  · show f_m_there_4 N (n + 1) _ _ M = f_m_there_4 N n (nI (bset (fun g => !gn.testBit g) i ||| if (!gn.testBit i) = true then 2 ^ i else 0)) _ M
    rw [f_m_there_4, if_neg (h.rncn hi), h.ris hi, Option.bind_some, nI_1, one_shl (by omega), fa_or]
    by_cases q : gn.testBit i = true
    · simp only [q, if_true, Bool.not_true, Bool.false_eq_true, if_false, Nat.or_zero, Int32.or_zero]
    · simp only [q, Bool.not_false, if_true, if_false, Bool.false_eq_true]
      rw [if_neg (by decide)]
/-- a guest, a set: as both see it -/
theorem Cx.gcase (h : Cx M Mr c nt mo dr gn sp lm lw lk lf bh bd) (x : Int32) : (f_g_knows x M = 0 ∧ f_m_isGuest x Mr = 0) ∨ ∃ g, g < c ∧ x = nI g ∧ ¬ f_g_knows (nI g) M = 0 ∧ ¬ f_m_isGuest (nI g) Mr = 0 := by
  by_cases q : ∃ g, g < c ∧ x = nI g
  · obtain ⟨g, hg, rfl⟩ := q
    exact Or.inr ⟨g, hg, rfl, (h.knows _).mpr ⟨g, hg, rfl⟩, (h.isG _).mpr ⟨g, hg, rfl⟩⟩
  · exact Or.inl ⟨Decidable.not_not.mp (fun e => q ((h.knows _).mp e)), Decidable.not_not.mp (fun e => q ((h.isG _).mp e))⟩
theorem Cx.scase (h : Cx M Mr c nt mo dr gn sp lm lw lk lf bh bd) (x : Int32) : (f_g_knowsAll x M = 0 ∧ f_m_isSet x Mr = 0) ∨ ∃ s, s < 2 ^ c ∧ x = nI s ∧ ¬ f_g_knowsAll (nI s) M = 0 ∧ ¬ f_m_isSet (nI s) Mr = 0 := by
  by_cases q : ∃ s, s < 2 ^ c ∧ x = nI s
  · obtain ⟨g, hg, rfl⟩ := q
    exact Or.inr ⟨g, hg, rfl, (h.kA _).mpr ⟨g, hg, rfl⟩, (h.isS _).mpr ⟨g, hg, rfl⟩⟩
  · exact Or.inl ⟨Decidable.not_not.mp (fun e => q ((h.kA _).mp e)), Decidable.not_not.mp (fun e => q ((h.isS _).mp e))⟩
end CX2
