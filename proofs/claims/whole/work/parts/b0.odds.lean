/-! Fractions in lowest terms; the estate by the book. -/
section GCD
variable {N : Nat} {M : Mem} {x0 x2 : Int64} {x4 : Int32}
theorem lz {a : Nat} (ha : a < 2 ^ 63) : (lg_cmp (lN a) (0 : Int64) = 0) ↔ a = 0 := by
  rw [lg_cmp_eq]
  exact pk_lEQ (b := 0) ha (by decide)
theorem lz0 {a : Nat} (ha : a < 2 ^ 63) : (lN a = 0) ↔ a = 0 := pk_lEQ (b := 0) ha (by decide)
theorem mod_half {a b : Nat} (h : 0 < a) (hab : a ≤ b) : 2 * (b % a) < b := by
  have h1 := Nat.mod_lt b h
  have h2 := Nat.div_add_mod b a
  have h3 : 1 ≤ b / a := (Nat.le_div_iff_mul_le h).mpr (by omega)
  have h4 : a * 1 ≤ a * (b / a) := Nat.mul_le_mul_left a h3
  omega
theorem eu_c : ∀ (k n i a b : Nat), b < 2 ^ k → a < 2 ^ 63 → b < 2 ^ 63 → i + 2 * k + 1 ≤ 199 → 2 * k + 1 < n → f_w_lowest_12 N n x0 x2 x4 (lN a) (lN b) (nI i) M = f_w_lowest_48 N x0 x2 x4 (lN (Nat.gcd a b)) M := by
  intro k
  induction k with
  | zero =>
    intro n i a b hb ha hb2 hi hn
    obtain ⟨m, rfl⟩ : ∃ m, n = m + 1 := ⟨n - 1, by omega⟩
    have : b = 0 := by omega
    subst this
    rw [f_w_lowest_12, if_neg (show ¬ (200 : Int32) ≤ nI i from nI_ge (b := 200) (by omega) (by decide)), if_pos ((lz (by omega)).mpr rfl), Nat.gcd_zero_right]
  | succ k ih =>
    intro n i a b hb ha hb2 hi hn
    obtain ⟨m, rfl⟩ : ∃ m, n = m + 2 := ⟨n - 2, by omega⟩
    rw [f_w_lowest_12, if_neg (show ¬ (200 : Int32) ≤ nI i from nI_ge (b := 200) (by omega) (by decide))]
    by_cases h0 : b = 0
    · subst h0
      rw [if_pos ((lz (by omega)).mpr rfl), Nat.gcd_zero_right]
    · rw [if_neg (fun q => h0 ((lz hb2).mp q)), if_neg (fun q => h0 ((lz0 hb2).mp q)), pk_lRem ha (by omega) hb2, nI_1, f_w_lowest_12, if_neg (show ¬ (200 : Int32) ≤ nI (i + 1) from nI_ge (b := 200) (by omega) (by decide))]
      have hr : a % b < b := Nat.mod_lt _ (by omega)
      have hg : Nat.gcd a b = Nat.gcd b (a % b) := by rw [Nat.gcd_comm a b, Nat.gcd_rec b a, Nat.gcd_comm]
      by_cases h1 : a % b = 0
      · rw [if_pos ((lz (by omega)).mpr h1), hg, h1, Nat.gcd_zero_right]
      · have hh := mod_half (a := a % b) (b := b) (by omega) (by omega)
        have hg2 : Nat.gcd b (a % b) = Nat.gcd (a % b) (b % (a % b)) := by rw [Nat.gcd_comm b (a % b), Nat.gcd_rec (a % b) b, Nat.gcd_comm]
        rw [if_neg (fun q => h1 ((lz (by omega)).mp q)), if_neg (fun q => h1 ((lz0 (by omega)).mp q)), pk_lRem hb2 (by omega) (by omega), nI_1, ih m (i + 1 + 1) (a % b) (b % (a % b)) (by rw [Nat.pow_succ] at hb; omega) (by omega) (by omega) (by omega) (by omega), hg, hg2]
theorem eu_r : ∀ (k n a b : Nat), b < 2 ^ k → a < 2 ^ 63 → b < 2 ^ 63 → 2 * k + 1 < n → f_m_common_17 N n (lN a) (lN b) M = some (lN (Nat.gcd a b)) := by
  intro k
  induction k with
  | zero =>
    intro n a b hb ha hb2 hn
    obtain ⟨m, rfl⟩ : ∃ m, n = m + 1 := ⟨n - 1, by omega⟩
    have : b = 0 := by omega
    subst this
    rw [f_m_common_17, if_pos ((lz (by omega)).mpr rfl), Nat.gcd_zero_right]
  | succ k ih =>
    intro n a b hb ha hb2 hn
    obtain ⟨m, rfl⟩ : ∃ m, n = m + 2 := ⟨n - 2, by omega⟩
    rw [f_m_common_17]
    by_cases h0 : b = 0
    · subst h0
      rw [if_pos ((lz (by omega)).mpr rfl), Nat.gcd_zero_right]
    · rw [if_neg (fun q => h0 ((lz hb2).mp q)), if_neg (fun q => h0 ((lz0 hb2).mp q)), pk_lRem ha (by omega) hb2, f_m_common_17]
      have hr : a % b < b := Nat.mod_lt _ (by omega)
      have hg : Nat.gcd a b = Nat.gcd b (a % b) := by rw [Nat.gcd_comm a b, Nat.gcd_rec b a, Nat.gcd_comm]
      by_cases h1 : a % b = 0
      · rw [if_pos ((lz (by omega)).mpr h1), hg, h1, Nat.gcd_zero_right]
      · have hh := mod_half (a := a % b) (b := b) (by omega) (by omega)
        have hg2 : Nat.gcd b (a % b) = Nat.gcd (a % b) (b % (a % b)) := by rw [Nat.gcd_comm b (a % b), Nat.gcd_rec (a % b) b, Nat.gcd_comm]
        rw [if_neg (fun q => h1 ((lz (by omega)).mp q)), if_neg (fun q => h1 ((lz0 (by omega)).mp q)), pk_lRem hb2 (by omega) (by omega), ih m (a % b) (b % (a % b)) (by rw [Nat.pow_succ] at hb; omega) (by omega) (by omega) (by omega), hg, hg2]
theorem neg_of {x : Int64} (h1 : x.toInt < 0) (h2 : -(2 ^ 62) < x.toInt) : ∃ a : Nat, a < 2 ^ 62 ∧ -x = lN a := by
  refine ⟨(-x.toInt).toNat, by omega, ?_⟩
  apply Int64.toInt_inj.mp
  rw [pk_lT (by omega), Int64.toInt_neg, Int.toNat_of_nonneg (by omega)]
  apply Int.bmod_eq_of_le <;> omega
theorem low_eq (hN : 4000 ≤ N) {b : Nat} (hx1 : -(2 ^ 62) < x0.toInt) (hx2 : x0.toInt < 2 ^ 62) (hb : 0 < b) (hb2 : b < 2 ^ 60) : ∃ v, f_w_lowest N x0 (lN b) x4 M = some v ∧ f_m_part N x0 (lN b) x4 M = some v := by
  have main : ∀ y : Int64, (∃ a : Nat, a < 2 ^ 62 ∧ y = lN a) → ∃ g : Nat, 0 < g ∧ g < 2 ^ 63 ∧ f_w_lowest_12 N N x0 (lN b) x4 y (lN b) 0 M = f_w_lowest_48 N x0 (lN b) x4 (lN g) M ∧ f_m_common_17 N N y (lN b) M = some (lN g) := by
    rintro y ⟨a, ha, rfl⟩
    have hg : Nat.gcd a b ≤ b := Nat.gcd_le_right a hb
    exact ⟨Nat.gcd a b, Nat.gcd_pos_of_pos_right a hb, by omega, eu_c 60 N 0 a b hb2 (by omega) (by omega) (by omega) (by omega), eu_r 60 N a b hb2 (by omega) (by omega) (by omega)⟩
  have fin : ∀ g : Nat, 0 < g → g < 2 ^ 63 → f_w_lowest N x0 (lN b) x4 M = f_w_lowest_48 N x0 (lN b) x4 (lN g) M → f_m_common N x0 (lN b) M = some (lN g) → ∃ v, f_w_lowest N x0 (lN b) x4 M = some v ∧ f_m_part N x0 (lN b) x4 M = some v := by
    intro g hg hg2 e1 e2
    have z1 : ¬ lg_cmp (lN g) (0 : Int64) = 0 := fun q => by
      have := (lz hg2).mp q
      omega
    have z2 : ¬ lN g = 0 := fun q => by
      have := (lz0 hg2).mp q
      omega
    rw [e1]
    unfold f_m_part f_w_lowest_48
    rw [e2, Option.bind_some, Option.bind_some]
    by_cases h4 : x4 = 0
    · exact ⟨x0 / lN g, by rw [if_pos h4, if_neg z1, if_neg z2], by rw [if_pos h4, if_neg z2]⟩
    · exact ⟨lN b / lN g, by rw [if_neg h4, if_neg z1, if_neg z2], by rw [if_neg h4, if_neg z2]⟩
  by_cases hs : 0 ≤ lg_cmp x0 (0 : Int64)
  · obtain ⟨g, g1, g2, g3, g4⟩ := main x0 (by
      have h0 : (0 : Int64) ≤ x0 := (lg_cmp_ge _ _).mp hs
      obtain ⟨a, ha, e⟩ := pk_lOf (x := x0) (fun q => by rw [Int64.le_iff_toInt_le] at h0; rw [Int64.lt_iff_toInt_lt] at q; omega)
      refine ⟨a, ?_, e⟩
      rw [e, pk_lT ha] at hx2
      omega)
    refine fin g g1 g2 ?_ ?_
    · rw [f_w_lowest, f_k_abs, if_pos hs]; exact g3
    · rw [f_m_common, if_pos hs]; exact g4
  · obtain ⟨g, g1, g2, g3, g4⟩ := main (-x0) (by
      have h0 : ¬ (0 : Int64) ≤ x0 := fun q => hs ((lg_cmp_ge _ _).mpr q)
      rw [Int64.le_iff_toInt_le] at h0
      have z : (0 : Int64).toInt = 0 := by decide
      exact neg_of (by omega) hx1)
    refine fin g g1 g2 ?_ ?_
    · rw [f_w_lowest, f_k_abs, if_neg hs]; exact g3
    · rw [f_m_common, if_neg hs]; exact g4
theorem low_eqN (hN : 4000 ≤ N) {a b : Nat} (ha : a < 2 ^ 62) (hb : 0 < b) (hb2 : b < 2 ^ 60) : ∃ v, f_w_lowest N (lN a) (lN b) x4 M = some v ∧ f_m_part N (lN a) (lN b) x4 M = some v := by
  have := pk_lT (n := a) (by omega)
  exact low_eq hN (by omega) (by omega) hb hb2
end GCD
/-! hundreds -/
theorem c_hun {N n : Nat} (hN : 4000 ≤ N) (hn : n ≤ 100) (M : Mem) : f_w_hundreds N (nI n) M = some (lN (100 ^ n)) := by
  rw [f_w_hundreds]
  refine run_loop (fun k a i => f_w_hundreds_4 N k (nI n) a i M) (fun i => lN (100 ^ i)) _ n (fun k => ?_) (fun k i hi => ?_) N 0 (by omega) (by omega)
  · show f_w_hundreds_4 N (k + 1) _ _ _ M = _
    rw [f_w_hundreds_4, if_pos (nI_le (Nat.le_refl _) (by omega))]
  · show f_w_hundreds_4 N (k + 1) _ _ _ M = f_w_hundreds_4 N k _ _ _ M
    rw [f_w_hundreds_4, if_neg (nI_ge hi (by omega)), nI_1, show (100 : Int64) = lN 100 from rfl, lN_mul, Nat.pow_succ]
theorem r_hun {N n : Nat} (hN : 4000 ≤ N) (hn : n ≤ 100) (M : Mem) : f_m_power N (nI n) M = some (lN (100 ^ n)) := by
  rw [f_m_power]
  refine run_loop (fun k a i => f_m_power_4 N k (nI n) a i M) (fun i => lN (100 ^ i)) _ n (fun k => ?_) (fun k i hi => ?_) N 0 (by omega) (by omega)
  · show f_m_power_4 N (k + 1) _ _ _ M = _
    rw [f_m_power_4, if_pos (nI_le (Nat.le_refl _) (by omega))]
  · show f_m_power_4 N (k + 1) _ _ _ M = f_m_power_4 N k _ _ _ M
    rw [f_m_power_4, if_neg (nI_ge hi (by omega)), nI_1, show (100 : Int64) = lN 100 from rfl, lN_mul, Nat.pow_succ]
theorem h6 {n : Nat} (hn : n ≤ 6) : 100 ^ n ≤ 1000000000000 := Nat.le_trans (Nat.pow_le_pow_right (by decide) hn) (by decide)
/-! who dies when -/
def al (d : Nat → Nat) : Nat → Nat
  | 0 => 1
  | n + 1 => al d n * (100 - d n)
def dy (d : Nat → Nat) (S : Nat → Bool) : Nat → Nat
  | 0 => 0
  | n + 1 => dy d S n * 100 + (if S n = true then al d n * d n else 0)
def sm (f : Nat → Nat) : Nat → Nat
  | 0 => 0
  | n + 1 => sm f n + f n
def tm (d : Nat → Nat) (n i : Nat) : Nat := al d i * d i * 100 ^ (n - 1 - i)
theorem sm_congr {f g : Nat → Nat} : ∀ {n : Nat}, (∀ i, i < n → f i = g i) → sm f n = sm g n
  | 0, _ => rfl
  | n + 1, h => by
    show sm f n + f n = sm g n + g n
    rw [sm_congr (n := n) (fun i hi => h i (by omega)), h n (by omega)]
theorem sm_mul (f : Nat → Nat) (c : Nat) : ∀ n, sm f n * c = sm (fun i => f i * c) n
  | 0 => Nat.zero_mul _
  | n + 1 => by
    show (sm f n + f n) * c = sm _ n + f n * c
    rw [Nat.add_mul, sm_mul f c n]
theorem sm_mono {f : Nat → Nat} : ∀ {a b : Nat}, a ≤ b → sm f a ≤ sm f b := by
  intro a b h
  induction b with
  | zero => rw [Nat.le_zero.mp h]; exact Nat.le_refl _
  | succ b ih =>
    by_cases e : a = b + 1
    · rw [e]; exact Nat.le_refl _
    · exact Nat.le_trans (ih (by omega)) (Nat.le_add_right _ _)
theorem sm_z {f : Nat → Nat} : ∀ {n : Nat}, (∀ i, i < n → f i = 0) → sm f n = 0
  | 0, _ => rfl
  | n + 1, h => by
    show sm f n + f n = 0
    rw [sm_z (n := n) (fun i hi => h i (by omega)), h n (by omega)]
theorem sm_one {f : Nat → Nat} {k : Nat} : ∀ {n : Nat}, k < n → (∀ i, i < n → i ≠ k → f i = 0) → sm f n = f k
  | 0, h, _ => by omega
  | n + 1, h, hz => by
    show sm f n + f n = f k
    by_cases e : k = n
    · subst e
      rw [sm_z (fun i hi => hz i (by omega) (by omega)), Nat.zero_add]
    · rw [sm_one (n := n) (by omega) (fun i hi hk => hz i (by omega) hk), hz n (by omega) (by omega)] <;> rfl
theorem dy_sm (d : Nat → Nat) (S : Nat → Bool) : ∀ n, dy d S n = sm (fun i => if S i = true then tm d n i else 0) n
  | 0 => rfl
  | n + 1 => by
    show dy d S n * 100 + _ = sm _ n + _
    rw [dy_sm d S n, sm_mul]
    congr 1
    · apply sm_congr
      intro i hi
      show (if S i = true then tm d n i else 0) * 100 = if S i = true then tm d (n + 1) i else 0
      by_cases q : S i = true
      · rw [if_pos q, if_pos q]
        unfold tm
        rw [show n + 1 - 1 - i = (n - 1 - i) + 1 by omega, Nat.pow_succ, Nat.mul_assoc]
      · rw [if_neg q, if_neg q]
    · show (if S n = true then al d n * d n else 0) = if S n = true then al d n * d n * 100 ^ (n + 1 - 1 - n) else 0
      rw [show n + 1 - 1 - n = 0 by omega, Nat.pow_zero, Nat.mul_one]
theorem dy_le {d : Nat → Nat} {S : Nat → Bool} : ∀ {n : Nat}, (∀ i, i < n → d i ≤ 100) → dy d S n + al d n ≤ 100 ^ n
  | 0, _ => Nat.le_refl _
  | n + 1, h => by
    have ih := dy_le (d := d) (S := S) (n := n) (fun i hi => h i (by omega))
    have hd := h n (by omega)
    show dy d S n * 100 + _ + al d n * (100 - d n) ≤ 100 ^ n * 100
    have e : al d n * (100 - d n) + al d n * d n = al d n * 100 := by rw [← Nat.mul_add]; congr 1; omega
    have : (dy d S n + al d n) * 100 ≤ 100 ^ n * 100 := Nat.mul_le_mul_right 100 ih
    rw [Nat.add_mul] at this
    split <;> omega
theorem dy_one (d : Nat → Nat) {n k : Nat} (hk : k < n) {S : Nat → Bool} (h1 : S k = true) (h2 : ∀ i, i < n → i ≠ k → S i = false) : dy d S n = tm d n k := by
  rw [dy_sm, sm_one hk (fun i hi hik => by rw [if_neg]; rw [h2 i hi hik]; decide), if_pos h1]
section BK2
variable {M Mr Mc : Mem} {c nt mo dr gn sp N : Nat} {lm lw lk lf bh bd : Nat → Nat}
theorem Cx.dying (h : Cx M Mr c nt mo dr gn sp lm lw lk lf bh bd) (hN : 4000 ≤ N) {n S : Nat} (hn : n ≤ 6) (hw : n ≤ min nt 20) (hS : S < 256) : f_h_dyingIn N (nI n) (nI S) M = some (lN (dy (fun i => bd (min nt 20 - n + i)) (fun i => S.testBit i) n)) := by
  rw [f_h_dyingIn, h.wrt, nI_sub hw]
  refine run_loop (fun k (u : Int64 × Int64) i => f_h_dyingIn_16 N k (nI n) (nI S) u.1 u.2 (nI (min nt 20 - n)) i M) (fun i => (lN (dy (fun i => bd (min nt 20 - n + i)) (fun i => S.testBit i) i), lN (al (fun i => bd (min nt 20 - n + i)) i))) _ n (fun k => ?_) (fun k i hi => ?_) N 0 (by omega) (by omega)
  · show f_h_dyingIn_16 N (k + 1) _ _ _ _ _ _ M = _
    rw [f_h_dyingIn_16, if_pos (nI_le (Nat.le_refl _) (by omega))]
  · show f_h_dyingIn_16 N (k + 1) _ _ (lN (dy (fun i => bd (min nt 20 - n + i)) (fun i => S.testBit i) i)) (lN (al (fun i => bd (min nt 20 - n + i)) i)) _ _ M = f_h_dyingIn_16 N k _ _ (lN (dy (fun i => bd (min nt 20 - n + i)) (fun i => S.testBit i) i * 100 + if S.testBit i = true then al (fun i => bd (min nt 20 - n + i)) i * bd (min nt 20 - n + i) else 0)) (lN (al (fun i => bd (min nt 20 - n + i)) i * (100 - bd (min nt 20 - n + i)))) _ _ M
    have hj : min nt 20 - n + i < min nt 20 := by omega
    have := h.bdl hj
    rw [f_h_dyingIn_16, if_neg (nI_ge hi (by omega)), nI_add, h.pg hj, Option.bind_some, h.pd hj, tb hS (by omega), nI_1, show (100 : Int32) = nI 100 from rfl, nI_sub this, nI_l (by omega), nI_l (by omega), show (100 : Int64) = lN 100 from rfl, show (0 : Int64) = lN 0 from rfl, lN_mul, lN_mul, lN_mul, lN_add, lN_add]
    by_cases q : S.testBit i = true
    · rw [if_pos q, if_pos q, if_pos rfl]
    · rw [if_neg q, if_neg q, if_neg (by decide)]
theorem Cx.rdies (h : Cx Mc M c nt mo dr gn sp lm lw lk lf bh bd) (hN : 4000 ≤ N) {n k : Nat} (hn : n ≤ 6) (hw : n ≤ min nt 20) (hk : k < n) : f_m_diesIn N (nI n) (nI k) M = some (lN (tm (fun i => bd (min nt 20 - n + i)) n k)) := by
  rw [f_m_diesIn]
  let d : Nat → Nat := fun i => bd (min nt 20 - n + i)
  let w : Nat → Nat := fun i => if i ≤ k then al d i else al d k * d k * 100 ^ (i - 1 - k)
  have hwn : w n = tm d n k := if_neg (by omega)
  show _ = some (lN (tm d n k))
  rw [← hwn]
  refine run_loop (fun f a i => f_m_diesIn_5 N f (nI n) (nI k) a i M) (fun i => lN (w i)) _ n (fun f => ?_) (fun f i hi => ?_) N 0 (by omega) (by omega)
  · show f_m_diesIn_5 N (f + 1) _ _ _ _ M = _
    rw [f_m_diesIn_5, if_pos (nI_le (Nat.le_refl _) (by omega))]
  · show f_m_diesIn_5 N (f + 1) _ _ (lN (w i)) _ M = f_m_diesIn_5 N f _ _ (lN (w (i + 1))) _ M
    have hj : min nt 20 - n + i < min nt 20 := by omega
    have := h.bdl hj
    rw [f_m_diesIn_5, if_neg (nI_ge hi (by omega)), h.shown, nI_sub hw, nI_add, h.died hj, Option.bind_some, nI_1, show (100 : Int32) = nI 100 from rfl, nI_sub this, nI_l (by omega), nI_l (by omega), show (100 : Int64) = lN 100 from rfl, lN_mul, lN_mul, lN_mul]
    by_cases q : k ≤ i
    · rw [if_pos (nI_le q (by omega))]
      by_cases e : i = k
      · subst e
        rw [if_pos rfl]
        congr 2
        show (if i ≤ i then al d i else _) * d i = if i + 1 ≤ i then _ else al d i * d i * 100 ^ (i + 1 - 1 - i)
        rw [if_pos (Nat.le_refl _), if_neg (by omega), show i + 1 - 1 - i = 0 by omega, Nat.pow_zero, Nat.mul_one]
      · rw [if_neg (fun q => e ((nI_eq (by omega) (by omega)).mp q))]
        congr 2
        show (if i ≤ k then al d i else al d k * d k * 100 ^ (i - 1 - k)) * 100 = if i + 1 ≤ k then _ else al d k * d k * 100 ^ (i + 1 - 1 - k)
        rw [if_neg (by omega), if_neg (by omega), show i + 1 - 1 - k = (i - 1 - k) + 1 by omega, Nat.pow_succ, Nat.mul_assoc]
    · rw [if_neg (nI_ge (by omega) (by omega))]
      congr 2
      show (if i ≤ k then al d i else al d k * d k * 100 ^ (i - 1 - k)) * (100 - d i) = if i + 1 ≤ k then al d i * (100 - d i) else _
      rw [if_pos (by omega), if_pos (by omega)]
/-- both ask for 1 to 6 nights of the book -/
theorem Cx.ncase (h : Cx M Mr c nt mo dr gn sp lm lw lk lf bh bd) (x : Int32) : (f_w_isOfBook x M = 0 ∧ f_m_areNights x Mr = 0) ∨ ∃ n, 1 ≤ n ∧ n ≤ 6 ∧ n ≤ min nt 20 ∧ x = nI n ∧ ¬ f_w_isOfBook (nI n) M = 0 ∧ ¬ f_m_areNights (nI n) Mr = 0 := by
  unfold f_w_isOfBook f_m_areNights
  rw [h.wrt, h.shown, isIn_eq x _ _ Mr M]
  by_cases q : f_w_within x 1 6 M = 0
  · exact Or.inl ⟨by rw [if_pos q], by rw [if_pos q]⟩
  · have q0 := q
    obtain ⟨n, n1, n6, rfl⟩ := within_1 (n := 6) (by decide) q
    have hn : n < 2 ^ 31 := by omega
    rw [if_neg q0]
    by_cases r : min nt 20 < n
    · exact Or.inl ⟨by rw [if_pos (nI_lt r hn)], by rw [if_pos (nI_lt r hn)]⟩
    · refine Or.inr ⟨n, n1, n6, by omega, rfl, ?_, ?_⟩
      · rw [if_neg q0, if_neg (nI_nlt (by omega) (by omega))]; decide
      · rw [isIn_eq _ _ _ Mr M, if_neg q0, if_neg (nI_nlt (by omega) (by omega))]; decide
end BK2
def pw (s g : Nat) : Nat := if s.testBit g = true then 840 / pc s else 0
theorem pc_pos : ∀ s, s < 256 → ∀ g, g < 8 → s.testBit g = true → 0 < pc s := by decide +kernel
theorem pw_le (s g : Nat) : pw s g ≤ 840 := by
  unfold pw
  split
  · exact Nat.div_le_self _ _
  · omega
theorem c_pw {s g : Nat} (hs : s < 256) (hg : g < 8) (M : Mem) : f_w_partOfWhole (nI s) (nI g) M = some (nI (pw s g)) := by
  unfold f_w_partOfWhole pw
  have hp := pc_le s
  rw [c_pc hs, c_bit (by omega), show bw g = 2 ^ g from if_pos hg]
  by_cases q : s.testBit g = true
  · have := pc_pos s hs g hg q
    rw [if_neg (show ¬ nI (pc s) ≤ 0 from nI_nle this (by omega)), if_neg (fun e => by rw [(tbm hs hg).mp e] at q; cases q), if_neg (nI_ne0 this (by omega)), if_pos q, show (840 : Int32) = nI 840 from rfl, pk_div (by decide) this (by omega)]
  · rw [if_neg q, if_pos ((tbm hs hg).mpr (by simpa using q))]
    split <;> rfl
section OPS4
variable {X : (Nat → Nat → Int32) → Nat → Prop} {N : Nat}
theorem o_18 (_hX : XC X) (hN : 4000 ≤ N) : O_18 (Inv X) (Inv X) N := by
  intro M a b y hM hy
  obtain ⟨c, nt, mo, dr, gn, sp, lm, lw, lk, lf, bh, bd, h⟩ := hM.cx
  have hc := h.c8
  unfold f_w_inherits f_m_inherits
  rcases h.gcase a with ⟨e1, e2⟩ | ⟨g, hg, rfl, n1, n2⟩
  · exact ⟨-1, by rw [if_pos e1], by rw [if_pos e2], hM⟩
  rw [if_neg n1, if_neg n2]
  rcases h.ncase b with ⟨e1, e2⟩ | ⟨n, h1, h6n, hw, rfl, n1, n2⟩
  · exact ⟨-1, by rw [if_pos e1], by rw [if_pos e2], hM⟩
  rw [if_neg n1, if_neg n2, f_h_partOf]
  let d : Nat → Nat := fun i => bd (min nt 20 - n + i)
  let U : Nat → Nat := fun i => tm d n i * pw (bh (min nt 20 - n + i)) g
  have hbh : ∀ i, i < n → bh (min nt 20 - n + i) < 256 := fun i hi => h.bhl (by omega)
  have hd : ∀ i, i < n → d i ≤ 100 := fun i hi => h.bdl (by omega)
  have k1 : f_h_partOf_5 N N (nI n) (nI g) 0 0 M = some (lN (sm U n)) := by
    refine run_loop (fun k a i => f_h_partOf_5 N k (nI n) (nI g) a i M) (fun i => lN (sm U i)) _ n (fun k => ?_) (fun k i hi => ?_) N 0 (by omega) (by omega)
    · show f_h_partOf_5 N (k + 1) _ _ _ _ M = _
      rw [f_h_partOf_5, if_pos (nI_le (Nat.le_refl _) (by omega))]
    · show f_h_partOf_5 N (k + 1) _ _ _ _ M = f_h_partOf_5 N k _ _ (lN (sm U i + tm d n i * pw (bh (min nt 20 - n + i)) g)) _ M
      have hi2 : 2 ^ i < 256 := Nat.pow_lt_pow_right (m := i) (n := 8) (by decide) (by omega)
      have := pw_le (bh (min nt 20 - n + i)) g
      rw [f_h_partOf_5, if_neg (nI_ge hi (by omega)), one_shl (by omega), h.dying hN h6n hw hi2, Option.bind_some, f_h_heirsOfLatest, h.wrt, nI_sub hw, nI_add, h.pg (by omega), Option.bind_some, Option.bind_some, h.ph (by omega), c_pw (hbh i hi) (by omega), Option.bind_some, nI_1, nI_l (by omega), lN_mul, lN_add, dy_one _ hi (Nat.testBit_two_pow_self) (fun j _ hj => Nat.testBit_two_pow_of_ne (Ne.symm hj))]
  have hU : sm U n ≤ 100 ^ n * 840 := by
    have e : sm U n ≤ sm (fun i => (if (true : Bool) = true then tm d n i else 0) * 840) n := by
      have : ∀ m, m ≤ n → sm U m ≤ sm (fun i => (if (true : Bool) = true then tm d n i else 0) * 840) m := by
        intro m
        induction m with
        | zero => intro _; exact Nat.le_refl _
        | succ m ih =>
          intro hm
          show sm U m + tm d n m * pw (bh (min nt 20 - n + m)) g ≤ sm _ m + (if (true : Bool) = true then tm d n m else 0) * 840
          rw [if_pos rfl]
          exact Nat.add_le_add (ih (by omega)) (Nat.mul_le_mul_left _ (pw_le _ _))
      exact this n (Nat.le_refl _)
    rw [← sm_mul, ← dy_sm d (fun _ => true) n] at e
    have := dy_le (d := d) (S := fun _ => true) hd
    exact Nat.le_trans e (Nat.mul_le_mul_right 840 (by omega))
  have h100 := h6 h6n
  have h100p : 0 < 100 ^ n := Nat.pow_pos (by decide)
  obtain ⟨v, v1, v2⟩ := low_eqN (M := M) (x4 := y) hN (a := sm U n) (b := 840 * 100 ^ n) (by omega) (by omega) (by omega)
  refine ⟨v, ?_, ?_, hM⟩
  · rw [k1, Option.bind_some, c_hun hN (by omega), Option.bind_some, show (840 : Int64) = lN 840 from rfl, lN_mul, v1, Option.bind_some]
  · refine run_loop (fun k a i => f_m_inherits_26 N k (nI g) (nI n) y a i M) (fun i => lN (sm U i)) _ n (fun k => ?_) (fun k i hi => ?_) N 0 (by omega) (by omega)
    · show f_m_inherits_26 N (k + 1) _ _ _ _ _ M = _
      rw [f_m_inherits_26, if_pos (nI_le (Nat.le_refl _) (by omega)), r_hun hN (by omega), Option.bind_some, show (840 : Int64) = lN 840 from rfl, lN_mul, v2, Option.bind_some]
    · show f_m_inherits_26 N (k + 1) _ _ _ _ _ M = f_m_inherits_26 N k _ _ _ (lN (sm U i + tm d n i * pw (bh (min nt 20 - n + i)) g)) _ M
      have hb := hbh i hi
      have hp := pc_le (bh (min nt 20 - n + i))
      rw [f_m_inherits_26, if_neg (nI_ge hi (by omega)), h.shown, nI_sub hw, nI_add, h.held (by omega), Option.bind_some, has_eq hb (by omega), nI_1, h.rdies hN h6n hw hi, Option.bind_some, r_pc hb hN, Option.bind_some, nI_l (by omega)]
      unfold pw
      by_cases q : (bh (min nt 20 - n + i)).testBit g = true
      · have := pc_pos _ hb g (by omega) q
        rw [if_pos q, if_pos q, if_neg (by decide), if_neg (fun e => by have := (lz0 (by omega)).mp e; omega), show (840 : Int64) = lN 840 from rfl, pk_lDiv (by decide) this (by omega), lN_mul, lN_add]
      · rw [if_neg q, if_neg q, if_pos rfl, Nat.mul_zero] <;> rfl
theorem o_19 (_hX : XC X) (hN : 4000 ≤ N) : O_19 (Inv X) (Inv X) N := by
  intro M b y hM hy
  obtain ⟨c, nt, mo, dr, gn, sp, lm, lw, lk, lf, bh, bd, h⟩ := hM.cx
  unfold f_w_open f_m_open
  rcases h.ncase b with ⟨e1, e2⟩ | ⟨n, h1, h6n, hw, rfl, n1, n2⟩
  · exact ⟨-1, by rw [if_pos e1], by rw [if_pos e2], hM⟩
  rw [if_neg n1, if_neg n2, f_h_nightsHeld]
  let d : Nat → Nat := fun i => bd (min nt 20 - n + i)
  let S : Nat → Bool := fun i => !decide (bh (min nt 20 - n + i) = 0)
  have hd : ∀ i, i < n → d i ≤ 100 := fun i hi => h.bdl (by omega)
  have k1 : f_h_nightsHeld_4 N N (nI n) 0 0 M = some (nI (bset S n)) := by
    refine run_loop (fun k a i => f_h_nightsHeld_4 N k (nI n) a i M) (fun i => nI (bset S i)) _ n (fun k => ?_) (fun k i hi => ?_) N 0 (by omega) (by omega)
    · show f_h_nightsHeld_4 N (k + 1) _ _ _ M = _
      rw [f_h_nightsHeld_4, if_pos (nI_le (Nat.le_refl _) (by omega))]
    · show f_h_nightsHeld_4 N (k + 1) _ _ _ M = f_h_nightsHeld_4 N k _ (nI (bset S i ||| if (!decide (bh (min nt 20 - n + i) = 0)) = true then 2 ^ i else 0)) _ M
      have hb := h.bhl (show min nt 20 - n + i < min nt 20 by omega)
      rw [f_h_nightsHeld_4, if_neg (nI_ge hi (by omega)), f_h_heirsOfLatest, h.wrt, nI_sub hw, nI_add, h.pg (by omega), Option.bind_some, Option.bind_some, h.ph (by omega), one_shl (by omega), fa_or, nI_1, Int32.or_zero]
      by_cases q : bh (min nt 20 - n + i) = 0
      · rw [if_pos (by rw [q]; rfl), if_neg (by simp [q]), Nat.or_zero]
      · rw [if_neg (nI_ne0 (by omega) (by omega)), if_pos (by simp [q])]
  have hS : bset S n < 256 := Nat.lt_of_lt_of_le (bset_lt S n) (p2_le (by omega))
  have hdy : dy d (fun i => (bset S n).testBit i) n = sm (fun i => if S i = true then tm d n i else 0) n := by
    rw [dy_sm]
    apply sm_congr
    intro i hi
    show (if (bset S n).testBit i = true then tm d n i else 0) = _
    rw [bset_tb]
    simp [hi]
  have hle := dy_le (d := d) (S := fun i => (bset S n).testBit i) hd
  have h100 := h6 h6n
  have h100p : 0 < 100 ^ n := Nat.pow_pos (by decide)
  obtain ⟨v, v1, v2⟩ := low_eqN (M := M) (x4 := y) hN (a := 100 ^ n - sm (fun i => if S i = true then tm d n i else 0) n) (b := 100 ^ n) (by omega) (by omega) (by omega)
  have hle2 : sm (fun i => if S i = true then tm d n i else 0) n ≤ 100 ^ n := by omega
  refine ⟨v, ?_, ?_, hM⟩
  · rw [k1, Option.bind_some, c_hun hN (by omega), Option.bind_some, h.dying hN h6n hw hS, Option.bind_some, Option.bind_some, show (fun i => bd (min nt 20 - n + i)) = d from rfl, hdy, lN_sub hle2, v1, Option.bind_some]
  · rw [r_hun hN (by omega), Option.bind_some]
    refine run_loop (fun k a i => f_m_open_20 N k (nI n) y a i M) (fun i => lN (100 ^ n - sm (fun i => if S i = true then tm d n i else 0) i)) _ n (fun k => ?_) (fun k i hi => ?_) N 0 (by omega) (by omega)
    · show f_m_open_20 N (k + 1) _ _ _ _ M = _
      rw [f_m_open_20, if_pos (nI_le (Nat.le_refl _) (by omega)), r_hun hN (by omega), Option.bind_some, v2, Option.bind_some]
    · show f_m_open_20 N (k + 1) _ _ _ _ M = f_m_open_20 N k _ _ (lN (100 ^ n - (sm (fun i => if S i = true then tm d n i else 0) i + if (!decide (bh (min nt 20 - n + i) = 0)) = true then tm d n i else 0))) _ M
      have hb := h.bhl (show min nt 20 - n + i < min nt 20 by omega)
      have hmo : sm (fun i => if S i = true then tm d n i else 0) (i + 1) ≤ sm (fun i => if S i = true then tm d n i else 0) n := sm_mono (by omega)
      have hm1 : sm (fun i => if S i = true then tm d n i else 0) (i + 1) = sm (fun i => if S i = true then tm d n i else 0) i + (if (!decide (bh (min nt 20 - n + i) = 0)) = true then tm d n i else 0) := rfl
      rw [f_m_open_20, if_neg (nI_ge hi (by omega)), h.shown, nI_sub hw, nI_add, h.held (by omega), Option.bind_some, h.rdies hN h6n hw hi, Option.bind_some, nI_1]
      by_cases q : bh (min nt 20 - n + i) = 0
      · rw [if_pos (by rw [q]; rfl), if_neg (by simp [q])] <;> rfl
      · have q' : (!decide (bh (min nt 20 - n + i) = 0)) = true := by simp [q]
        rw [if_pos q'] at hm1
        rw [if_neg (nI_ne0 (by omega) (by omega)), if_pos q', lN_sub (by show tm d n i ≤ _; omega), Nat.sub_sub]
theorem o_20 (_hX : XC X) (hN : 4000 ≤ N) : O_20 (Inv X) (Inv X) N := by
  intro M a b z y hM hy
  obtain ⟨c, nt, mo, dr, gn, sp, lm, lw, lk, lf, bh, bd, h⟩ := hM.cx
  have hc := h.c8
  unfold f_w_thatNight f_m_thatNight
  rw [isIn_eq z _ _ M M]
  rcases h.scase a with ⟨e1, e2⟩ | ⟨s, hs, rfl, n1, n2⟩
  · refine ⟨-1, ?_, by rw [if_pos e2], hM⟩
    rw [if_pos e1]
    split <;> rfl
  rw [if_neg n1, if_neg n2]
  by_cases hs0 : nI s = 0
  · exact ⟨-1, by rw [if_pos hs0], by rw [if_pos hs0], hM⟩
  rw [if_neg hs0, if_neg hs0]
  have hs2 : s < 256 := Nat.lt_of_lt_of_le hs (p2_le hc)
  rcases h.ncase b with ⟨e1, e2⟩ | ⟨n, h1, h6n, hw, rfl, n1, n2⟩
  · exact ⟨-1, by rw [if_pos e1], by rw [if_pos e2], hM⟩
  rw [if_neg n1, if_neg n2]
  by_cases hz : f_w_within z 0 (nI n - 1) M = 0
  · exact ⟨-1, by rw [if_pos hz], by rw [if_pos hz], hM⟩
  rw [if_neg hz, if_neg hz]
  obtain ⟨k, hk, rfl⟩ := (below_iff M (by omega)).mp hz
  let d : Nat → Nat := fun i => bd (min nt 20 - n + i)
  let S : Nat → Bool := fun i => decide (bh (min nt 20 - n + i) = s)
  have hd : ∀ i, i < n → d i ≤ 100 := fun i hi => h.bdl (by omega)
  have hS : bset S n < 256 := Nat.lt_of_lt_of_le (bset_lt S n) (p2_le (by omega))
  have hSk : bset S n &&& 2 ^ k < 256 := Nat.lt_of_le_of_lt Nat.and_le_left hS
  let A : Nat → Nat := fun i => if S i = true then tm d n i else 0
  let B : Nat → Nat := fun i => if S i = true then (if i = k then tm d n i else 0) else 0
  have hA : dy d (fun i => (bset S n).testBit i) n = sm A n := by
    rw [dy_sm]
    apply sm_congr
    intro i hi
    show (if (bset S n).testBit i = true then tm d n i else 0) = (if S i = true then tm d n i else 0)
    rw [bset_tb]
    simp [hi]
  have hB : dy d (fun i => (bset S n &&& 2 ^ k).testBit i) n = sm B n := by
    rw [dy_sm]
    apply sm_congr
    intro i hi
    show (if (bset S n &&& 2 ^ k).testBit i = true then tm d n i else 0) = (if S i = true then (if i = k then tm d n i else 0) else 0)
    rw [Nat.testBit_and, bset_tb, Nat.testBit_two_pow]
    by_cases q : S i = true
    · by_cases e : i = k
      · subst e; simp [hi, q]
      · have e' : ¬ k = i := fun x => e x.symm
        simp [hi, q, e, e']
    · simp [q]
  have hle := dy_le (d := d) (S := fun i => (bset S n).testBit i) hd
  have hle2 := dy_le (d := d) (S := fun i => (bset S n &&& 2 ^ k).testBit i) hd
  have h100 := h6 h6n
  rw [c_nights h hN hw hs2, Option.bind_some, one_shl (by omega), fa_and]
  show ∃ v, (Option.bind (f_h_dyingIn N (nI n) (nI (bset S n)) M) fun q2 => if (0 : Int32) < lg_cmp q2 (0 : Int64) then Option.bind (f_h_dyingIn N (nI n) (nI (bset S n &&& 2 ^ k)) M) fun q3 => Option.bind (f_w_lowest N q3 q2 y M) fun q4 => some q4 else some (-1 : Int64)) = some v ∧ _ ∧ _
  rw [h.dying hN h6n hw hS, Option.bind_some, h.dying hN h6n hw hSk, Option.bind_some, show (fun i => bd (min nt 20 - n + i)) = d from rfl, hA, hB]
  have stp : ∀ o, (∀ f, f_m_thatNight_44 N (f + 1) (nI s) (nI n) (nI k) y (lN (sm A n)) (lN (sm B n)) (nI n) M = o) → f_m_thatNight_44 N N (nI s) (nI n) (nI k) y 0 0 0 M = o := by
    intro o ho
    refine run_loop (fun f (u : Int64 × Int64) i => f_m_thatNight_44 N f (nI s) (nI n) (nI k) y u.1 u.2 i M) (fun i => (lN (sm A i), lN (sm B i))) o n ho (fun f i hi => ?_) N 0 (by omega) (by omega)
    show f_m_thatNight_44 N (f + 1) _ _ _ _ (lN (sm A i)) (lN (sm B i)) _ M = f_m_thatNight_44 N f _ _ _ _ (lN (sm A i + if decide (bh (min nt 20 - n + i) = s) = true then tm d n i else 0)) (lN (sm B i + if decide (bh (min nt 20 - n + i) = s) = true then (if i = k then tm d n i else 0) else 0)) _ M
    have hb := h.bhl (show min nt 20 - n + i < min nt 20 by omega)
    rw [f_m_thatNight_44, if_neg (nI_ge hi (by omega)), h.shown, nI_sub hw, nI_add, h.held (by omega), Option.bind_some, h.rdies hN h6n hw hi, Option.bind_some, Option.bind_some, nI_1, Int64.add_zero, lN_add, lN_add]
    by_cases q : bh (min nt 20 - n + i) = s
    · have dq : decide (bh (min nt 20 - n + i) = s) = true := by simp [q]
      rw [if_pos (show nI (bh (min nt 20 - n + i)) = nI s by rw [q]), if_pos dq, if_pos dq]
      by_cases e : i = k
      · rw [if_pos (show nI i = nI k by rw [e]), if_pos e]
      · rw [if_neg (show ¬ nI i = nI k from fun x => e ((nI_eq (by omega) (by omega)).mp x)), if_neg e] <;> rfl
    · have dq : ¬ decide (bh (min nt 20 - n + i) = s) = true := by simp [q]
      rw [if_neg (show ¬ nI (bh (min nt 20 - n + i)) = nI s from fun e => q ((nI_eq (by omega) (by omega)).mp e)), if_neg dq, if_neg dq] <;> rfl
  by_cases hz0 : sm A n = 0
  · refine ⟨-1, ?_, stp _ (fun f => ?_), hM⟩
    · rw [if_neg]
      rw [lg_cmp_gt, hz0]
      decide
    · rw [f_m_thatNight_44, if_pos (nI_le (Nat.le_refl _) (by omega)), if_pos ((lz (by omega)).mpr hz0)]
  · obtain ⟨v, v1, v2⟩ := low_eqN (M := M) (x4 := y) hN (a := sm B n) (b := sm A n) (by omega) (by omega) (by omega)
    refine ⟨v, ?_, stp _ (fun f => ?_), hM⟩
    · rw [if_pos, v1, Option.bind_some]
      rw [lg_cmp_gt]
      exact (pk_lLT (a := 0) (by decide) (by omega)).mpr (by omega)
    · rw [f_m_thatNight_44, if_pos (nI_le (Nat.le_refl _) (by omega)), if_neg (fun q => hz0 ((lz (by omega)).mp q)), v2, Option.bind_some]
theorem o_30 (_hX : XC X) (hN : 4000 ≤ N) : O_30 (Inv X) (Inv X) N := by
  intro M y hM hy
  obtain ⟨c, nt, mo, dr, gn, sp, lm, lw, lk, lf, bh, bd, h⟩ := hM.cx
  unfold f_w_meanDies f_m_meanDies
  rw [h.wrt, h.shown]
  by_cases hz : min nt 20 = 0
  · rw [hz]
    exact ⟨-1, by rw [if_neg (by decide)], by rw [if_pos (by decide)], hM⟩
  rw [if_pos (show (0 : Int32) < nI (min nt 20) from nI_lt (a := 0) (by omega) (by omega)), if_neg (nI_ne0 (by omega) (by omega))]
  have hsl : ∀ i, i ≤ min nt 20 → sm bd i ≤ 100 * i := by
    intro i
    induction i with
    | zero => intro _; exact Nat.le_refl _
    | succ i ih =>
      intro hi
      have := h.bdl (show i < min nt 20 by omega)
      have := ih (by omega)
      show sm bd i + bd i ≤ _
      omega
  have hl := hsl (min nt 20) (Nat.le_refl _)
  obtain ⟨v, v1, v2⟩ := low_eqN (M := M) (x4 := y) hN (a := sm bd (min nt 20)) (b := min nt 20) (by omega) (by omega) (by omega)
  refine ⟨v.toInt32, ?_, ?_, hM⟩
  · refine run_loop (fun k a i => f_w_meanDies_22 N k y (nI (min nt 20)) a i M) (fun i => nI (sm bd i)) _ (min nt 20) (fun k => ?_) (fun k i hi => ?_) N 0 (by omega) (by omega)
    · show f_w_meanDies_22 N (k + 1) _ _ _ _ M = _
      rw [f_w_meanDies_22, if_pos (nI_le (Nat.le_refl _) (by omega)), nI_l (by omega), nI_l (by omega), v1, Option.bind_some]
    · show f_w_meanDies_22 N (k + 1) _ _ _ _ M = f_w_meanDies_22 N k _ _ (nI (sm bd i + bd i)) _ M
      rw [f_w_meanDies_22, if_neg (nI_ge hi (by omega)), h.pg hi, Option.bind_some, h.pd hi, nI_add, nI_1]
  · refine run_loop (fun k a i => f_m_meanDies_13 N k y a i M) (fun i => nI (sm bd i)) _ (min nt 20) (fun k => ?_) (fun k i hi => ?_) N 0 (by omega) (by omega)
    · show f_m_meanDies_13 N (k + 1) _ _ _ M = _
      rw [f_m_meanDies_13, if_pos h.esh, h.shown, nI_l (by omega), nI_l (by omega), v2, Option.bind_some]
    · show f_m_meanDies_13 N (k + 1) _ _ _ M = f_m_meanDies_13 N k _ (nI (sm bd i + bd i)) _ M
      rw [f_m_meanDies_13, if_neg (h.nsh hi), h.died hi, Option.bind_some, nI_add, nI_1]
end OPS4
