/-! What is asked of the book. -/
section BK
variable {M Mr Mc : Mem} {c nt mo dr gn sp : Nat} {lm lw lk lf bh bd : Nat → Nat}
theorem Cx.pg (_h : Cx M Mr c nt mo dr gn sp lm lw lk lf bh bd) {j : Nat} (hj : j < min nt 20) : f_e_page (nI j) M = some (M.1 12 (46 + j)) := by
  unfold f_e_page
  rw [if_neg (nI_pos (by omega)), if_neg (show ¬ (20 : Int32) ≤ nI j from nI_ge (b := 20) (by omega) (by decide)), show (46 : Int32) + nI j = nI (46 + j) from nI_add 46 j, if_pos (am_in_nI (by omega) (by decide)), nI_clamp (by omega)]
  rfl
theorem Cx.bhl (h : Cx Mc Mr c nt mo dr gn sp lm lw lk lf bh bd) {j : Nat} (hj : j < min nt 20) : bh j < 256 := (h.B j hj).2.2.1
theorem Cx.bdl (h : Cx Mc Mr c nt mo dr gn sp lm lw lk lf bh bd) {j : Nat} (hj : j < min nt 20) : bd j ≤ 100 := (h.B j hj).2.2.2
theorem Cx.pn (h : Cx M Mr c nt mo dr gn sp lm lw lk lf bh bd) {j : Nat} (hj : j < min nt 20) (M' : Mem) : f_e_nightOf (M.1 12 (46 + j)) M' = nI (nt - min nt 20 + j) := by
  have := h.bhl hj
  have := h.bdl hj
  have := h.nt999
  rw [(h.B j hj).1, f_e_nightOf, pkA (by omega) 10 (by decide)]
  congr 1
  omega
theorem Cx.ph (h : Cx M Mr c nt mo dr gn sp lm lw lk lf bh bd) {j : Nat} (hj : j < min nt 20) (M' : Mem) : f_e_heirsOf (M.1 12 (46 + j)) M' = nI (bh j) := by
  have := h.bhl hj
  have := h.bdl hj
  have := h.nt999
  rw [(h.B j hj).1, f_e_heirsOf, pk_shrN (by omega) 10 10 (by decide), pkA (by have := Nat.div_le_self (nt - min nt 20 + j + 1024 * bh j + 262144 * bd j) (2 ^ 10); omega) 8 (by decide)]
  congr 1
  omega
theorem Cx.pd (h : Cx M Mr c nt mo dr gn sp lm lw lk lf bh bd) {j : Nat} (hj : j < min nt 20) (M' : Mem) : f_e_diesOf (M.1 12 (46 + j)) M' = nI (bd j) := by
  have := h.bhl hj
  have := h.bdl hj
  have := h.nt999
  rw [(h.B j hj).1, f_e_diesOf, pk_shrN (by omega) 18 18 (by decide)]
  congr 1
  omega
theorem Cx.shown (h : Cx Mc M c nt mo dr gn sp lm lw lk lf bh bd) : f_m_shown M = nI (min nt 20) := by
  have := h.nt999
  unfold f_m_shown
  rw [show gi M 130 9 = nI nt from h.wr130]
  by_cases q : 20 ≤ nt
  · rw [if_pos (show (20 : Int32) ≤ nI nt from nI_le (a := 20) q (by omega)), Nat.min_eq_right q]
    rfl
  · rw [if_neg (show ¬ (20 : Int32) ≤ nI nt from nI_ge (b := 20) (by omega) (by decide)), Nat.min_eq_left (by omega)]
theorem Cx.ent (h : Cx Mc M c nt mo dr gn sp lm lw lk lf bh bd) {j : Nat} (hj : j < min nt 20) : f_m_entry (nI j) M = some (nI (((nt - min nt 20 + j) * 256 + bh j) * 128 + bd j)) := by
  have := h.nt999
  unfold f_m_entry
  rw [h.shown, show gi M 130 9 = nI nt from h.wr130, nI_sub (by omega), nI_add, show (1300 : Int32) = nI 1300 from rfl, pk_rem (by omega) (by decide) (by decide), Nat.mod_eq_of_lt (by omega), show (2526 : Int32) + nI (nt - min nt 20 + j) = nI (2526 + (nt - min nt 20 + j)) from nI_add 2526 _, if_pos (am_in_nI (by omega) (by decide)), nI_clamp (by omega)]
  exact congrArg some (h.B j hj).2.1
theorem Cx.held (h : Cx Mc M c nt mo dr gn sp lm lw lk lf bh bd) {j : Nat} (hj : j < min nt 20) : f_m_heldIn (nI j) M = some (nI (bh j)) := by
  have := h.bhl hj
  have := h.bdl hj
  have := h.nt999
  unfold f_m_heldIn
  rw [h.ent hj, Option.bind_some, show (128 : Int32) = nI 128 from rfl, show (256 : Int32) = nI 256 from rfl, pk_div (by omega) (by decide) (by decide), pk_rem (by omega) (by decide) (by decide)]
  congr 2
  omega
theorem Cx.died (h : Cx Mc M c nt mo dr gn sp lm lw lk lf bh bd) {j : Nat} (hj : j < min nt 20) : f_m_diedIn (nI j) M = some (nI (bd j)) := by
  have := h.bhl hj
  have := h.bdl hj
  have := h.nt999
  unfold f_m_diedIn
  rw [h.ent hj, Option.bind_some, show (128 : Int32) = nI 128 from rfl, pk_rem (by omega) (by decide) (by decide)]
  congr 2
  omega
theorem Cx.wrt (h : Cx M Mr c nt mo dr gn sp lm lw lk lf bh bd) : f_e_written M = nI (min nt 20) := h.wr12
theorem Cx.nwr (h : Cx M Mr c nt mo dr gn sp lm lw lk lf bh bd) {i : Nat} (hi : i < min nt 20) : ¬ f_e_written M ≤ nI i := by
  rw [h.wrt]
  exact nI_ge hi (by omega)
theorem Cx.ewr (h : Cx M Mr c nt mo dr gn sp lm lw lk lf bh bd) : f_e_written M ≤ nI (min nt 20) := by
  rw [h.wrt]
  exact nI_le (Nat.le_refl _) (by omega)
theorem Cx.nsh (h : Cx Mc M c nt mo dr gn sp lm lw lk lf bh bd) {i : Nat} (hi : i < min nt 20) : ¬ f_m_shown M ≤ nI i := by
  rw [h.shown]
  exact nI_ge hi (by omega)
theorem Cx.esh (h : Cx Mc M c nt mo dr gn sp lm lw lk lf bh bd) : f_m_shown M ≤ nI (min nt 20) := by
  rw [h.shown]
  exact nI_le (Nat.le_refl _) (by omega)
end BK
section OPS3
variable {X : (Nat → Nat → Int32) → Nat → Prop} {N : Nat}
theorem o_17 (_hX : XC X) (hN : 4000 ≤ N) : O_17 (Inv X) (Inv X) N := by
  intro M a b hM
  obtain ⟨c, nt, mo, dr, gn, sp, lm, lw, lk, lf, bh, bd, h⟩ := hM.cx
  have := h.nt999
  unfold f_w_book f_m_book
  rw [h.wrt, h.shown, isIn_eq a _ _ M M]
  by_cases h1 : a = -1
  · exact ⟨_, by rw [if_pos h1], by rw [if_pos h1], hM⟩
  rw [if_neg h1, if_neg h1]
  by_cases h2 : f_w_within a 0 (nI (min nt 20) - 1) M = 0
  · exact ⟨-2, by rw [if_pos h2], by rw [if_pos h2], hM⟩
  obtain ⟨j, hj, rfl⟩ := (below_iff M (by omega)).mp h2
  have := h.bhl hj
  have := h.bdl hj
  rw [if_neg h2, if_neg h2, h.pg hj, Option.bind_some, h.pn hj, h.ph hj, h.pd hj, h.ent hj, h.held hj, h.died hj, Option.bind_some, Option.bind_some, Option.bind_some, show (32768 : Int32) = nI 32768 from rfl, pk_div (by omega) (by decide) (by decide), show (((nt - min nt 20 + j) * 256 + bh j) * 128 + bd j) / 32768 = nt - min nt 20 + j by omega]
  by_cases b0 : b = 0
  · exact ⟨_, by rw [if_pos b0], by rw [if_pos b0], hM⟩
  by_cases b1 : b = 1
  · exact ⟨_, by rw [if_neg b0, if_pos b1], by rw [if_neg b0, if_pos b1], hM⟩
  by_cases b2 : b = 2
  · exact ⟨_, by rw [if_neg b0, if_neg b1, if_pos b2], by rw [if_neg b0, if_neg b1, if_pos b2], hM⟩
  · exact ⟨_, by rw [if_neg b0, if_neg b1, if_neg b2], by rw [if_neg b0, if_neg b1, if_neg b2], hM⟩
theorem o_21 (_hX : XC X) (hN : 4000 ≤ N) : O_21 (Inv X) (Inv X) N := by
  intro M a b hM hb
  obtain ⟨c, nt, mo, dr, gn, sp, lm, lw, lk, lf, bh, bd, h⟩ := hM.cx
  have hc := h.c8
  unfold f_w_tally f_m_tally
  rcases h.gcase a with ⟨e1, e2⟩ | ⟨g, hg, rfl, n1, n2⟩
  · exact ⟨-1, by rw [if_pos e1], by rw [if_pos e2], hM⟩
  rw [if_neg n1, if_neg n2, one_shl (by omega), f_h_nightsOf]
  have h2g : 2 ^ g < 256 := Nat.pow_lt_pow_right (m := g) (n := 8) (by decide) (by omega)
  let p : Nat → Bool := fun i => if b = 0 then (bh i).testBit g else decide (bh i = 2 ^ g)
  have k1 : f_h_nightsOf_5 N N (nI (2 ^ g)) b 0 0 M = some (nI (ct p (min nt 20))) := by
    refine run_loop (fun n a i => f_h_nightsOf_5 N n (nI (2 ^ g)) b a i M) (fun i => nI (ct p i)) _ (min nt 20) (fun n => ?_) (fun n i hi => ?_) N 0 (by omega) (by omega)
    · show f_h_nightsOf_5 N (n + 1) _ _ _ _ M = _
      rw [f_h_nightsOf_5, if_pos h.ewr]
    · show f_h_nightsOf_5 N (n + 1) _ _ _ _ M = f_h_nightsOf_5 N n _ _ (nI (ct p i + if p i = true then 1 else 0)) _ M
      have := h.bhl hi
      rw [f_h_nightsOf_5, if_neg (h.nwr hi), h.pg hi, Option.bind_some, h.ph hi, nI_1, nI_1]
      by_cases b0 : b = 0
      · rw [if_pos b0, show p i = (bh i).testBit g from if_pos b0]
        by_cases q : (bh i).testBit g = true
        · rw [if_neg (fun e => by rw [(tbm this (by omega)).mp e] at q; cases q), if_pos q]
        · rw [if_pos ((tbm this (by omega)).mpr (by simpa using q)), if_neg q] <;> rfl
      · rw [if_neg b0, show p i = decide (bh i = 2 ^ g) from if_neg b0]
        by_cases q : bh i = 2 ^ g
        · rw [if_pos (by rw [q]), if_pos (by simp [q])]
        · rw [if_neg (fun e => q ((nI_eq (by omega) (by omega)).mp e)), if_neg (by simp [q])] <;> rfl
  refine ⟨_, by rw [k1, Option.bind_some], ?_, hM⟩
  refine run_loop (fun n a i => f_m_tally_15 N n (nI g) b a i M) (fun i => nI (ct p i)) _ (min nt 20) (fun n => ?_) (fun n i hi => ?_) N 0 (by omega) (by omega)
  · show f_m_tally_15 N (n + 1) _ _ _ _ M = _
    rw [f_m_tally_15, if_pos h.esh]
  · show f_m_tally_15 N (n + 1) _ _ _ _ M = f_m_tally_15 N n _ _ (nI (ct p i + if p i = true then 1 else 0)) _ M
    have := h.bhl hi
    rw [f_m_tally_15, if_neg (h.nsh hi), h.held hi, Option.bind_some, Option.bind_some, nI_1, nI_1, Int32.add_zero, one_shl (by omega), tb this (by omega)]
    by_cases b0 : b = 0
    · rw [if_pos b0, show p i = (bh i).testBit g from if_pos b0]
      by_cases q : (bh i).testBit g = true
      · rw [if_pos q, if_pos q, nI_1]
      · rw [if_neg q, if_neg q, Int32.add_zero] <;> rfl
    · rw [if_neg b0, show p i = decide (bh i = 2 ^ g) from if_neg b0]
      by_cases q : bh i = 2 ^ g
      · rw [if_pos (by rw [q]), if_pos (by simp [q])]
      · rw [if_neg (fun e => q ((nI_eq (by omega) (by omega)).mp e)), if_neg (by simp [q])] <;> rfl
theorem shl20 : ∀ i, i < 31 → (1 : Int32) <<< (nI i &&& 31) = nI (2 ^ i) := by decide +kernel
/-- the class's nights of a set, of the latest k -/
theorem c_nights {M Mr : Mem} {c nt mo dr gn sp : Nat} {lm lw lk lf bh bd : Nat → Nat} (h : Cx M Mr c nt mo dr gn sp lm lw lk lf bh bd) (hN : 4000 ≤ N) {k s : Nat} (hk : k ≤ min nt 20) (hs : s < 256) : f_h_nightsHeldBy N (nI k) (nI s) M = some (nI (bset (fun i => decide (bh (min nt 20 - k + i) = s)) k)) := by
  rw [f_h_nightsHeldBy]
  refine run_loop (fun n a i => f_h_nightsHeldBy_5 N n (nI k) (nI s) a i M) (fun i => nI (bset (fun i => decide (bh (min nt 20 - k + i) = s)) i)) _ k (fun n => ?_) (fun n i hi => ?_) N 0 (by omega) (by omega)
  · show f_h_nightsHeldBy_5 N (n + 1) _ _ _ _ M = _
    rw [f_h_nightsHeldBy_5, if_pos (nI_le (Nat.le_refl _) (by omega))]
  · show f_h_nightsHeldBy_5 N (n + 1) _ _ _ _ M = f_h_nightsHeldBy_5 N n _ _ (nI (bset (fun i => decide (bh (min nt 20 - k + i) = s)) i ||| if decide (bh (min nt 20 - k + i) = s) = true then 2 ^ i else 0)) _ M
    have hj : min nt 20 - k + i < min nt 20 := by omega
    have := h.bhl hj
    rw [f_h_nightsHeldBy_5, if_neg (nI_ge hi (by omega)), f_h_heirsOfLatest, h.wrt, nI_sub hk, nI_add, h.pg hj, Option.bind_some, Option.bind_some, h.ph hj, shl20 i (by omega), fa_or, nI_1, Int32.or_zero]
    by_cases q : bh (min nt 20 - k + i) = s
    · rw [if_pos (by rw [q]), if_pos (by simp [q])]
    · rw [if_neg (fun e => q ((nI_eq (by omega) (by omega)).mp e)), if_neg (by simp [q]), Nat.or_zero]
theorem o_23 (_hX : XC X) (hN : 4000 ≤ N) : O_23 (Inv X) (Inv X) N := by
  intro M a hM
  obtain ⟨c, nt, mo, dr, gn, sp, lm, lw, lk, lf, bh, bd, h⟩ := hM.cx
  have hc := h.c8
  unfold f_w_which f_m_which
  rcases h.scase a with ⟨e1, e2⟩ | ⟨s, hs, rfl, n1, n2⟩
  · exact ⟨-1, by rw [if_pos e1], by rw [if_pos e2], hM⟩
  have hs2 : s < 256 := Nat.lt_of_lt_of_le hs (p2_le hc)
  refine ⟨_, by rw [if_neg n1, h.wrt, c_nights h hN (Nat.le_refl _) hs2, Option.bind_some], ?_, hM⟩
  rw [if_neg n2, Nat.sub_self]
  refine run_loop (fun n a i => f_m_which_14 N n (nI s) a i M) (fun i => nI (bset (fun i => decide (bh (0 + i) = s)) i)) _ (min nt 20) (fun n => ?_) (fun n i hi => ?_) N 0 (by omega) (by omega)
  · show f_m_which_14 N (n + 1) _ _ _ M = _
    rw [f_m_which_14, if_pos h.esh]
  · show f_m_which_14 N (n + 1) _ _ _ M = f_m_which_14 N n _ (nI (bset (fun i => decide (bh (0 + i) = s)) i ||| if decide (bh (0 + i) = s) = true then 2 ^ i else 0)) _ M
    have := h.bhl hi
    rw [f_m_which_14, if_neg (h.nsh hi), h.held hi, Option.bind_some, shl20 i (by omega), fa_or, nI_1, Int32.or_zero, Nat.zero_add]
    by_cases q : bh i = s
    · rw [if_pos (by rw [q]), if_pos (by simp [q])]
    · rw [if_neg (fun e => q ((nI_eq (by omega) (by omega)).mp e)), if_neg (by simp [q]), Nat.or_zero]
/-! The longest run. -/
def cr (b : Nat → Nat) (w s : Nat) : Nat → Nat → Nat
  | 0, _ => 0
  | n + 1, j => if j < w ∧ b j = s then cr b w s n (j + 1) + 1 else 0
def rr (b : Nat → Nat) (w i : Nat) : Nat := cr b w (b i) (w - i) i
theorem cr_le (b : Nat → Nat) (w s : Nat) : ∀ n j, cr b w s n j ≤ n
  | 0, _ => Nat.le_refl _
  | n + 1, j => by
    unfold cr
    split
    · have := cr_le b w s n (j + 1); omega
    · omega
theorem cr_end (b : Nat → Nat) (w s : Nat) : ∀ n j k, j + n = w → k ≤ n → (∀ i, j ≤ i → i < j + k → b i = s) → (k = n ∨ b (j + k) ≠ s) → cr b w s n j = k
  | 0, j, k, _, hk, _, _ => by
    have : k = 0 := by omega
    subst this
    rfl
  | n + 1, j, k, hn, hk, ha, he => by
    unfold cr
    cases k with
    | zero =>
      rw [if_neg]
      rintro ⟨-, q⟩
      rcases he with e | e
      · omega
      · exact e q
    | succ k =>
      rw [if_pos ⟨by omega, ha j (by omega) (by omega)⟩, cr_end b w s n (j + 1) k (by omega) (by omega) (fun i h1 h2 => ha i (by omega) (by omega)) (by rcases he with e | e; exact Or.inl (by omega); exact Or.inr (by rw [show j + 1 + k = j + (k + 1) by omega]; exact e))]
/-- how long it goes on is the same wherever one counts from -/
theorem cr_sub (b : Nat → Nat) (w s : Nat) : ∀ n j k, j + n = w → k ≤ n → (∀ i, j ≤ i → i < j + k → b i = s) → cr b w s n j = cr b w s (n - k) (j + k) + k
  | n, j, 0, _, _, _ => rfl
  | n + 1, j, k + 1, hn, hk, ha => by
    rw [show n + 1 - (k + 1) = n - k by omega, show j + (k + 1) = j + 1 + k by omega]
    have := cr_sub b w s n (j + 1) k (by omega) (by omega) (fun i h1 h2 => ha i (by omega) (by omega))
    show (if j < w ∧ b j = s then cr b w s n (j + 1) + 1 else 0) = _
    rw [if_pos ⟨by omega, ha j (by omega) (by omega)⟩, this]
    omega
  | 0, j, k + 1, _, hk, _ => by omega
def lc (b : Nat → Nat) (w : Nat) : Nat → Nat × Int32
  | 0 => (0, -1)
  | i + 1 => if rr b w i ≤ (lc b w i).1 then lc b w i else (rr b w i, nI (b i))
def ls3 (m : Nat) (f x : Int32) (u : Nat) : Nat × Int32 × Nat := if m < u then (u, x, u) else (m, f, u)
def lr (b : Nat → Nat) : Nat → Nat × Int32 × Nat
  | 0 => (0, -1, 0)
  | i + 1 => ls3 (lr b i).1 (lr b i).2.1 (nI (b i)) (if 0 < i ∧ b i = b (i - 1) then (lr b i).2.2 + 1 else 1)
theorem l_rel (b : Nat → Nat) (w : Nat) : ∀ i, i ≤ w → ∃ s m0 f0, s ≤ i ∧ (∀ j, s ≤ j → j < i → b j = b s) ∧ (s < i ∨ i = 0) ∧ lr b i = (if m0 < i - s then (i - s, nI (b s), i - s) else (m0, f0, i - s)) ∧ lc b w i = (if s < i ∧ m0 < rr b w s then (rr b w s, nI (b s)) else (m0, f0))
  | 0, _ => ⟨0, 0, -1, Nat.le_refl _, fun j h1 h2 => by omega, Or.inr rfl, rfl, rfl⟩
  | i + 1, hi => by
    obtain ⟨s, m0, f0, h1, h2, h3, h4, h5⟩ := l_rel b w i (by omega)
    have hrs : s < i → rr b w s = cr b w (b s) (w - i) i + (i - s) := by
      intro hs
      unfold rr
      rw [cr_sub b w (b s) (w - s) s (i - s) (by omega) (by omega) (fun j a1 a2 => h2 j a1 (by omega)), show w - s - (i - s) = w - i by omega, show s + (i - s) = i by omega]
    by_cases hz : i = 0
    · subst hz
      have hs : s = 0 := by omega
      subst hs
      refine ⟨0, 0, -1, by omega, fun j a1 a2 => by rw [show j = 0 by omega], Or.inl (by omega), rfl, ?_⟩
      show (if rr b w 0 ≤ 0 then ((0 : Nat), (-1 : Int32)) else (rr b w 0, nI (b 0))) = _
      by_cases q : rr b w 0 ≤ 0
      · rw [if_pos q, if_neg (by omega)]
      · rw [if_neg q, if_pos (by omega)]
    · have hsi : s < i := by omega
      have hb1 : b (i - 1) = b s := h2 (i - 1) (by omega) (by omega)
      have hl3 : (lr b i).2.2 = i - s := by rw [h4]; split <;> rfl
      by_cases q : b i = b s
      · refine ⟨s, m0, f0, by omega, fun j a1 a2 => ?_, Or.inl (by omega), ?_, ?_⟩
        · by_cases e : j = i
          · rw [e, q]
          · exact h2 j a1 (by omega)
        · show ls3 (lr b i).1 (lr b i).2.1 (nI (b i)) (if 0 < i ∧ b i = b (i - 1) then (lr b i).2.2 + 1 else 1) = _
          rw [if_pos ⟨by omega, by rw [q, hb1]⟩, hl3, show i - s + 1 = i + 1 - s by omega, q, h4]
          unfold ls3
          by_cases a : m0 < i - s
          · rw [if_pos a, if_pos (by show i - s < _; omega), if_pos (by omega)]
          · rw [if_neg a]
        · show (if rr b w i ≤ (lc b w i).1 then lc b w i else (rr b w i, nI (b i))) = _
          have hri : rr b w i + (i - s) = rr b w s := by
            rw [hrs hsi]
            unfold rr
            rw [q]
          have : rr b w i ≤ (lc b w i).1 := by
            rw [h5]
            split
            · show rr b w i ≤ rr b w s
              omega
            · rename_i hn
              show rr b w i ≤ m0
              omega
          rw [if_pos this, h5]
          by_cases a : m0 < rr b w s
          · rw [if_pos ⟨hsi, a⟩, if_pos ⟨by omega, a⟩]
          · rw [if_neg (by omega), if_neg (by omega)]
      · have hrs2 : rr b w s = i - s := by
          unfold rr
          exact cr_end b w (b s) (w - s) s (i - s) (by omega) (by omega) (fun j a1 a2 => h2 j a1 (by omega)) (Or.inr (by rw [show s + (i - s) = i by omega]; exact q))
        have hrpos : 0 < rr b w i := by
          unfold rr
          rw [show w - i = (w - i - 1) + 1 by omega]
          show 0 < (if i < w ∧ b i = b i then cr b w (b i) (w - i - 1) (i + 1) + 1 else 0)
          rw [if_pos ⟨by omega, rfl⟩]
          omega
        refine ⟨i, (lc b w i).1, (lc b w i).2, by omega, fun j a1 a2 => by rw [show j = i by omega], Or.inl (by omega), ?_, ?_⟩
        · show ls3 (lr b i).1 (lr b i).2.1 (nI (b i)) (if 0 < i ∧ b i = b (i - 1) then (lr b i).2.2 + 1 else 1) = _
          rw [if_neg (fun e => q (e.2.trans hb1)), show i + 1 - i = 1 by omega, h4, h5, hrs2]
          unfold ls3
          by_cases a : m0 < i - s
          · rw [if_pos a, if_pos (show s < i ∧ m0 < i - s from ⟨hsi, a⟩)]
          · rw [if_neg a, if_neg (show ¬ (s < i ∧ m0 < i - s) from fun e => a e.2)]
        · show (if rr b w i ≤ (lc b w i).1 then lc b w i else (rr b w i, nI (b i))) = _
          by_cases a : rr b w i ≤ (lc b w i).1
          · rw [if_pos a, if_neg (by omega)]
          · rw [if_neg a, if_pos (by omega)]
theorem l_same (b : Nat → Nat) (w : Nat) : (lr b w).1 = (lc b w w).1 ∧ (lr b w).2.1 = (lc b w w).2 := by
  obtain ⟨s, m0, f0, h1, h2, h3, h4, h5⟩ := l_rel b w w (Nat.le_refl _)
  have : s < w → rr b w s = w - s := fun hs => by
    unfold rr
    exact cr_end b w (b s) (w - s) s (w - s) (by omega) (Nat.le_refl _) (fun j a1 a2 => h2 j a1 (by omega)) (Or.inl rfl)
  rw [h4, h5]
  by_cases hs : s < w
  · rw [this hs]
    by_cases a : m0 < w - s
    · rw [if_pos a, if_pos ⟨hs, a⟩]; exact ⟨rfl, rfl⟩
    · rw [if_neg a, if_neg (by omega)]; exact ⟨rfl, rfl⟩
  · rw [if_neg (by omega), if_neg (by omega)]; exact ⟨rfl, rfl⟩
theorem rr_le (b : Nat → Nat) (w i : Nat) : rr b w i ≤ w := Nat.le_trans (cr_le _ _ _ _ _) (by omega)
theorem lc_le (b : Nat → Nat) (w : Nat) : ∀ i, (lc b w i).1 ≤ w
  | 0 => Nat.zero_le _
  | i + 1 => by
    show (if rr b w i ≤ (lc b w i).1 then lc b w i else (rr b w i, nI (b i))).1 ≤ w
    split
    · exact lc_le b w i
    · exact rr_le b w i
theorem lr_le (b : Nat → Nat) : ∀ i, (lr b i).1 ≤ i ∧ (lr b i).2.2 ≤ i
  | 0 => ⟨Nat.le_refl _, Nat.le_refl _⟩
  | i + 1 => by
    have := lr_le b i
    have hu : (if 0 < i ∧ b i = b (i - 1) then (lr b i).2.2 + 1 else 1) ≤ i + 1 := by split <;> omega
    show (ls3 (lr b i).1 (lr b i).2.1 (nI (b i)) (if 0 < i ∧ b i = b (i - 1) then (lr b i).2.2 + 1 else 1)).1 ≤ i + 1 ∧ (ls3 (lr b i).1 (lr b i).2.1 (nI (b i)) (if 0 < i ∧ b i = b (i - 1) then (lr b i).2.2 + 1 else 1)).2.2 ≤ i + 1
    unfold ls3
    generalize (if 0 < i ∧ b i = b (i - 1) then (lr b i).2.2 + 1 else 1) = u at hu ⊢
    split
    · exact ⟨hu, hu⟩
    · exact ⟨by show (lr b i).1 ≤ i + 1; omega, hu⟩
theorem c_runFrom {M Mr : Mem} {c nt mo dr gn sp : Nat} {lm lw lk lf bh bd : Nat → Nat} (h : Cx M Mr c nt mo dr gn sp lm lw lk lf bh bd) (hN : 4000 ≤ N) {i : Nat} (hi : i < min nt 20) : f_h_runFrom N (nI i) M = some (nI (rr bh (min nt 20) i)) := by
  have hbi := h.bhl hi
  rw [f_h_runFrom, h.pg hi, Option.bind_some, h.ph hi]
  have gen : ∀ n j k, j ≤ min nt 20 → min nt 20 < j + n → f_h_runFrom_14 N n (nI (bh i)) (nI k) (nI j) M = some (nI (k + cr bh (min nt 20) (bh i) (min nt 20 - j) j)) := by
    intro n
    induction n with
    | zero => intro j k h1 h2; omega
    | succ n ih =>
      intro j k h1 h2
      rw [f_h_runFrom_14]
      by_cases e : j = min nt 20
      · subst e
        rw [if_pos h.ewr, Nat.sub_self]
        rfl
      · have hj : j < min nt 20 := by omega
        have := h.bhl hj
        rw [if_neg (h.nwr hj), h.pg hj, Option.bind_some, h.ph hj, nI_1, nI_1, show min nt 20 - j = (min nt 20 - (j + 1)) + 1 by omega]
        show _ = some (nI (k + if j < min nt 20 ∧ bh j = bh i then cr bh (min nt 20) (bh i) (min nt 20 - (j + 1)) (j + 1) + 1 else 0))
        by_cases q : bh j = bh i
        · rw [if_pos (by rw [q]), if_pos ⟨hj, q⟩, ih (j + 1) (k + 1) (by omega) (by omega)]
          congr 2
          omega
        · rw [if_neg (fun e => q ((nI_eq (by omega) (by omega)).mp e)), if_neg (fun e => q e.2)] <;> rfl
  have := gen N i 0 (by omega) (by omega)
  rw [Nat.zero_add] at this
  exact this
theorem o_22 (_hX : XC X) (hN : 4000 ≤ N) : O_22 (Inv X) (Inv X) N := by
  intro M a hM ha
  obtain ⟨c, nt, mo, dr, gn, sp, lm, lw, lk, lf, bh, bd, h⟩ := hM.cx
  have cl : f_w_longest N a M = some (if a = 0 then nI (lc bh (min nt 20) (min nt 20)).1 else (lc bh (min nt 20) (min nt 20)).2) := by
    unfold f_w_longest
    rcases ha with rfl | rfl
    · rw [if_pos rfl, if_pos rfl, f_h_longestRun]
      have : f_h_longestRun_4 N N 0 0 M = some (nI (lc bh (min nt 20) (min nt 20)).1) := by
        refine run_loop (fun n a i => f_h_longestRun_4 N n a i M) (fun i => nI (lc bh (min nt 20) i).1) _ (min nt 20) (fun n => ?_) (fun n i hi => ?_) N 0 (by omega) (by omega)
        · show f_h_longestRun_4 N (n + 1) _ _ M = _
          rw [f_h_longestRun_4, if_pos h.ewr]
        · show f_h_longestRun_4 N (n + 1) _ _ M = f_h_longestRun_4 N n (nI (if rr bh (min nt 20) i ≤ (lc bh (min nt 20) i).1 then lc bh (min nt 20) i else (rr bh (min nt 20) i, nI (bh i))).1) _ M
          have r1 := rr_le bh (min nt 20) i
          have r2 := lc_le bh (min nt 20) i
          rw [f_h_longestRun_4, if_neg (h.nwr hi), c_runFrom h hN hi, Option.bind_some, nI_1, f_k_max0]
          by_cases q : rr bh (min nt 20) i ≤ (lc bh (min nt 20) i).1
          · rw [if_neg (nI_nlt q (by omega)), if_pos q]
          · rw [if_pos (nI_lt (by omega) (by omega)), if_neg q]
      rw [this, Option.bind_some]
    · rw [if_neg (by decide), if_neg (by decide), f_h_longestSet]
      have : f_h_longestSet_6 N N 0 (-1) 0 M = some (lc bh (min nt 20) (min nt 20)).2 := by
        refine run_loop (fun n (a : Int32 × Int32) i => f_h_longestSet_6 N n a.1 a.2 i M) (fun i => (nI (lc bh (min nt 20) i).1, (lc bh (min nt 20) i).2)) _ (min nt 20) (fun n => ?_) (fun n i hi => ?_) N 0 (by omega) (by omega)
        · show f_h_longestSet_6 N (n + 1) _ _ _ M = _
          rw [f_h_longestSet_6, if_pos h.ewr]
        · show f_h_longestSet_6 N (n + 1) (nI (lc bh (min nt 20) i).1) (lc bh (min nt 20) i).2 _ M = f_h_longestSet_6 N n (nI (if rr bh (min nt 20) i ≤ (lc bh (min nt 20) i).1 then lc bh (min nt 20) i else (rr bh (min nt 20) i, nI (bh i))).1) (if rr bh (min nt 20) i ≤ (lc bh (min nt 20) i).1 then lc bh (min nt 20) i else (rr bh (min nt 20) i, nI (bh i))).2 _ M
          have r1 := rr_le bh (min nt 20) i
          have r2 := lc_le bh (min nt 20) i
          rw [f_h_longestSet_6, if_neg (h.nwr hi), c_runFrom h hN hi, Option.bind_some, nI_1, h.pg hi, Option.bind_some, h.ph hi]
          by_cases q : rr bh (min nt 20) i ≤ (lc bh (min nt 20) i).1
          · rw [if_pos (nI_le q (by omega)), if_pos q]
          · rw [if_neg (nI_ge (by omega) (by omega)), if_neg q]
      rw [this, Option.bind_some]
  refine ⟨_, cl, ?_, hM⟩
  rw [← (l_same bh (min nt 20)).1, ← (l_same bh (min nt 20)).2, f_m_longest]
  refine run_loop (fun n (u : Int32 × Int32 × Int32) i => f_m_longest_10 N n a u.1 u.2.1 u.2.2 i M) (fun i => (nI (lr bh i).1, (lr bh i).2.1, nI (lr bh i).2.2)) _ (min nt 20) (fun n => ?_) (fun n i hi => ?_) N 0 (by omega) (by omega)
  · show f_m_longest_10 N (n + 1) _ _ _ _ _ M = _
    rw [f_m_longest_10, if_pos h.esh]
    by_cases q : a = 0
    · rw [if_pos q, if_pos q]
    · rw [if_neg q, if_neg q]
  · show f_m_longest_10 N (n + 1) a (nI (lr bh i).1) (lr bh i).2.1 (nI (lr bh i).2.2) _ M = f_m_longest_10 N n a (nI (lr bh (i + 1)).1) (lr bh (i + 1)).2.1 (nI (lr bh (i + 1)).2.2) _ M
    have r1 := lr_le bh i
    have hb := h.bhl hi
    have k49 : ∀ u, u ≤ 21 → f_m_longest_49 N (f_m_longest_10 N n) a (nI (lr bh i).1) (lr bh i).2.1 (nI i) (nI u) M = f_m_longest_10 N n a (nI (ls3 (lr bh i).1 (lr bh i).2.1 (nI (bh i)) u).1) (ls3 (lr bh i).1 (lr bh i).2.1 (nI (bh i)) u).2.1 (nI (ls3 (lr bh i).1 (lr bh i).2.1 (nI (bh i)) u).2.2) (nI (i + 1)) M := by
      intro u hu
      unfold ls3
      rw [f_m_longest_49, h.held hi, Option.bind_some, nI_1]
      by_cases q : (lr bh i).1 < u
      · rw [if_pos (nI_lt q (by omega)), if_pos q]
      · rw [if_neg (nI_nlt (by omega) (by omega)), if_neg q]
    have eL : lr bh (i + 1) = ls3 (lr bh i).1 (lr bh i).2.1 (nI (bh i)) (if 0 < i ∧ bh i = bh (i - 1) then (lr bh i).2.2 + 1 else 1) := rfl
    rw [f_m_longest_10, if_neg (h.nsh hi), eL]
    by_cases hz : i = 0
    · subst hz
      rw [if_pos (show nI 0 ≤ (0 : Int32) by decide), if_neg (by omega)]
      exact k49 1 (by omega)
    · have hb' := h.bhl (show i - 1 < min nt 20 by omega)
      rw [if_neg (show ¬ nI i ≤ (0 : Int32) from nI_nle (by omega) (by omega)), h.held hi, Option.bind_some, show nI i - (1 : Int32) = nI (i - 1) by rw [show (1 : Int32) = nI 1 from rfl, nI_sub (by omega)], h.held (by omega), Option.bind_some]
      by_cases q : bh i = bh (i - 1)
      · rw [if_pos (by rw [q]), if_pos ⟨by omega, q⟩, nI_1]
        exact k49 _ (by omega)
      · rw [if_neg (fun e => q ((nI_eq (by omega) (by omega)).mp e)), if_neg (fun e => q e.2)]
        exact k49 1 (by omega)
end OPS3
