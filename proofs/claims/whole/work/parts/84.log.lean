/-! The log, on both sides. -/
theorem run_loop {α β : Type} (F : Nat → α → Int32 → Option β) (I : Nat → α) (o : Option β) (sp : Nat) (hend : ∀ n, F (n + 1) (I sp) (nI sp) = o) (hstep : ∀ n i, i < sp → F (n + 1) (I i) (nI i) = F n (I (i + 1)) (nI (i + 1))) : ∀ n i, i ≤ sp → sp < i + n → F n (I i) (nI i) = o := by
  intro n
  induction n with
  | zero => intro i h1 h2; omega
  | succ n ih =>
    intro i h1 h2
    by_cases h : i = sp
    · subst h; exact hend n
    · rw [hstep n i (by omega)]
      exact ih (i + 1) (by omega) (by omega)
theorem fa_or (a b : Nat) : nI a ||| nI b = nI (a ||| b) := by
  apply Int32.toBitVec_inj.1
  show BitVec.ofNat 32 a ||| BitVec.ofNat 32 b = BitVec.ofNat 32 (a ||| b)
  apply BitVec.eq_of_getLsbD_eq
  intro i hi
  simp [hi]
theorem fa_and (a b : Nat) : nI a &&& nI b = nI (a &&& b) := by
  apply Int32.toBitVec_inj.1
  show BitVec.ofNat 32 a &&& BitVec.ofNat 32 b = BitVec.ofNat 32 (a &&& b)
  apply BitVec.eq_of_getLsbD_eq
  intro i hi
  simp [hi]
/-- the constants' own facts -/
theorem pkA {n : Nat} (h : n < 2 ^ 31) (k : Nat) {m : Int32} (hm : m.toBitVec.toNat = 2 ^ k - 1) : nI n &&& m = nI (n % 2 ^ k) := pk_andN (by omega) k hm
theorem d_mom {e : Nat} (h : e < 2 ^ 31) (M : Mem) : f_e_momentOf (nI e) M = nI (e % 128) := pkA h 7 (by decide)
theorem d_who {e : Nat} (h : e < 2 ^ 31) (M : Mem) : f_e_whoOf (nI e) M = nI (e / 128 % 16) := by
  unfold f_e_whoOf
  rw [pk_shrN h 7 7 (by decide), pkA (by have := Nat.div_le_self e (2 ^ 7); omega) 4 (by decide)]
theorem d_kind {e : Nat} (h : e < 2 ^ 31) (M : Mem) : f_e_kindOf (nI e) M = nI (e / 2048 % 8) := by
  unfold f_e_kindOf
  rw [pk_shrN h 11 11 (by decide), pkA (by have := Nat.div_le_self e (2 ^ 11); omega) 3 (by decide)]
theorem d_fal {e : Nat} (h : e < 2 ^ 31) (M : Mem) : f_e_fallsOf (nI e) M = nI (e / 16384) - 1 := by
  unfold f_e_fallsOf
  rw [pk_shrN h 14 14 (by decide)]
section LOG
variable {R V : Nat → Int32} {c sp : Nat} {lm lw lk lf : Nat → Nat}
theorem EvL.lt (hL : EvL R V c sp lm lw lk lf) (hc : c ≤ 8) {i : Nat} (hi : i < sp) : lm i ≤ 99 ∧ lw i ≤ 8 ∧ lk i ≤ 4 ∧ lf i ≤ 199 := by
  obtain ⟨-, -, h1, h2, h3, h4⟩ := hL i hi
  exact ⟨h1, by omega, h3, h4⟩
theorem e_mom (hL : EvL R V c sp lm lw lk lf) (hc : c ≤ 8) {i : Nat} (hi : i < sp) (M : Mem) : f_e_momentOf (R (6 + i)) M = nI (lm i) := by
  obtain ⟨q1, q2, q3, q4⟩ := hL.lt hc hi
  rw [(hL i hi).1, d_mom (by omega)]
  congr 1
  omega
theorem e_who (hL : EvL R V c sp lm lw lk lf) (hc : c ≤ 8) {i : Nat} (hi : i < sp) (M : Mem) : f_e_whoOf (R (6 + i)) M = nI (lw i) := by
  obtain ⟨q1, q2, q3, q4⟩ := hL.lt hc hi
  rw [(hL i hi).1, d_who (by omega)]
  congr 1
  omega
theorem e_kind (hL : EvL R V c sp lm lw lk lf) (hc : c ≤ 8) {i : Nat} (hi : i < sp) (M : Mem) : f_e_kindOf (R (6 + i)) M = nI (lk i) := by
  obtain ⟨q1, q2, q3, q4⟩ := hL.lt hc hi
  rw [(hL i hi).1, d_kind (by omega)]
  congr 1
  omega
theorem e_fal (hL : EvL R V c sp lm lw lk lf) (hc : c ≤ 8) {i : Nat} (hi : i < sp) (M : Mem) : f_e_fallsOf (R (6 + i)) M = nI (lf i) - 1 := by
  obtain ⟨q1, q2, q3, q4⟩ := hL.lt hc hi
  rw [(hL i hi).1, d_fal (by omega)]
  congr 2
  omega
theorem e_entry (M : Mem) {i : Nat} (hi : i < 40) : f_e_entry (nI i) M = some (M.1 12 (6 + i)) := by
  unfold f_e_entry
  rw [if_neg (nI_pos (by omega)), if_neg (show ¬ (40 : Int32) ≤ nI i from nI_ge (a := i) (b := 40) (by omega) (by decide)), show (6 : Int32) + nI i = nI (6 + i) from nI_add 6 i, if_pos (am_in_nI (by omega) (by decide)), nI_clamp (by omega)]
  rfl
end LOG
section REF
variable {R : Nat → Int32} {c sp : Nat} {lm lw lk lf : Nat → Nat} {M : Mem}
theorem r_ix {i : Nat} (hi : i < 40) : am_in ((68 : Int32) + nI i) 3826 = true ∧ ((68 : Int32) + nI i).toNatClampNeg = 68 + i := by
  rw [show (68 : Int32) + nI i = nI (68 + i) from nI_add 68 i]
  exact ⟨am_in_nI (by omega) (by decide), nI_clamp (by omega)⟩
theorem r_val (hL : EvL R (cur (M.1 130)) c sp lm lw lk lf) {i : Nat} (hi : i < sp) : gi M 130 (68 + i) = nI (((lm i * 16 + lw i) * 8 + lk i) * 256 + lf i) := by
  have := (hL i hi).2.1
  rw [cur_L] at this
  exact this
theorem r_mom (hL : EvL R (cur (M.1 130)) c sp lm lw lk lf) (hc : c ≤ 8) (hs : sp ≤ 40) {i : Nat} (hi : i < sp) : f_m_momentOf (nI i) M = some (nI (lm i)) := by
  obtain ⟨q1, q2, q3, q4⟩ := hL.lt hc hi
  obtain ⟨a1, a2⟩ := r_ix (show i < 40 by omega)
  unfold f_m_momentOf
  rw [if_pos a1, a2, r_val hL hi, show (32768 : Int32) = nI 32768 from rfl, pk_div (by omega) (by decide) (by decide)]
  congr 2
  omega
theorem r_who (hL : EvL R (cur (M.1 130)) c sp lm lw lk lf) (hc : c ≤ 8) (hs : sp ≤ 40) {i : Nat} (hi : i < sp) : f_m_whoOf (nI i) M = some (nI (lw i)) := by
  obtain ⟨q1, q2, q3, q4⟩ := hL.lt hc hi
  obtain ⟨a1, a2⟩ := r_ix (show i < 40 by omega)
  unfold f_m_whoOf
  rw [if_pos a1, a2, r_val hL hi, show (2048 : Int32) = nI 2048 from rfl, show (16 : Int32) = nI 16 from rfl, pk_div (by omega) (by decide) (by decide), pk_rem (by omega) (by decide) (by decide)]
  congr 2
  omega
theorem r_kind (hL : EvL R (cur (M.1 130)) c sp lm lw lk lf) (hc : c ≤ 8) (hs : sp ≤ 40) {i : Nat} (hi : i < sp) : f_m_kindOf (nI i) M = some (nI (lk i)) := by
  obtain ⟨q1, q2, q3, q4⟩ := hL.lt hc hi
  obtain ⟨a1, a2⟩ := r_ix (show i < 40 by omega)
  unfold f_m_kindOf
  rw [if_pos a1, a2, r_val hL hi, show (256 : Int32) = nI 256 from rfl, show (8 : Int32) = nI 8 from rfl, pk_div (by omega) (by decide) (by decide), pk_rem (by omega) (by decide) (by decide)]
  congr 2
  omega
theorem r_fal (hL : EvL R (cur (M.1 130)) c sp lm lw lk lf) (hc : c ≤ 8) (hs : sp ≤ 40) {i : Nat} (hi : i < sp) : f_m_fallsOf (nI i) M = some (nI (lf i) - 1) := by
  obtain ⟨q1, q2, q3, q4⟩ := hL.lt hc hi
  obtain ⟨a1, a2⟩ := r_ix (show i < 40 by omega)
  unfold f_m_fallsOf
  rw [if_pos a1, a2, r_val hL hi, show (256 : Int32) = nI 256 from rfl, pk_rem (by omega) (by decide) (by decide)]
  congr 3
  omega
end REF
/-! ranges -/
theorem within_iff (x a b : Int32) (M : Mem) : f_w_within x a b M = 0 ↔ (x < a ∨ b < x) := by
  unfold f_w_within
  by_cases h1 : x < a
  · rw [if_pos h1]; simp [h1]
  · rw [if_neg h1]
    by_cases h2 : b < x
    · rw [if_pos h2]; simp [h2]
    · rw [if_neg h2]; simp [h1, h2]
theorem isIn_eq (x a b : Int32) (M M' : Mem) : f_m_isIn x a b M = f_w_within x a b M' := rfl
theorem within_eq (x a b : Int32) (M M' : Mem) : f_w_within x a b M = f_w_within x a b M' := rfl
/-- between 0 and n -/
theorem within_n {x : Int32} {n : Nat} {M : Mem} (hn : n < 2 ^ 31) (h : ¬ f_w_within x 0 (nI n) M = 0) : ∃ j, j ≤ n ∧ x = nI j := by
  rw [within_iff] at h
  have h1 : ¬ x < 0 := fun q => h (Or.inl q)
  have h2 : ¬ nI n < x := fun q => h (Or.inr q)
  obtain ⟨j, hj, rfl⟩ := nI_of h1
  refine ⟨j, ?_, rfl⟩
  rcases Nat.lt_or_ge n j with q | q
  · exact absurd (nI_lt q hj) h2
  · exact q
theorem within_yes {j n : Nat} (M : Mem) (h : j ≤ n) (hn : n < 2 ^ 31) : ¬ f_w_within (nI j) 0 (nI n) M = 0 := by
  rw [within_iff]
  rintro (q | q)
  · exact nI_pos (by omega) q
  · exact nI_nlt h hn q
theorem within_no {x : Int32} {M : Mem} {n : Nat} (hn : n < 2 ^ 31) (h : ∀ j, j ≤ n → x ≠ nI j) : f_w_within x 0 (nI n) M = 0 := by
  by_cases q : f_w_within x 0 (nI n) M = 0
  · exact q
  · obtain ⟨j, hj, e⟩ := within_n hn q
    exact absurd e (h j hj)
/-- 0 ≤ x < c, as both sides ask it (c may be 0) -/
theorem below_iff {x : Int32} {c : Nat} (M : Mem) (hc : c ≤ 1000000) : (¬ f_w_within x 0 (nI c - 1) M = 0) ↔ ∃ g, g < c ∧ x = nI g := by
  constructor
  · intro h
    cases c with
    | zero =>
      exfalso
      apply h
      rw [within_iff]
      by_cases q : x < 0
      · exact Or.inl q
      · obtain ⟨j, hj, rfl⟩ := nI_of q
        exact Or.inr (m1_lt j hj)
    | succ c =>
      rw [nI_pred] at h
      obtain ⟨j, hj, e⟩ := within_n (by omega) h
      exact ⟨j, by omega, e⟩
  · rintro ⟨g, hg, rfl⟩
    cases c with
    | zero => omega
    | succ c =>
      rw [nI_pred]
      exact within_yes M (by omega) (by omega)
