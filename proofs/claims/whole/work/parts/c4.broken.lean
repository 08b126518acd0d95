/-! Once the class has found a fault, nothing changes it. -/
def Br (M : Mem) (f : Nat) (p : Int32) : Prop := 1 ≤ f ∧ f ≤ 7 ∧ M.1 103 1 = nI f ∧ M.1 103 2 = p ∧ M.1 103 7 = 49 ∧ ∃ i, i ≤ 300 ∧ M.1 103 6 = nI i
theorem Br.of {M M' : Mem} {f : Nat} {p : Int32} (h : Br M f p) (e : M'.1 103 = M.1 103) : Br M' f p := by
  unfold Br
  rw [e]
  exact h
def An (M : Mem) (o : Option Mem) : Prop := ∃ M', o = some M' ∧ M'.1 103 = M.1 103
def Bo (f : Nat) (p : Int32) (o : Option Mem) : Prop := ∃ M', o = some M' ∧ Br M' f p
theorem put_any (x y : Int32) (M : Mem) : An M (f_p_put x y M) := by
  unfold f_p_put
  by_cases a : gi M 104 3 < (0 : Int32)
  · rw [if_pos a]; exact ⟨_, rfl, rfl⟩
  · rw [if_neg a]
    by_cases b : (300 : Int32) ≤ gi M 104 3
    · rw [if_pos b]; exact ⟨_, rfl, rfl⟩
    · rw [if_neg b]
      obtain ⟨j, hj, e⟩ := nI_of a
      have : j < 300 := Nat.lt_of_not_le (fun h => b (by rw [e]; exact nI_le (a := 300) h hj))
      rw [if_pos (show am_in (gi M 104 3) 300 = true by rw [e]; exact am_in_nI this (by decide))]
      exact ⟨_, rfl, rfl⟩
theorem aim_any (x y : Int32) (M : Mem) : An M (f_p_aim x y M) := by
  unfold f_p_aim
  by_cases a : x < (0 : Int32)
  · rw [if_pos a]; exact ⟨_, rfl, rfl⟩
  · rw [if_neg a]
    by_cases c : gi M 104 3 ≤ x
    · rw [if_pos c]; exact ⟨_, rfl, rfl⟩
    · rw [if_neg c]
      by_cases b : (300 : Int32) ≤ x
      · rw [if_pos b]; exact ⟨_, rfl, rfl⟩
      · rw [if_neg b]
        obtain ⟨j, hj, e⟩ := nI_of a
        have : j < 300 := Nat.lt_of_not_le (fun h => b (by rw [e]; exact nI_le (a := 300) h hj))
        have i : am_in x 300 = true := by rw [e]; exact am_in_nI this (by decide)
        rw [if_pos i, if_pos i]
        exact ⟨_, rfl, rfl⟩
theorem arg_any (x : Int32) (M : Mem) : ∃ v, f_p_argumentAt_104 x M = some v := by
  unfold f_p_argumentAt_104
  by_cases a : x < (0 : Int32)
  · rw [if_pos a]; exact ⟨_, rfl⟩
  · rw [if_neg a]
    by_cases c : gi M 104 3 ≤ x
    · rw [if_pos c]; exact ⟨_, rfl⟩
    · rw [if_neg c]
      by_cases b : (300 : Int32) ≤ x
      · rw [if_pos b]; exact ⟨_, rfl⟩
      · rw [if_neg b]
        obtain ⟨j, hj, e⟩ := nI_of a
        have : j < 300 := Nat.lt_of_not_le (fun h => b (by rw [e]; exact nI_le (a := 300) h hj))
        rw [if_pos (show am_in x 300 = true by rw [e]; exact am_in_nI this (by decide))]
        exact ⟨_, rfl⟩
theorem win_iff (x : Int32) (lo hi : Nat) (hl : lo < 2 ^ 31) (hh : hi < 2 ^ 31) (M : Mem) : (¬ f_w_within x (nI lo) (nI hi) M = 0) → ∃ i, lo ≤ i ∧ i ≤ hi ∧ x = nI i := by
  unfold f_w_within
  intro h
  by_cases a : x < nI lo
  · rw [if_pos a] at h; exact absurd rfl h
  · rw [if_neg a] at h
    by_cases b : nI hi < x
    · rw [if_pos b] at h; exact absurd rfl h
    · have h0 : ¬ x < 0 := fun e => a (by
        rw [Int32.lt_iff_toInt_lt] at e ⊢
        rw [nI_toInt hl]
        have : (0 : Int32).toInt = 0 := by decide
        omega)
      obtain ⟨j, hj, e⟩ := nI_of h0
      subst e
      exact ⟨j, Nat.le_of_not_lt (fun g => a (nI_lt g hl)), Nat.le_of_not_lt (fun g => b (nI_lt g hj)), rfl⟩
theorem clause_any (x y z : Int32) (M : Mem) : An M (f_p_addClause x y z M) := by
  unfold f_p_addClause
  by_cases a : f_w_within (gi M 104 4) (0 : Int32) (23 : Int32) M = (0 : Int32)
  · rw [if_pos a]; exact ⟨_, rfl, rfl⟩
  · rw [if_neg a]
    obtain ⟨i, h1, h2, h3⟩ := win_iff (gi M 104 4) 0 23 (by decide) (by decide) M a
    rw [if_pos (show am_in (gi M 104 4) 24 = true by rw [h3]; exact am_in_nI (by omega) (by decide))]
    exact ⟨_, rfl, rfl⟩
section BROKEN
variable {M : Mem} {f : Nat} {p : Int32} {N : Nat}
theorem Br.ne (h : Br M f p) : ¬ gi M 103 1 = (0 : Int32) := by
  show ¬ M.1 103 1 = 0
  rw [h.2.2.1]
  exact fun e => by have := (nI_eq (b := 0) (by have := h.2.1; omega) (by decide)).mp e; have := h.1; omega
theorem Br.t49 (h : Br M f p) : gi M 103 7 = 49 := h.2.2.2.2.1
theorem Br.fail (h : Br M f p) (x : Int32) : Bo f p (f_r_fail x M) := by
  unfold f_r_fail
  rw [if_neg h.ne]
  refine ⟨_, rfl, ?_⟩
  obtain ⟨h1, h2, h3, h4, h5, i, h6, h7⟩ := h
  refine ⟨h1, h2, ?_, ?_, ?_, i, h6, ?_⟩
  · rw [si_at, if_neg (by omega)]; exact h3
  · rw [si_at, if_neg (by omega)]; exact h4
  · rw [si_at, if_pos ⟨rfl, rfl⟩]
  · rw [si_at, if_neg (by omega)]; exact h7
theorem Br.adv (h : Br M f p) : f_r_advance M = some M := by
  unfold f_r_advance
  rw [if_neg h.ne]
theorem Br.num (h : Br M f p) (x y : Int32) : ∃ M', f_r_expectNumber x y M = some (x, M') ∧ Br M' f p := by
  unfold f_r_expectNumber
  obtain ⟨i, i1, i2⟩ := h.2.2.2.2.2
  obtain ⟨M', e1, e2⟩ := h.fail 1
  rw [if_pos (show am_in (gi M 103 6) 301 = true by show am_in (M.1 103 6) 301 = true; rw [i2]; exact am_in_nI (by omega) (by decide)), h.t49, if_neg (show ¬ (49 : Int32) = 33 by decide), e1]
  exact ⟨M', rfl, e2⟩
theorem Br.exp (h : Br M f p) (x : Int32) (hx : ¬ (49 : Int32) = x) : Bo f p (f_r_expect x M) := by
  unfold f_r_expect
  rw [h.t49, if_neg hx]
  obtain ⟨M', e1, e2⟩ := h.fail 1
  rw [e1]
  exact ⟨M', rfl, e2⟩
theorem Br.put (h : Br M f p) (x y : Int32) : Bo f p (f_p_put x y M) := by
  obtain ⟨M', e1, e2⟩ := put_any x y M
  exact ⟨M', e1, h.of e2⟩
theorem Br.aim (h : Br M f p) (x y : Int32) : Bo f p (f_p_aim x y M) := by
  obtain ⟨M', e1, e2⟩ := aim_any x y M
  exact ⟨M', e1, h.of e2⟩
theorem Br.cls (h : Br M f p) (x y z : Int32) : Bo f p (f_p_addClause x y z M) := by
  obtain ⟨M', e1, e2⟩ := clause_any x y z M
  exact ⟨M', e1, h.of e2⟩
theorem Br.one (h : Br M f p) (RO : Int32 → Mem → Option Mem) (x : Int32) : Bo f p (f_r_readOneB N RO x M) := by
  unfold f_r_readOneB
  obtain ⟨M', e1, e2⟩ := h.fail 1
  rw [h.t49, if_neg (show ¬ (49 : Int32) = 33 by decide), if_pos (show f_w_within 49 0 11 M = 0 from rfl), if_neg (show ¬ (49 : Int32) = 42 by decide), if_neg (show ¬ (49 : Int32) = 39 by decide), if_neg (show ¬ (49 : Int32) = 27 by decide), e1]
  exact ⟨M', rfl, e2⟩
variable {RO : Int32 → Mem → Option Mem}
def RoB (RO : Int32 → Mem → Option Mem) (f : Nat) (p : Int32) : Prop := ∀ x M, Br M f p → Bo f p (RO x M)
theorem ro_b (N k : Nat) (f : Nat) (p : Int32) : RoB (f_r_readOne N (k + 1)) f p := fun x M h => by
  rw [f_r_readOne]
  exact h.one _ x
theorem Br.prod7 (h : Br M f p) (hN : 4000 ≤ N) (x y : Int32) : f_r_readProduct_7 N RO N x y M = some M := by
  obtain ⟨k, rfl⟩ : ∃ k, N = k + 1 := ⟨N - 1, by omega⟩
  rw [f_r_readProduct_7, h.t49, if_neg (show ¬ (49 : Int32) = 40 by decide), if_neg (show ¬ (49 : Int32) = 41 by decide)]
  split <;> rfl
theorem Br.prod (h : Br M f p) (hN : 4000 ≤ N) (hR : RoB RO f p) (x : Int32) : Bo f p (f_r_readProduct N RO x M) := by
  unfold f_r_readProduct
  obtain ⟨M1, e1, e2⟩ := hR x M h
  rw [e1, Option.bind_some, e2.prod7 hN]
  exact ⟨M1, rfl, e2⟩
theorem Br.sum7 (h : Br M f p) (hN : 4000 ≤ N) (x y : Int32) : f_r_readSum_7 N RO N x y M = some M := by
  obtain ⟨k, rfl⟩ : ∃ k, N = k + 1 := ⟨N - 1, by omega⟩
  rw [f_r_readSum_7, h.t49, if_neg (show ¬ (49 : Int32) = 38 by decide), if_neg (show ¬ (49 : Int32) = 39 by decide)]
  split <;> rfl
theorem Br.sum (h : Br M f p) (hN : 4000 ≤ N) (hR : RoB RO f p) (x : Int32) : Bo f p (f_r_readSum N RO x M) := by
  unfold f_r_readSum
  obtain ⟨M1, e1, e2⟩ := h.prod hN hR x
  rw [e1, Option.bind_some, e2.sum7 hN]
  exact ⟨M1, rfl, e2⟩
theorem Br.case73 (h : Br M f p) (hN : 4000 ≤ N) (hR : RoB RO f p) (x1 x2 x3 x4 : Int32) : ∃ v M', f_r_readCase_73 N RO x1 x2 x3 x4 M = some (v, M') ∧ Br M' f p := by
  unfold f_r_readCase_73
  obtain ⟨M1, e1, b1⟩ := h.exp 44 (by decide)
  obtain ⟨M2, e2, b2⟩ := b1.put 28 x3
  obtain ⟨M3, e3, b3⟩ := b2.put 54 x4
  obtain ⟨M4, e4, b4⟩ := b3.put 55 0
  obtain ⟨M5, e5, b5⟩ := b4.sum hN hR x1
  obtain ⟨M6, e6, b6⟩ := b5.put 51 (x2 + 1)
  obtain ⟨M7, e7, b7⟩ := b6.aim (gi M3 104 3) (gi M6 104 3)
  rw [e1, Option.bind_some, e2, Option.bind_some, e3, Option.bind_some, e4, Option.bind_some, e5, Option.bind_some, e6, Option.bind_some, e7, Option.bind_some]
  exact ⟨_, M7, rfl, b7⟩
theorem Br.ch99 (h : Br M f p) : ∀ (m t : Nat) (x2 : Int32) (M : Mem), Br M f p → t ≤ 6 → 6 < t + m → Bo f p (f_r_readChoose_99 N RO m x2 (nI t) M) := by
  intro m
  induction m with
  | zero => intro t x2 M h1 h2 h3; omega
  | succ m ih =>
    intro t x2 M h1 h2 h3
    rw [f_r_readChoose_99]
    by_cases a : t = 6
    · rw [if_pos (show (6 : Int32) ≤ nI t by rw [a]; decide)]
      exact ⟨M, rfl, h1⟩
    · rw [if_neg (show ¬ (6 : Int32) ≤ nI t from nI_ge (b := 6) (by omega) (by decide))]
      by_cases b : x2 = -1
      · rw [if_pos b]; exact ⟨M, rfl, h1⟩
      · rw [if_neg b]
        obtain ⟨v, e1⟩ := arg_any x2 M
        obtain ⟨M1, e2, b2⟩ := h1.aim x2 (gi M 104 3)
        rw [e1, Option.bind_some, e2, Option.bind_some, nI_1]
        exact ih (t + 1) _ M1 b2 (by omega) (by omega)
theorem Br.ch70 (h : Br M f p) (hN : 4000 ≤ N) (hR : RoB RO f p) (x1 x2 : Int32) : Bo f p (f_r_readChoose_70 N RO x1 x2 M) := by
  unfold f_r_readChoose_70
  obtain ⟨M1, e1, b1⟩ := h.exp 30 (by decide)
  obtain ⟨M2, e2, b2⟩ := b1.put 52 0
  obtain ⟨M3, e3, b3⟩ := b2.sum hN hR x1
  obtain ⟨M4, e4, b4⟩ := b3.exp 31 (by decide)
  rw [e1, Option.bind_some, e2, Option.bind_some, e3, Option.bind_some, e4, Option.bind_some]
  exact b4.ch99 N 0 x2 M4 b4 (by omega) (by omega)
theorem Br.ch27 (h : Br M f p) (hN : 4000 ≤ N) (hR : RoB RO f p) (m : Nat) (x1 x2 x3 : Int32) : Bo f p (f_r_readChoose_27 N RO (m + 1) x1 x2 x3 M) := by
  rw [f_r_readChoose_27, h.t49, if_neg (show ¬ (49 : Int32) = 28 by decide)]
  split <;> exact h.ch70 hN hR x1 x2
theorem Br.ask107 (h : Br M f p) : ∀ (m k t : Nat) (M : Mem), Br M f p → k ≤ 8 → t ≤ k → k < t + m → Bo f p (f_r_readAsk_107 N RO m (nI k) (nI t) M) := by
  intro m
  induction m with
  | zero => intro k t M h1 h2 h3 h4; omega
  | succ m ih =>
    intro k t M h1 h2 h3 h4
    rw [f_r_readAsk_107]
    by_cases a : t = k
    · rw [if_pos (show nI k ≤ nI t from nI_le (by omega) (by omega))]
      exact ⟨M, rfl, h1⟩
    · rw [if_neg (show ¬ nI k ≤ nI t from nI_ge (by omega) (by omega))]
      obtain ⟨M1, e1, b1⟩ := h1.put 26 0
      rw [e1, Option.bind_some, nI_1]
      exact ih k (t + 1) M1 b1 h2 (by omega) (by omega)
theorem Br.ask46 (h : Br M f p) (hN : 4000 ≤ N) (hR : RoB RO f p) {k : Nat} (hk : k ≤ 8) : Bo f p (f_r_readAsk_46 N RO (nI k) M) := by
  unfold f_r_readAsk_46
  obtain ⟨M1, e1, b1⟩ := h.sum hN hR (nI k)
  obtain ⟨M2, e2, b2⟩ := b1.fail 1
  rw [e1, Option.bind_some, b1.t49, if_pos (show f_w_within 49 34 37 M1 = 0 from rfl), if_neg (show ¬ (49 : Int32) = 46 by decide), if_neg (show ¬ (49 : Int32) = 47 by decide), e2, Option.bind_some]
  exact b2.ask107 N k 0 M2 b2 hk (by omega) (by omega)
theorem Br.ask4 (h : Br M f p) (hN : 4000 ≤ N) (hR : RoB RO f p) {k : Nat} (hk : k ≤ 8) (m : Nat) (x : Int32) : Bo f p (f_r_readAsk_4 N RO (m + 1) (nI k) x M) := by
  rw [f_r_readAsk_4, h.t49, if_neg (show ¬ (49 : Int32) = 26 by decide)]
  split <;> exact h.ask46 hN hR hk
theorem Br.ask (h : Br M f p) (hN : 4000 ≤ N) (hR : RoB RO f p) : Bo f p (f_r_readAsk N RO M) := by
  unfold f_r_readAsk
  obtain ⟨k, e⟩ : ∃ k, N = k + 1 := ⟨N - 1, by omega⟩
  have := h.ask4 (k := 0) hN hR (by omega) k 0
  rw [← e] at this
  exact this
theorem Br.ei36 (h : Br M f p) (K2 : Int32 → Mem → Option Mem) (hK : ∀ x M, Br M f p → Bo f p (K2 x M)) (m : Nat) (x1 x2 : Int32) : Bo f p (f_r_readEither_36 N RO K2 (m + 1) x1 x2 M) := by
  rw [f_r_readEither_36, h.t49, if_neg (show ¬ (49 : Int32) = 25 by decide)]
  obtain ⟨M1, e1, b1⟩ := h.put 24 0
  rw [e1, Option.bind_some]
  split
  · split
    · exact hK _ _ h
    · exact hK _ _ b1
  · split
    · exact hK _ _ h
    · exact hK _ _ b1
theorem Br.ei2 (h : Br M f p) (m : Nat) {x : Int32} (hx : ¬ x = 0) : f_r_readEither_2 N RO (m + 1) x M = some M := by
  rw [f_r_readEither_2, h.t49, if_neg hx, if_neg (show ¬ (49 : Int32) = 24 by decide)]
  split <;> rfl
theorem Br.rest (h : Br M f p) (x : Int32) : Bo f p (f_r_readRest x M) := by
  unfold f_r_readRest
  by_cases a : (14 : Int32) < x
  · rw [if_pos a]
    by_cases b : x = 15
    · rw [if_pos b]
      obtain ⟨M1, e1, b1⟩ := h.num 0 9
      obtain ⟨M2, e2, b2⟩ := b1.exp 4 (by decide)
      obtain ⟨M3, e3, b3⟩ := b2.num 0 9
      obtain ⟨M4, e4, b4⟩ := b3.cls x 0 0
      rw [e1, Option.bind_some]
      show Bo f p (Option.bind (f_r_expect 4 M1) fun q2 => Option.bind (f_r_expectNumber 0 9 q2) fun q3 => Option.bind (f_p_addClause x 0 q3.1 q3.2) fun q4 => some q4)
      rw [e2, Option.bind_some, e3, Option.bind_some]
      show Bo f p (Option.bind (f_p_addClause x 0 0 M3) fun q4 => some q4)
      rw [e4]
      exact ⟨M4, rfl, b4⟩
    · rw [if_neg b]
      by_cases c : x = 21
      · rw [if_pos c]
        obtain ⟨M1, e1, b1⟩ := h.num 1 60
        obtain ⟨M4, e4, b4⟩ := b1.cls x 1 0
        rw [e1, Option.bind_some]
        show Bo f p (Option.bind (f_p_addClause x 1 0 M1) fun q4 => some q4)
        rw [e4]
        exact ⟨M4, rfl, b4⟩
      · rw [if_neg c]
        obtain ⟨M1, e1, b1⟩ := h.cls x 0 0
        rw [e1]
        by_cases d : x = 20
        · rw [if_pos d]; exact ⟨M1, rfl, b1⟩
        · rw [if_neg d]
          by_cases g : x = 23
          · rw [if_pos g]; exact ⟨M1, rfl, b1⟩
          · rw [if_neg g]
            obtain ⟨M2, e2, b2⟩ := h.num 0 7
            obtain ⟨M4, e4, b4⟩ := b2.cls x 0 0
            rw [e2, Option.bind_some]
            show Bo f p (Option.bind (f_p_addClause x 0 0 M2) fun q4 => some q4)
            rw [e4]
            exact ⟨M4, rfl, b4⟩
  · rw [if_neg a]
    obtain ⟨M1, e1, b1⟩ := h.put 53 0
    obtain ⟨M2, e2, b2⟩ := b1.cls x 0 0
    rw [e1, Option.bind_some, e2]
    exact ⟨M2, rfl, b2⟩
end BROKEN
