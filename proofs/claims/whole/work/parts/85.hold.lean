/-! Who holds. A standing is (the greatest moment and 1, who falls in it). -/
def jn (s : Nat × Nat) (f b : Nat) : Nat × Nat := if s.1 < f then (f, b) else if s.1 = f then (s.1, s.2 ||| b) else s
def bw (w : Nat) : Nat := if w < 8 then 2 ^ w else 0
def okS (s : Nat × Nat) : Prop := s.1 ≤ 1000 ∧ s.2 < 256
def sv (s : Nat × Nat) : Int32 := nI (256 * s.1 + s.2)
def hd (lf lw : Nat → Nat) (lim : Nat) : Nat → Nat × Nat
  | 0 => (0, 0)
  | n + 1 => if lf n = 0 ∨ lim < lf n then hd lf lw lim n else jn (hd lf lw lim n) (lf n) (bw (lw n))
theorem bw_lt (w : Nat) : bw w < 256 := by
  unfold bw
  split
  · exact Nat.lt_of_lt_of_le (Nat.pow_lt_pow_right (by decide) (by assumption)) (Nat.le_refl (2 ^ 8))
  · omega
theorem jn_ok {s : Nat × Nat} {f b : Nat} (hs : okS s) (hf : f ≤ 1000) (hb : b < 256) : okS (jn s f b) := by
  unfold jn
  obtain ⟨h1, h2⟩ := hs
  split
  · exact ⟨hf, hb⟩
  · split
    · exact ⟨h1, Nat.or_lt_two_pow (n := 8) h2 hb⟩
    · exact ⟨h1, h2⟩
theorem hd_ok {lf lw : Nat → Nat} {lim : Nat} : ∀ {n : Nat}, (∀ i, i < n → lf i ≤ 1000) → okS (hd lf lw lim n)
  | 0, _ => ⟨(show 0 ≤ 1000 by decide), (show 0 < 256 by decide)⟩
  | n + 1, h => by
    unfold hd
    split
    · exact hd_ok (fun i hi => h i (by omega))
    · exact jn_ok (hd_ok (fun i hi => h i (by omega))) (h n (by omega)) (bw_lt _)
theorem hd_lim {lf lw : Nat → Nat} {a b : Nat} : ∀ {n : Nat}, (∀ i, i < n → lf i ≤ a ∧ lf i ≤ b) → hd lf lw a n = hd lf lw b n
  | 0, _ => rfl
  | n + 1, h => by
    have q := h n (by omega)
    unfold hd
    rw [hd_lim (n := n) (fun i hi => h i (by omega))]
    by_cases e : lf n = 0
    · rw [if_pos (Or.inl e), if_pos (Or.inl e)]
    · rw [if_neg (by omega), if_neg (by omega)]
theorem or_hi {L H b : Nat} (hH : H < 256) (hb : b < 256) : (256 * L + H) ||| b = 256 * L + (H ||| b) := by
  have e1 := Nat.two_pow_add_eq_or_of_lt (i := 8) hH L
  have e2 := Nat.two_pow_add_eq_or_of_lt (i := 8) (Nat.or_lt_two_pow (n := 8) hH hb) L
  rw [show (2 : Nat) ^ 8 = 256 from rfl] at e1 e2
  rw [e1, e2, Nat.or_assoc]
theorem m1_add (x : Int32) : x - 1 + 1 = x := Int32.sub_add_cancel x 1
theorem c_join {s : Nat × Nat} {f b : Nat} (hs : okS s) (hf : f ≤ 1000) (hb : b < 256) (M : Mem) : f_w_joined (sv s) (nI f - 1) (nI b) M = sv (jn s f b) := by
  obtain ⟨h1, h2⟩ := hs
  unfold f_w_joined sv
  rw [m1_add, pk_shrN (by omega) 8 8 (by decide), show (256 * s.1 + s.2) / 2 ^ 8 = s.1 by omega]
  unfold jn
  by_cases h : s.1 < f
  · rw [if_neg (nI_ge h (by omega)), if_pos h, pk_shlN 8 8 (by decide) (by omega), fa_or]
    congr 1
    show f * 2 ^ 8 ||| b = 256 * f + b
    have := Nat.two_pow_add_eq_or_of_lt (i := 8) hb f
    rw [Nat.mul_comm f, ← this]
  · rw [if_pos (nI_le (by omega) (by omega)), if_neg h]
    by_cases e : s.1 = f
    · rw [if_pos (by rw [e]), if_pos e, fa_or, or_hi h2 hb]
    · rw [if_neg (fun q => e ((nI_eq (by omega) (by omega)).mp q).symm), if_neg e]
theorem c_bit {w : Nat} (h : w < 16) (M : Mem) : f_w_bitOf (nI w) M = nI (bw w) := by
  have : ∀ w, w < 16 → (if nI w < 0 then (0 : Int32) else if 8 ≤ nI w then 0 else 1 <<< (nI w &&& 31)) = nI (bw w) := by decide +kernel
  exact this w h
theorem one_shl {w : Nat} (h : w < 16) : (1 : Int32) <<< (nI w &&& 31) = nI (2 ^ w) := by
  have : ∀ w, w < 16 → (1 : Int32) <<< (nI w &&& 31) = nI (2 ^ w) := by decide +kernel
  exact this w h
theorem m1_eq {f : Nat} (hf : f < 2 ^ 31) : (nI f - 1 = -1) ↔ f = 0 := by
  constructor
  · intro h
    cases f with
    | zero => rfl
    | succ f =>
      rw [nI_pred] at h
      exact absurd h (nI_ne_m1 (by omega))
  · rintro rfl
    decide
theorem m1_toInt {f : Nat} (hf : f < 2 ^ 30) : (nI f - 1).toInt = (f : Int) - 1 := pk_sub_toInt (b := 1) hf (by decide)
theorem m1_ltm {a b : Nat} (ha : a < 2 ^ 30) (hb : b < 2 ^ 30) : (nI a - 1 < nI b - 1) ↔ a < b := by
  rw [Int32.lt_iff_toInt_lt, m1_toInt ha, m1_toInt hb]
  omega
theorem m1_lem {a b : Nat} (ha : a < 2 ^ 30) (hb : b < 2 ^ 30) : (nI a - 1 ≤ nI b - 1) ↔ a ≤ b := by
  rw [Int32.le_iff_toInt_le, m1_toInt ha, m1_toInt hb]
  omega
theorem m1_le {a b : Nat} (ha : a < 2 ^ 30) (hb : b < 2 ^ 30) : (nI a ≤ nI b - 1) ↔ a < b := by
  rw [Int32.le_iff_toInt_le, m1_toInt hb, nI_toInt (by omega)]
  omega
theorem m1_neg {f : Nat} (hf : f < 2 ^ 30) : (nI f - 1 < 0) ↔ f = 0 := by
  rw [Int32.lt_iff_toInt_lt, m1_toInt hf]
  have : (0 : Int32).toInt = 0 := by decide
  omega
/-- the class's standing -/
theorem c_standing {M : Mem} {V : Nat → Int32} {c sp : Nat} {lm lw lk lf : Nat → Nat} (hL : EvL (M.1 12) V c sp lm lw lk lf) (hc : c ≤ 8) (hs : sp ≤ 40) (h4 : M.1 12 4 = nI sp) {lim N : Nat} (hl : lim < 2 ^ 30) (hN : sp < N) : f_e_standing N (nI lim) M = some (sv (hd lf lw lim sp)) := by
  rw [f_e_standing]
  refine run_loop (fun n a i => f_e_standing_4 N n (nI lim) a i M) (fun i => sv (hd lf lw lim i)) _ sp (fun n => ?_) (fun n i hi => ?_) N 0 (by omega) (by omega)
  · show f_e_standing_4 N (n + 1) _ _ _ M = _
    rw [f_e_standing_4, if_pos]
    show M.1 12 4 ≤ nI sp
    rw [h4]
    exact nI_le (Nat.le_refl _) (by omega)
  · show f_e_standing_4 N (n + 1) _ _ _ M = f_e_standing_4 N n _ _ _ M
    obtain ⟨q1, q2, q3, q4⟩ := hL.lt hc hi
    rw [f_e_standing_4, if_neg (by show ¬ M.1 12 4 ≤ nI i; rw [h4]; exact nI_ge hi (by omega)), e_entry M (by omega), Option.bind_some, e_fal hL hc hi, e_who hL hc hi, nI_1]
    by_cases h0 : lf i = 0
    · rw [if_pos ((m1_eq (by omega)).mpr h0)]
      show _ = f_e_standing_4 N n _ (sv (if _ then _ else _)) _ M
      rw [if_pos (Or.inl h0)]
    · rw [if_neg (fun q => h0 ((m1_eq (by omega)).mp q))]
      by_cases h1 : lim < lf i
      · rw [if_pos ((m1_le hl (by omega)).mpr h1)]
        show _ = f_e_standing_4 N n _ (sv (if _ then _ else _)) _ M
        rw [if_pos (Or.inr h1)]
      · rw [if_neg (fun q => h1 ((m1_le hl (by omega)).mp q)), c_bit (by omega), c_join (hd_ok (fun j hj => by have := (hL.lt hc (show j < sp by omega)).2.2.2; omega)) (by omega) (bw_lt _)]
        show _ = f_e_standing_4 N n _ (sv (if _ then _ else _)) _ M
        rw [if_neg (by omega)]
/-- the reference's: in two of its fields -/
def hm (M : Mem) (s : Nat × Nat) : Mem := sr M 129 (upd (upd (M.1 129) 28 (nI s.1 - 1)) 29 (nI s.2))
theorem hm_28 (M : Mem) (s : Nat × Nat) : gi (hm M s) 129 28 = nI s.1 - 1 := rfl
theorem hm_29 (M : Mem) (s : Nat × Nat) : gi (hm M s) 129 29 = nI s.2 := rfl
theorem hm_w28 (M : Mem) (s : Nat × Nat) (f : Nat) : si (hm M s) 129 28 (nI f - 1) = hm M (f, s.2) := by
  unfold hm
  rw [si_of_sr]
  congr 1
  funext j
  simp only [upd_get]
  by_cases h : j = 28
  · subst h; rfl
  · rw [if_neg h]
    by_cases h2 : j = 29
    · rw [if_pos h2, if_pos h2]
    · rw [if_neg h2, if_neg h2, if_neg h, if_neg h]
theorem hm_w29 (M : Mem) (s : Nat × Nat) (b : Nat) : si (hm M s) 129 29 (nI b) = hm M (s.1, b) := by
  unfold hm
  rw [si_of_sr]
  congr 1
  funext j
  simp only [upd_get]
  by_cases h2 : j = 29
  · rw [if_pos h2, if_pos h2]
  · rw [if_neg h2, if_neg h2, if_neg h2]
theorem hm_k (M : Mem) (s : Nat × Nat) {k : Nat} (h : k ≠ 129) : (hm M s).1 k = M.1 k := by
  unfold hm
  rw [sr_1, if_neg h]
theorem hm_hm (M : Mem) (s u : Nat × Nat) : hm (hm M s) u = hm M u := by
  unfold hm
  rw [sr_sr]
  congr 1
  funext j
  simp only [upd_get, sr_1, if_pos]
  by_cases h2 : j = 29
  · rw [if_pos h2, if_pos h2]
  · rw [if_neg h2, if_neg h2]
    by_cases h : j = 28
    · subst h; simp
    · simp [h, h2, upd_get]
theorem r_start (M : Mem) : f_m_startHolding M = some (hm M (0, 0)) := by
  unfold f_m_startHolding
  rw [Option.bind_some, Option.bind_some]
  congr 1
  unfold hm
  rw [si_sr M, si_of_sr]
  rfl
theorem r_consider (M : Mem) {s : Nat × Nat} {f w : Nat} (hs : okS s) (hf : f ≤ 1000) (hw : w ≤ 8) : f_m_consider (nI w) (nI f - 1) (hm M s) = some (hm M (if f = 0 then s else jn s f (bw w))) := by
  obtain ⟨h1, h2⟩ := hs
  unfold f_m_consider
  by_cases h0 : f = 0
  · rw [if_pos ((m1_neg (by omega)).mpr h0), if_pos h0]
  · rw [if_neg (fun q => h0 ((m1_neg (by omega)).mp q)), if_neg h0, hm_28]
    unfold jn
    have key : ∀ u : Nat × Nat, u.2 < 256 → f_m_consider_26 (nI w) (nI f - 1) (hm M u) = some (hm M (f, u.2 ||| bw w)) := by
      intro u hu
      unfold f_m_consider_26
      rw [Option.bind_some, hm_w28]
      by_cases h8 : w = 8
      · subst h8
        rw [if_pos (show nI 8 = (8 : Int32) from rfl), show bw 8 = 0 from rfl, Nat.or_zero]
      · rw [if_neg (show ¬ nI w = (8 : Int32) from fun q => h8 ((nI_eq (a := w) (b := 8) (by omega) (by decide)).mp q)), hm_29, one_shl (by omega), fa_or, Option.bind_some, hm_w29]
        unfold bw
        rw [if_pos (by omega)]
    by_cases h : s.1 ≤ f
    · rw [if_pos ((m1_lem (by omega) (by omega)).mpr h)]
      by_cases e : s.1 = f
      · rw [if_pos ((m1_lem (by omega) (by omega)).mpr (by omega)), key s h2, if_neg (by omega), if_pos e, e]
      · rw [if_neg (fun q => by have := (m1_lem (by omega) (by omega)).mp q; omega), Option.bind_some, show si (hm M s) 129 29 (0 : Int32) = hm M (s.1, 0) from hm_w29 M s 0, key _ (by show (0 : Nat) < 256; omega), if_pos (by omega)]
        congr 3
        show 0 ||| bw w = bw w
        exact Nat.zero_or _
    · rw [if_neg (fun q => h ((m1_lem (by omega) (by omega)).mp q)), if_neg (by omega), if_neg (by omega)]
theorem r_holdBy {M : Mem} {R : Nat → Int32} {c sp : Nat} {lm lw lk lf : Nat → Nat} (hL : EvL R (cur (M.1 130)) c sp lm lw lk lf) (hc : c ≤ 8) (hs : sp ≤ 40) (h8 : M.1 130 8 = nI sp) {lim N : Nat} (hl : lim < 2 ^ 30) (hN : sp < N) : f_m_holdBy N (nI lim - 1) M = some (nI (hd lf lw lim sp).2, hm M (hd lf lw lim sp)) := by
  rw [f_m_holdBy, r_start, Option.bind_some]
  refine run_loop (fun n a i => f_m_holdBy_6 N n (nI lim - 1) i a) (fun i => hm M (hd lf lw lim i)) _ sp (fun n => ?_) (fun n i hi => ?_) N 0 (by omega) (by omega)
  · show f_m_holdBy_6 N (n + 1) _ _ _ = _
    rw [f_m_holdBy_6, if_pos]
    · rw [hm_29]
    · show (hm M _).1 130 8 ≤ nI sp
      rw [hm_k M _ (by decide), h8]
      exact nI_le (Nat.le_refl _) (by omega)
  · show f_m_holdBy_6 N (n + 1) _ _ (hm M (hd lf lw lim i)) = f_m_holdBy_6 N n _ _ (hm M (hd lf lw lim (i + 1)))
    obtain ⟨q1, q2, q3, q4⟩ := hL.lt hc hi
    have hL' : EvL R (cur ((hm M (hd lf lw lim i)).1 130)) c sp lm lw lk lf := by rw [hm_k M _ (by decide)]; exact hL
    rw [f_m_holdBy_6, if_neg (by show ¬ (hm M _).1 130 8 ≤ nI i; rw [hm_k M _ (by decide), h8]; exact nI_ge hi (by omega)), r_fal hL' hc hs hi, Option.bind_some, nI_1]
    by_cases h1 : lim < lf i
    · rw [if_pos ((m1_ltm hl (by omega)).mpr h1)]
      congr 2
      show _ = if _ then _ else _
      rw [if_pos (Or.inr h1)]
    · rw [if_neg (fun q => h1 ((m1_ltm hl (by omega)).mp q)), r_who hL' hc hs hi, Option.bind_some, Option.bind_some, r_consider M (hd_ok (fun j hj => by have := (hL.lt hc (show j < sp by omega)).2.2.2; omega)) (by omega) (by omega), Option.bind_some]
      congr 2
      show _ = if _ then _ else _
      by_cases h0 : lf i = 0
      · rw [if_pos h0, if_pos (Or.inl h0)]
      · rw [if_neg h0, if_neg (by omega)]
