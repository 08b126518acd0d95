/-! The reference's next token. -/
theorem lshl8 {a : Nat} (h : a * 256 < 2 ^ 64) : lN a <<< (Int32.toInt64 (8 : Int32) &&& 63) = lN (a * 256) := by
  apply Int64.toBitVec_inj.mp
  apply BitVec.eq_of_toNat_eq
  have e : ((Int32.toInt64 (8 : Int32) &&& 63).toBitVec.smod 64).toNat = 8 := by decide
  show ((lN a).toBitVec <<< ((Int32.toInt64 (8 : Int32) &&& 63).toBitVec.smod 64).toNat).toNat = _
  rw [e, BitVec.toNat_shiftLeft, Nat.shiftLeft_eq]
  show (BitVec.ofNat 64 a).toNat * 2 ^ 8 % 2 ^ 64 = (BitVec.ofNat 64 (a * 256)).toNat
  rw [BitVec.toNat_ofNat, BitVec.toNat_ofNat]
  omega
theorem lshr48 {a : Nat} (h : a < 2 ^ 63) : lN a >>> (Int32.toInt64 (48 : Int32) &&& 63) = lN (a / 2 ^ 48) := by
  apply Int64.toInt_inj.mp
  have e : ((Int32.toInt64 (48 : Int32) &&& 63).toBitVec.smod 64).toNat = 48 := by decide
  have h2 : a / 2 ^ 48 ≤ a := Nat.div_le_self _ _
  have t : (lN a >>> (Int32.toInt64 (48 : Int32) &&& 63)).toInt = (lN a).toInt >>> 48 := by
    show ((lN a).toBitVec.sshiftRight ((Int32.toInt64 (48 : Int32) &&& 63).toBitVec.smod 64).toNat).toInt = _
    rw [e, BitVec.toInt_sshiftRight]
    rfl
  rw [t, pk_lT h, pk_lT (by omega), Int.shiftRight_eq_div_pow]
  rfl
theorem lor8 {a b : Nat} (hb : b < 256) : lN (a * 256) ||| Int32.toInt64 (nI b) = lN (a * 256 + b) := by
  have e : Int32.toInt64 (nI b) = lN b := by
    apply Int64.toInt_inj.mp
    rw [Int32.toInt_toInt64, nI_toInt (by omega), pk_lT (by omega)]
  rw [e]
  have o : a * 256 ||| b = a * 256 + b := by
    have := or_add (a := b) (b := a) (i := 8) (by omega)
    rw [Nat.or_comm]
    rw [show 2 ^ 8 = 256 from rfl] at this
    omega
  apply Int64.toBitVec_inj.1
  show BitVec.ofNat 64 (a * 256) ||| BitVec.ofNat 64 b = BitVec.ofNat 64 (a * 256 + b)
  rw [← o]
  apply BitVec.eq_of_getLsbD_eq
  intro i hi
  simp [hi]
def NS (M M' : Mem) : Prop := (∀ c i, ¬ (c = 129 ∧ 7 ≤ i ∧ i ≤ 10) → M'.1 c i = M.1 c i) ∧ (∀ c i, ¬ (c = 129 ∧ i = 11) → M'.2 c i = M.2 c i)
theorem NS.rf {M : Mem} : NS M M := ⟨fun _ _ _ => rfl, fun _ _ _ => rfl⟩
theorem NS.tr {M M1 M2 : Mem} (h : NS M M1) (g : NS M1 M2) : NS M M2 := ⟨fun c i k => (g.1 c i k).trans (h.1 c i k), fun c i k => (g.2 c i k).trans (h.2 c i k)⟩
theorem NS.si {M M1 : Mem} (h : NS M M1) (i : Nat) (v : Int32) (h1 : 7 ≤ i ∧ i ≤ 10) : NS M (si M1 129 i v) := by
  refine h.tr ⟨fun c k g => ?_, fun _ _ _ => rfl⟩
  rw [si_at, if_neg (fun e => g ⟨e.1, by omega, by omega⟩)]
theorem sj_at (M : Mem) (k i : Nat) (v : Int64) (k' i' : Nat) : (sj M k i v).2 k' i' = if k' = k ∧ i' = i then v else M.2 k' i' := by
  show (if k' = k then vp_updL (M.2 k') i v else M.2 k') i' = _
  by_cases a : k' = k
  · rw [if_pos a]
    by_cases b : i' = i
    · rw [if_pos ⟨a, b⟩]
      show (if i' = i then v else _) = v
      rw [if_pos b]
    · rw [if_neg (fun e => b e.2)]
      show (if i' = i then v else _) = _
      rw [if_neg b]
  · rw [if_neg a, if_neg (fun e => a e.1)]
theorem NS.sj {M M1 : Mem} (h : NS M M1) (v : Int64) : NS M (sj M1 129 11 v) := by
  refine h.tr ⟨fun _ _ _ => rfl, fun c k g => ?_⟩
  rw [sj_at, if_neg g]
def RTB (M : Mem) (B : Nat → Nat) (n : Nat) : Prop := n ≤ 300 ∧ M.1 129 4 = nI n ∧ ∀ i, i < n → B i < 256 ∧ M.1 133 i = nI (B i)
theorem RTB.ns {M M' : Mem} {B : Nat → Nat} {n : Nat} (h : RTB M B n) (g : NS M M') : RTB M' B n := ⟨h.1, by rw [g.1 129 4 (by omega)]; exact h.2.1, fun i hi => ⟨(h.2.2 i hi).1, by rw [g.1 133 i (by omega)]; exact (h.2.2 i hi).2⟩⟩
theorem r_byte {M : Mem} {B : Nat → Nat} {n : Nat} (h : RTB M B n) {a : Nat} (ha : a ≤ n) : f_m_byteAt (nI a) M = some (if a < n then nI (B a) else -1) := by
  obtain ⟨h1, h2, h3⟩ := h
  unfold f_m_byteAt
  rw [show gi M 129 4 = nI n from h2]
  by_cases q : a < n
  · rw [if_neg (nI_ge q (by omega)), if_pos (am_in_nI (by omega) (by decide)), nI_clamp (by omega), if_pos q]
    exact congrArg some (h3 a q).2
  · rw [if_pos (nI_le (by omega) (by omega)), if_neg q]
theorem r_isL {b : Nat} (hb : b < 256) (M : Mem) : (f_m_isLetterByte (nI b) M = 0) ↔ isLb b = false := (isL_all b hb).2.2.1
theorem r_isD {b : Nat} (hb : b < 256) (M : Mem) : (f_m_isFigure (nI b) M = 0) ↔ isDb b = false := (isL_all b hb).2.2.2.1
/-- what the reference has of the token at s -/
def sgcT : List Nat := [60, 62, 61, 35, 43, 45, 42, 47, 40, 41, 58, 59, 4, 5, 0]
def sgc (k : Nat) : Nat := sgcT.getD (k - 34) 0
def TkR (M : Mem) (B : Nat → Nat) (n s : Nat) : Prop := (kd B n s ≤ 31 → M.1 129 9 = 2 ∧ M.2 129 11 = lN (wpk (kd B n s))) ∧ (kd B n s = 32 → M.1 129 9 = 3 ∨ (M.1 129 9 = 2 ∧ ∀ k, k < 32 → M.2 129 11 ≠ lN (wpk k))) ∧ (kd B n s = 33 → M.1 129 9 = 1 ∧ ∃ r, r < 2 ^ 31 ∧ M.1 129 10 = nI r ∧ (nm B n s ≤ 9999 → r = nm B n s) ∧ (9999 < nm B n s → 9999 < r)) ∧ (34 ≤ kd B n s → M.1 129 9 = nI (sgc (kd B n s)))
theorem sg_all : ∀ b, b < 256 → ((f_m_isSign (nI b) M0 = 0) ↔ sgk b = 32) ∧ (sgk b ≠ 32 → sgc (sgk b) = b) ∧ (b = 60 → sgk b = 34) ∧ (b = 62 → sgk b = 35) ∧ ((nI b = (60 : Int32)) ↔ b = 60) ∧ ((nI b = (62 : Int32)) ↔ b = 62) ∧ ((nI b = (61 : Int32)) ↔ b = 61) := by decide +kernel
theorem pkb_lt {B : Nat → Nat} {s : Nat} : ∀ {m : Nat}, (∀ t, t < m → B (s + t) < 256) → pkb B s m < 256 ^ m
  | 0, _ => by show 0 < 1; omega
  | m + 1, h => by
    have := pkb_lt (B := B) (s := s) (m := m) (fun t ht => h t (by omega))
    have := h m (by omega)
    show pkb B s m * 256 + B (s + m) < 256 ^ (m + 1)
    rw [Nat.pow_succ]
    omega
theorem pkb_ge {B : Nat → Nat} {s : Nat} : ∀ {m : Nat}, (∀ t, t ≤ m → 1 ≤ B (s + t)) → 256 ^ m ≤ pkb B s (m + 1)
  | 0, h => by
    have := h 0 (by omega)
    show 1 ≤ pkb B s 0 * 256 + B (s + 0)
    omega
  | m + 1, h => by
    have := pkb_ge (B := B) (s := s) (m := m) (fun t ht => h t (by omega))
    show 256 ^ (m + 1) ≤ pkb B s (m + 1) * 256 + B (s + (m + 1))
    rw [Nat.pow_succ]
    omega
section NEXT
variable {M : Mem} {B : Nat → Nat} {n N : Nat}
theorem r_num {s : Nat} (hs : s ≤ n) : ∀ (m a r : Nat) (M1 : Mem), RTB M1 B n → s ≤ a → a ≤ skp (fun i => isDb (B i)) n s → n < a + m → NS M M1 → M1.1 129 7 = nI a → M1.1 129 10 = nI r → r ≤ 1000000 → (nv B s (a - s) ≤ 9999 → r = nv B s (a - s)) → (9999 < nv B s (a - s) → 9999 < r) → ∃ M', f_m_nextToken_85 N m M1 = some M' ∧ NS M M' ∧ M'.1 129 7 = nI (skp (fun i => isDb (B i)) n s) ∧ M'.1 129 8 = M1.1 129 8 ∧ M'.1 129 9 = M1.1 129 9 ∧ ∃ r', r' ≤ 1000000 ∧ M'.1 129 10 = nI r' ∧ (nv B s (skp (fun i => isDb (B i)) n s - s) ≤ 9999 → r' = nv B s (skp (fun i => isDb (B i)) n s - s)) ∧ (9999 < nv B s (skp (fun i => isDb (B i)) n s - s) → 9999 < r') := by
  intro m
  have hE := skp_n (p := fun i => isDb (B i)) hs
  induction m with
  | zero => intro a r M1 hR h1 h2 h3; omega
  | succ m ih =>
    intro a r M1 hR h1 h2 h3 h4 h5 h6 h7 h8 h9
    have hn := hR.1
    rw [f_m_nextToken_85, show gi M1 129 7 = nI a from h5, r_byte hR (by omega), Option.bind_some]
    by_cases q : a = skp (fun i => isDb (B i)) n s
    · refine ⟨M1, ?_, h4, by rw [h5, q], rfl, rfl, r, h7, h6, ?_, ?_⟩
      · have : f_m_isFigure (if a < n then nI (B a) else -1) M1 = 0 := by
          by_cases z : a < n
          · rw [if_pos z, r_isD (hR.2.2 a z).1]
            rw [q] at z ⊢
            exact skp_stop (p := fun i => isDb (B i)) hs z
          · rw [if_neg z]
            rfl
        rw [if_pos this]
      · rw [← q]; exact h8
      · rw [← q]; exact h9
    · have lt : a < n := by omega
      have ll : isDb (B a) = true := skp_in (p := fun i => isDb (B i)) (n := n) h1 (by omega)
      have hb := (hR.2.2 a lt).1
      have rg := isD_rng ll
      have nvs : nv B s (a + 1 - s) = min (nv B s (a - s) * 10 + (B a - 48)) 10000 := by
        rw [show a + 1 - s = (a - s) + 1 by omega]
        show min (nv B s (a - s) * 10 + (B (s + (a - s)) - 48)) 10000 = _
        rw [show s + (a - s) = a by omega]
      rw [if_pos lt, if_neg (fun e => by have := (r_isD hb M1).mp e; rw [ll] at this; cases this), show gi M1 129 10 = nI r from h6]
      by_cases z : r ≤ 99999
      · rw [if_pos (show nI r ≤ (99999 : Int32) from nI_le (b := 99999) z (by omega)), Option.bind_some, Option.bind_some, show gi (si M1 129 10 ((10 : Int32) * nI r + nI (B a) - 48)) 129 7 = nI a from h5, Option.bind_some, nI_1]
        have ev : (10 : Int32) * nI r + nI (B a) - 48 = nI (10 * r + B a - 48) := by
          rw [show (10 : Int32) = nI 10 from rfl, show (48 : Int32) = nI 48 from rfl, nI_mul, nI_add, nI_sub (by omega)]
        rw [ev]
        have g1 : nv B s (a + 1 - s) ≤ 9999 → 10 * r + B a - 48 = nv B s (a + 1 - s) := by
          rw [nvs]
          intro hh
          have := h8 (by omega)
          omega
        have g2 : 9999 < nv B s (a + 1 - s) → 9999 < 10 * r + B a - 48 := by
          rw [nvs]
          intro hh
          by_cases y : nv B s (a - s) ≤ 9999
          · have := h8 y
            omega
          · have := h9 (by omega)
            omega
        have N1 := (h4.si 10 (nI (10 * r + B a - 48)) (by omega)).si 7 (nI (a + 1)) (by omega)
        obtain ⟨M', e1, e2, e3, e4, e5, e6⟩ := ih (a + 1) (10 * r + B a - 48) (si (si M1 129 10 (nI (10 * r + B a - 48))) 129 7 (nI (a + 1))) (hR.ns ((NS.rf.si 10 _ (by omega)).si 7 _ (by omega))) (by omega) (by omega) (by omega) N1 (by rw [si_at, if_pos ⟨rfl, rfl⟩]) (by rw [si_at, if_neg (by omega), si_at, if_pos ⟨rfl, rfl⟩]) (by omega) g1 g2
        exact ⟨M', e1, e2, e3, by rw [e4, si_at, if_neg (by omega), si_at, if_neg (by omega)], by rw [e5, si_at, if_neg (by omega), si_at, if_neg (by omega)], e6⟩
      · rw [if_neg (show ¬ nI r ≤ (99999 : Int32) from nI_ge (b := r) (a := 99999) (by omega) (by omega)), Option.bind_some, show gi (si M1 129 10 (nI r)) 129 7 = nI a from h5, Option.bind_some, nI_1]
        have N1 := (h4.si 10 (nI r) (by omega)).si 7 (nI (a + 1)) (by omega)
        have g1 : nv B s (a + 1 - s) ≤ 9999 → r = nv B s (a + 1 - s) := by
          rw [nvs]
          intro hh
          by_cases y : nv B s (a - s) ≤ 9999
          · have := h8 y
            omega
          · omega
        obtain ⟨M', e1, e2, e3, e4, e5, e6⟩ := ih (a + 1) r (si (si M1 129 10 (nI r)) 129 7 (nI (a + 1))) (hR.ns ((NS.rf.si 10 _ (by omega)).si 7 _ (by omega))) (by omega) (by omega) (by omega) N1 (by rw [si_at, if_pos ⟨rfl, rfl⟩]) (by rw [si_at, if_neg (by omega), si_at, if_pos ⟨rfl, rfl⟩]) h7 g1 (by intro _; omega)
        exact ⟨M', e1, e2, e3, by rw [e4, si_at, if_neg (by omega), si_at, if_neg (by omega)], by rw [e5, si_at, if_neg (by omega), si_at, if_neg (by omega)], e6⟩
def wv (B : Nat → Nat) (s t : Nat) : Nat := if t ≤ 7 then pkb B s t else 1152921504606846976
theorem r_word {s : Nat} (hs : s ≤ n) : ∀ (m a : Nat) (M1 : Mem), RTB M1 B n → s ≤ a → a ≤ skp (fun i => isLb (B i)) n s → n < a + m → NS M M1 → M1.1 129 7 = nI a → M1.2 129 11 = lN (wv B s (a - s)) → ∃ M', f_m_nextToken_168 N m M1 = some M' ∧ NS M M' ∧ M'.1 129 7 = nI (skp (fun i => isLb (B i)) n s) ∧ M'.1 129 8 = M1.1 129 8 ∧ M'.1 129 9 = M1.1 129 9 ∧ M'.2 129 11 = lN (wv B s (skp (fun i => isLb (B i)) n s - s)) := by
  intro m
  have hE := skp_n (p := fun i => isLb (B i)) hs
  induction m with
  | zero => intro a M1 hR h1 h2 h3; omega
  | succ m ih =>
    intro a M1 hR h1 h2 h3 h4 h5 h6
    have hn := hR.1
    rw [f_m_nextToken_168, show gi M1 129 7 = nI a from h5, r_byte hR (by omega), Option.bind_some]
    by_cases q : a = skp (fun i => isLb (B i)) n s
    · refine ⟨M1, ?_, h4, by rw [h5, q], rfl, rfl, by rw [h6, ← q]⟩
      have : f_m_isLetterByte (if a < n then nI (B a) else -1) M1 = 0 := by
        by_cases z : a < n
        · rw [if_pos z, r_isL (hR.2.2 a z).1]
          rw [q] at z ⊢
          exact skp_stop (p := fun i => isLb (B i)) hs z
        · rw [if_neg z]
          rfl
      rw [if_pos this]
    · have lt : a < n := by omega
      have ll : isLb (B a) = true := skp_in (p := fun i => isLb (B i)) (n := n) h1 (by omega)
      have hb := (hR.2.2 a lt).1
      have lin : ∀ t, t ≤ a - s → 1 ≤ B (s + t) ∧ B (s + t) < 256 := fun t ht => by
        have := isL_rng (skp_in (p := fun i => isLb (B i)) (n := n) (a := s) (i := s + t) (by omega) (by omega))
        omega
      rw [if_pos lt, if_neg (fun e => by have := (r_isL hb M1).mp e; rw [ll] at this; cases this), show gj M1 129 11 = lN (wv B s (a - s)) from h6]
      by_cases z : a - s ≤ 6
      · have p1 : pkb B s (a - s) < 256 ^ 6 := Nat.lt_of_lt_of_le (pkb_lt (fun t ht => (lin t (by omega)).2)) (Nat.pow_le_pow_right (by decide) z)
        have w1 : wv B s (a - s) = pkb B s (a - s) := by unfold wv; rw [if_pos (by omega)]
        have w2 : wv B s (a + 1 - s) = pkb B s (a - s) * 256 + B a := by
          unfold wv
          rw [if_pos (by omega), show a + 1 - s = (a - s) + 1 by omega]
          show pkb B s (a - s) * 256 + B (s + (a - s)) = _
          rw [show s + (a - s) = a by omega]
        have p6 : (256 : Nat) ^ 6 = 281474976710656 := by decide
        rw [w1, lshr48 (by omega), if_pos (show lg_cmp (lN (pkb B s (a - s) / 2 ^ 48)) 0 = 0 from (lz (by omega)).mpr (by omega)), Option.bind_some, Option.bind_some, lshl8 (by omega), lor8 hb]
        rw [show gi (sj M1 129 11 (lN (pkb B s (a - s) * 256 + B a))) 129 7 = nI a from h5, Option.bind_some, nI_1]
        obtain ⟨M', e1, e2, e3, e4, e5, e6⟩ := ih (a + 1) (si (sj M1 129 11 (lN (pkb B s (a - s) * 256 + B a))) 129 7 (nI (a + 1))) (hR.ns ((NS.rf.sj _).si 7 _ (by omega))) (by omega) (by omega) (by omega) ((h4.sj _).si 7 _ (by omega)) (by rw [si_at, if_pos ⟨rfl, rfl⟩]) (by rw [si_2, sj_at, if_pos ⟨rfl, rfl⟩, w2])
        exact ⟨M', e1, e2, e3, by rw [e4, si_at, if_neg (by omega)]; rfl, by rw [e5, si_at, if_neg (by omega)]; rfl, e6⟩
      · have w2 : wv B s (a + 1 - s) = 1152921504606846976 := by unfold wv; rw [if_neg (by omega)]
        have w1 : wv B s (a - s) < 2 ^ 63 ∧ 2 ^ 48 ≤ wv B s (a - s) := by
          unfold wv
          by_cases y : a - s ≤ 7
          · rw [if_pos y, show a - s = 6 + 1 by omega]
            have g1 := pkb_ge (B := B) (s := s) (m := 6) (fun t ht => (lin t (by omega)).1)
            have g2 := pkb_lt (B := B) (s := s) (m := 7) (fun t ht => (lin t (by omega)).2)
            have p6 : (256 : Nat) ^ 6 = 281474976710656 := by decide
            have p7 : (256 : Nat) ^ 7 = 72057594037927936 := by decide
            rw [p6] at g1
            rw [p7] at g2
            have g2' : pkb B s (6 + 1) < 72057594037927936 := g2
            omega
          · rw [if_neg y]; decide
        rw [lshr48 w1.1, if_neg (show ¬ lg_cmp (lN (wv B s (a - s) / 2 ^ 48)) 0 = 0 from fun e => by have := (lz (by omega)).mp e; omega), Option.bind_some]
        rw [show gi (sj M1 129 11 (1152921504606846976 : Int64)) 129 7 = nI a from h5, Option.bind_some, nI_1]
        obtain ⟨M', e1, e2, e3, e4, e5, e6⟩ := ih (a + 1) (si (sj M1 129 11 (1152921504606846976 : Int64)) 129 7 (nI (a + 1))) (hR.ns ((NS.rf.sj _).si 7 _ (by omega))) (by omega) (by omega) (by omega) ((h4.sj _).si 7 _ (by omega)) (by rw [si_at, if_pos ⟨rfl, rfl⟩]) (by rw [si_2, sj_at, if_pos ⟨rfl, rfl⟩, w2]; rfl)
        exact ⟨M', e1, e2, e3, by rw [e4, si_at, if_neg (by omega)]; rfl, by rw [e5, si_at, if_neg (by omega)]; rfl, e6⟩
theorem r_next (hR : RTB M B n) (hN : 4000 ≤ N) {a : Nat} (ha : a ≤ n) (h7 : M.1 129 7 = nI a) : ∃ M', f_m_nextToken N M = some M' ∧ NS M M' ∧ M'.1 129 8 = nI (wsp B n a) ∧ M'.1 129 7 = nI (te B n (wsp B n a)) ∧ TkR M' B n (wsp B n a) := by
  have hn := hR.1
  have go : ∀ (m a : Nat) (M1 : Mem), NS M M1 → M1.1 129 7 = nI a → a ≤ n → n < a + m → ∃ M', f_m_nextToken_0 N m M1 = some M' ∧ NS M M' ∧ M'.1 129 8 = nI (wsp B n a) ∧ M'.1 129 7 = nI (te B n (wsp B n a)) ∧ TkR M' B n (wsp B n a) := by
    intro m
    induction m with
    | zero => intro a M1 h1 h2 h3; omega
    | succ m ih =>
      intro a M1 h1 h2 h3 h4
      have hR1 := hR.ns h1
      have ws : a < n → isWb (B a) = true → ∃ M', f_m_nextToken_0 N m (si M1 129 7 (nI (a + 1))) = some M' ∧ NS M M' ∧ M'.1 129 8 = nI (wsp B n a) ∧ M'.1 129 7 = nI (te B n (wsp B n a)) ∧ TkR M' B n (wsp B n a) := by
        intro lt w
        have := ih (a + 1) (si M1 129 7 (nI (a + 1))) (h1.si 7 _ (by omega)) (by rw [si_at, if_pos ⟨rfl, rfl⟩]) (by omega) (by omega)
        have e : wsp B n a = wsp B n (a + 1) := by
          unfold wsp
          rw [skp_lt (a := a) lt, if_pos w]
        rw [e]
        exact this
      rw [f_m_nextToken_0, show gi M1 129 7 = nI a from h2, r_byte hR1 h3, Option.bind_some]
      have h18 : NS M (si M1 129 8 (nI a)) := h1.si 8 _ (by omega)
      have hR8 := hR.ns h18
      have g7 : gi (si M1 129 8 (nI a)) 129 7 = nI a := h2
      have nwE : ∀ (hh : ¬ (a < n ∧ isWb (B a) = true)), wsp B n a = a := by
        intro hh
        unfold wsp
        by_cases lt : a < n
        · rw [skp_lt lt, if_neg (fun e => hh ⟨lt, e⟩)]
        · exact skp_ge (by omega)
      by_cases lt : a < n
      · have hb := (hR.2.2 a lt).1
        obtain ⟨f1, f2, f3, f4, f5, f6⟩ := isL_all (B a) hb
        obtain ⟨s1, s2, s3, s4, s5, s6, s7⟩ := sg_all (B a) hb
        rw [if_pos lt]
        by_cases w1 : B a = 32
        · rw [if_pos (f5.mpr w1), Option.bind_some, nI_1]
          exact ws lt (by rw [w1]; rfl)
        · rw [if_neg (fun e => w1 (f5.mp e)), Option.bind_some]
          by_cases w2 : B a = 10
          · rw [if_pos (f6.mpr w2), Option.bind_some, nI_1]
            exact ws lt (by rw [w2]; rfl)
          · have nw : isWb (B a) = false := by
              unfold isWb
              simp only [Bool.or_eq_false_iff, beq_eq_false_iff_ne]
              exact ⟨w1, w2⟩
            have ea : wsp B n a = a := nwE (fun e => by rw [nw] at e; cases e.2)
            rw [if_neg (fun e => w2 (f6.mp e)), Option.bind_some, g7, r_byte hR8 h3, Option.bind_some, if_pos lt, if_pos (show (0 : Int32) ≤ nI (B a) from nI_le (a := 0) (by omega) (by omega)), ea]
            cases ed : isDb (B a) with
            | true =>
              have el : isLb (B a) = false := by
                have := isD_rng ed
                cases q : isLb (B a) with
                | false => rfl
                | true => have := isL_rng q; omega
              have ete : te B n a = skp (fun i => isDb (B i)) n a := by unfold te; rw [if_neg (by omega), if_neg (by rw [el]; decide), if_pos ed]
              have ekd : kd B n a = 33 := by unfold kd; rw [if_neg (by omega), if_neg (by rw [el]; decide), if_pos ed]
              have enm : nm B n a = nv B a (te B n a - a) := by unfold nm; rw [if_neg (by omega), if_neg (by rw [el]; decide), if_pos ed]
              rw [if_neg (show ¬ f_m_isFigure (nI (B a)) (si M1 129 8 (nI a)) = 0 from fun e => by have := (r_isD hb (si M1 129 8 (nI a))).mp e; rw [ed] at this; cases this), Option.bind_some, Option.bind_some]
              obtain ⟨M', e1, e2, e3, e4, e5, r', e6, e7, e8, e9⟩ := r_num (M := M) (B := B) (n := n) (N := N) h3 N a 0 (si (si (si M1 129 8 (nI a)) 129 9 1) 129 10 0) (hR8.ns ((NS.rf.si 9 _ (by omega)).si 10 _ (by omega))) (Nat.le_refl _) skp_le (by omega) ((h18.si 9 _ (by omega)).si 10 _ (by omega)) (by rw [si_at, if_neg (by omega), si_at, if_neg (by omega)]; exact g7) (by rw [si_at, if_pos ⟨rfl, rfl⟩]; rfl) (by omega) (by intro _; rw [Nat.sub_self]; rfl) (by rw [Nat.sub_self]; intro hh; exact absurd (show 9999 < 0 from hh) (by decide))
              refine ⟨M', e1, e2, ?_, by rw [e3, ete], ?_, ?_, ?_, ?_⟩
              · rw [e4, si_at, if_neg (by omega), si_at, if_neg (by omega), si_at, if_pos ⟨rfl, rfl⟩]
              · rw [ekd]; intro hh; omega
              · rw [ekd]; intro hh; omega
              · intro _
                refine ⟨by rw [e5, si_at, if_neg (by omega), si_at, if_pos ⟨rfl, rfl⟩], r', by omega, e7, ?_, ?_⟩
                · rw [enm, ete]; exact e8
                · rw [enm, ete]; exact e9
              · rw [ekd]; intro hh; omega
            | false =>
              rw [if_pos ((r_isD hb _).mpr ed)]
              cases el : isLb (B a) with
              | true =>
                have ete : te B n a = skp (fun i => isLb (B i)) n a := by unfold te; rw [if_neg (by omega), if_pos el]
                have ekd : kd B n a = wx B a (te B n a) := by unfold kd; rw [if_neg (by omega), if_pos el]
                have tg := te_gt (B := B) lt
                rw [if_neg (show ¬ f_m_isLetterByte (nI (B a)) (si M1 129 8 (nI a)) = 0 from fun e => by have := (r_isL hb (si M1 129 8 (nI a))).mp e; rw [el] at this; cases this), Option.bind_some, Option.bind_some]
                obtain ⟨M', e1, e2, e3, e4, e5, e6⟩ := r_word (M := M) (B := B) (n := n) (N := N) h3 N a (sj (si (si M1 129 8 (nI a)) 129 9 2) 129 11 0) (hR8.ns ((NS.rf.si 9 _ (by omega)).sj _)) (Nat.le_refl _) skp_le (by omega) ((h18.si 9 _ (by omega)).sj _) (by show (si (si M1 129 8 (nI a)) 129 9 2).1 129 7 = _; rw [si_at, if_neg (by omega)]; exact g7) (by rw [sj_at, if_pos ⟨rfl, rfl⟩, Nat.sub_self]; rfl)
                have lin : ∀ t, t < te B n a - a → 1 ≤ B (a + t) ∧ B (a + t) < 256 := fun t ht => by
                  rw [ete] at ht
                  have := isL_rng (skp_in (p := fun i => isLb (B i)) (n := n) (a := a) (i := a + t) (by omega) (by omega))
                  omega
                have p6 : (256 : Nat) ^ 6 = 281474976710656 := by decide
                have p7 : (256 : Nat) ^ 7 = 72057594037927936 := by decide
                have wlt : wv B a (te B n a - a) < 2 ^ 63 := by
                  unfold wv
                  by_cases y : te B n a - a ≤ 7
                  · rw [if_pos y]
                    have := pkb_lt (B := B) (s := a) (m := te B n a - a) (fun t ht => (lin t ht).2)
                    have : (256 : Nat) ^ (te B n a - a) ≤ 256 ^ 7 := Nat.pow_le_pow_right (by decide) y
                    omega
                  · rw [if_neg y]; decide
                rw [← ete] at e3 e6
                refine ⟨M', e1, e2, ?_, e3, ?_, ?_, ?_, ?_⟩
                · rw [e4]
                  show (si (si M1 129 8 (nI a)) 129 9 2).1 129 8 = _
                  rw [si_at, if_neg (by omega), si_at, if_pos ⟨rfl, rfl⟩]
                · intro hk
                  refine ⟨by rw [e5]; show (si (si M1 129 8 (nI a)) 129 9 2).1 129 9 = _; rw [si_at, if_pos ⟨rfl, rfl⟩], ?_⟩
                  rw [e6]
                  have hw := (wx_iff B a (te B n a) (k := kd B n a) (by omega)).mp ekd.symm
                  have wl := wpk_lt (kd B n a) (by omega)
                  unfold wv
                  by_cases y : te B n a - a ≤ 7
                  · rw [if_pos y, hw]
                  · exfalso
                    have g := pkb_ge (B := B) (s := a) (m := te B n a - a - 1) (fun t ht => (lin t (by omega)).1)
                    rw [show te B n a - a - 1 + 1 = te B n a - a by omega, hw] at g
                    have : (256 : Nat) ^ 6 ≤ 256 ^ (te B n a - a - 1) := Nat.pow_le_pow_right (by decide) (by omega)
                    omega
                · intro hk
                  refine Or.inr ⟨by rw [e5]; show (si (si M1 129 8 (nI a)) 129 9 2).1 129 9 = _; rw [si_at, if_pos ⟨rfl, rfl⟩], fun k hk2 => ?_⟩
                  rw [e6]
                  intro e
                  have wl := wpk_lt k hk2
                  have e' := (pk_lEQ wlt (by omega)).mp e
                  have nk : ¬ pkb B a (te B n a - a) = wpk k := fun x => by
                    have := (wx_iff B a (te B n a) hk2).mpr x
                    omega
                  unfold wv at e'
                  by_cases y : te B n a - a ≤ 7
                  · rw [if_pos y] at e'; exact nk e'
                  · rw [if_neg y] at e'; omega
                · intro hk
                  have := wx_le B a (te B n a)
                  omega
                · intro hk
                  have := wx_le B a (te B n a)
                  omega
              | false =>
                have ete : te B n a = if two B n a = true then a + 2 else a + 1 := by unfold te; rw [if_neg (by omega), if_neg (by rw [el]; decide), if_neg (by rw [ed]; decide)]
                have ekd : kd B n a = if two B n a = true then (if B a = 60 then 46 else 47) else sgk (B a) := by unfold kd; rw [if_neg (by omega), if_neg (by rw [el]; decide), if_neg (by rw [ed]; decide)]
                have sl := sgk_le (B a)
                rw [if_pos ((r_isL hb _).mpr el)]
                by_cases sz : sgk (B a) = 32
                · have tw : ¬ two B n a = true := by
                    unfold two
                    simp only [Bool.and_eq_true, Nat.blt_eq, Bool.or_eq_true, beq_iff_eq]
                    intro e
                    rcases e.1 with e | e
                    · have := s3 e; omega
                    · have := s4 e; omega
                  rw [if_neg tw] at ete ekd
                  rw [if_pos (show f_m_isSign (nI (B a)) (si M1 129 8 (nI a)) = 0 from s1.mpr sz), Option.bind_some, show gi (si (si M1 129 8 (nI a)) 129 9 3) 129 7 = nI a from g7, Option.bind_some, if_neg (fun e => by have := s3 (s5.mp e); omega), if_neg (fun e => by have := s4 (s6.mp e); omega), nI_1]
                  refine ⟨_, rfl, (h18.si 9 _ (by omega)).si 7 _ (by omega), ?_, ?_, ?_, ?_, ?_, ?_⟩
                  · rw [si_at, if_neg (by omega), si_at, if_neg (by omega), si_at, if_pos ⟨rfl, rfl⟩]
                  · rw [si_at, if_pos ⟨rfl, rfl⟩, ete]
                  · rw [ekd]; intro hh; omega
                  · intro _; left; rw [si_at, if_neg (by omega), si_at, if_pos ⟨rfl, rfl⟩]
                  · rw [ekd]; intro hh; omega
                  · rw [ekd]; intro hh; omega
                · have s22 := s2 sz
                  rw [if_neg (show ¬ f_m_isSign (nI (B a)) (si M1 129 8 (nI a)) = 0 from fun e => sz (s1.mp e)), Option.bind_some, show gi (si (si M1 129 8 (nI a)) 129 9 (nI (B a))) 129 7 = nI a from g7, Option.bind_some, nI_1]
                  have h2S : NS M (si (si (si M1 129 8 (nI a)) 129 9 (nI (B a))) 129 7 (nI (a + 1))) := (h18.si 9 _ (by omega)).si 7 _ (by omega)
                  have g72 : gi (si (si (si M1 129 8 (nI a)) 129 9 (nI (B a))) 129 7 (nI (a + 1))) 129 7 = nI (a + 1) := by
                    show (si (si (si M1 129 8 (nI a)) 129 9 (nI (B a))) 129 7 (nI (a + 1))).1 129 7 = _
                    rw [si_at, if_pos ⟨rfl, rfl⟩]
                  have plain : ¬ two B n a = true → NS M (si (si (si M1 129 8 (nI a)) 129 9 (nI (B a))) 129 7 (nI (a + 1))) ∧ (si (si (si M1 129 8 (nI a)) 129 9 (nI (B a))) 129 7 (nI (a + 1))).1 129 8 = nI a ∧ (si (si (si M1 129 8 (nI a)) 129 9 (nI (B a))) 129 7 (nI (a + 1))).1 129 7 = nI (te B n a) ∧ TkR (si (si (si M1 129 8 (nI a)) 129 9 (nI (B a))) 129 7 (nI (a + 1))) B n a := by
                    intro tw
                    rw [if_neg tw] at ete ekd
                    refine ⟨h2S, ?_, ?_, ?_, ?_, ?_, ?_⟩
                    · rw [si_at, if_neg (by omega), si_at, if_neg (by omega), si_at, if_pos ⟨rfl, rfl⟩]
                    · rw [si_at, if_pos ⟨rfl, rfl⟩, ete]
                    · rw [ekd]; intro hh; omega
                    · rw [ekd]; intro hh; omega
                    · rw [ekd]; intro hh; omega
                    · intro _
                      rw [ekd, s22, si_at, if_neg (by omega), si_at, if_pos ⟨rfl, rfl⟩]
                  have h272 : (B a = 60 ∨ B a = 62) → ∃ M', f_m_nextToken_272 N (nI (B a)) (si (si (si M1 129 8 (nI a)) 129 9 (nI (B a))) 129 7 (nI (a + 1))) = some M' ∧ NS M M' ∧ M'.1 129 8 = nI a ∧ M'.1 129 7 = nI (te B n a) ∧ TkR M' B n a := by
                    intro hB
                    unfold f_m_nextToken_272
                    rw [g72, r_byte (hR.ns h2S) (by omega), Option.bind_some]
                    by_cases q : a + 1 < n ∧ B (a + 1) = 61
                    · have tw : two B n a = true := by
                        unfold two
                        simp only [Bool.and_eq_true, Nat.blt_eq, Bool.or_eq_true, beq_iff_eq]
                        exact ⟨hB, q.1, q.2⟩
                      rw [if_pos tw] at ete ekd
                      rw [if_pos q.1, if_pos (show nI (B (a + 1)) = (61 : Int32) by rw [q.2]; rfl)]
                      have fin : ∀ (v : Nat) (k : Nat), kd B n a = k → (k = 46 ∨ k = 47) → sgc k = v → NS M (si (si (si (si (si M1 129 8 (nI a)) 129 9 (nI (B a))) 129 7 (nI (a + 1))) 129 9 (nI v)) 129 7 (nI (a + 2))) ∧ (si (si (si (si (si M1 129 8 (nI a)) 129 9 (nI (B a))) 129 7 (nI (a + 1))) 129 9 (nI v)) 129 7 (nI (a + 2))).1 129 8 = nI a ∧ (si (si (si (si (si M1 129 8 (nI a)) 129 9 (nI (B a))) 129 7 (nI (a + 1))) 129 9 (nI v)) 129 7 (nI (a + 2))).1 129 7 = nI (te B n a) ∧ TkR (si (si (si (si (si M1 129 8 (nI a)) 129 9 (nI (B a))) 129 7 (nI (a + 1))) 129 9 (nI v)) 129 7 (nI (a + 2))) B n a := by
                        intro v k ek hk2 ev
                        refine ⟨(h2S.si 9 _ (by omega)).si 7 _ (by omega), ?_, ?_, ?_, ?_, ?_, ?_⟩
                        · rw [si_at, if_neg (by omega), si_at, if_neg (by omega), si_at, if_neg (by omega), si_at, if_neg (by omega), si_at, if_pos ⟨rfl, rfl⟩]
                        · rw [si_at, if_pos ⟨rfl, rfl⟩, ete]
                        · rw [ek]; intro hh; omega
                        · rw [ek]; intro hh; omega
                        · rw [ek]; intro hh; omega
                        · intro _
                          rw [ek, ev, si_at, if_neg (by omega), si_at, if_pos ⟨rfl, rfl⟩]
                      by_cases z : B a = 60
                      · rw [if_pos z] at ekd
                        rw [if_pos (s5.mpr z), Option.bind_some, show gi (si (si (si (si M1 129 8 (nI a)) 129 9 (nI (B a))) 129 7 (nI (a + 1))) 129 9 4) 129 7 = nI (a + 1) from g72, Option.bind_some, nI_1]
                        exact ⟨_, rfl, fin 4 46 ekd (Or.inl rfl) (by decide)⟩
                      · rw [if_neg z] at ekd
                        rw [if_neg (fun e => z (s5.mp e)), Option.bind_some, show gi (si (si (si (si M1 129 8 (nI a)) 129 9 (nI (B a))) 129 7 (nI (a + 1))) 129 9 5) 129 7 = nI (a + 1) from g72, Option.bind_some, nI_1]
                        exact ⟨_, rfl, fin 5 47 ekd (Or.inr rfl) (by decide)⟩
                    · have tw : ¬ two B n a = true := by
                        unfold two
                        simp only [Bool.and_eq_true, Nat.blt_eq, Bool.or_eq_true, beq_iff_eq]
                        exact fun e => q e.2
                      have n61 : ¬ (if a + 1 < n then nI (B (a + 1)) else -1) = (61 : Int32) := by
                        by_cases y : a + 1 < n
                        · rw [if_pos y]
                          have b1 := (hR.2.2 (a + 1) y).1
                          intro e
                          exact q ⟨y, (sg_all _ b1).2.2.2.2.2.2.mp e⟩
                        · rw [if_neg y]; decide
                      rw [if_neg n61]
                      exact ⟨_, rfl, plain tw⟩
                  by_cases z : B a = 60
                  · rw [if_pos (s5.mpr z)]
                    exact h272 (Or.inl z)
                  · rw [if_neg (fun e => z (s5.mp e))]
                    by_cases z2 : B a = 62
                    · rw [if_pos (s6.mpr z2)]
                      exact h272 (Or.inr z2)
                    · rw [if_neg (fun e => z2 (s6.mp e))]
                      have tw : ¬ two B n a = true := by
                        unfold two
                        simp only [Bool.and_eq_true, Nat.blt_eq, Bool.or_eq_true, beq_iff_eq]
                        intro e
                        rcases e.1 with e | e
                        · exact z e
                        · exact z2 e
                      exact ⟨_, rfl, plain tw⟩
      · have ean : a = n := by omega
        have ea : wsp B n a = a := nwE (fun e => lt e.1)
        have ekd : kd B n a = 48 := by unfold kd; rw [if_pos (by omega)]
        have ete : te B n a = a := by unfold te; rw [if_pos (by omega)]
        rw [if_neg lt, if_neg (show ¬ (-1 : Int32) = 32 by decide), Option.bind_some, if_neg (show ¬ (-1 : Int32) = 10 by decide), Option.bind_some, g7, r_byte hR8 h3, Option.bind_some, if_neg lt, if_neg (show ¬ (0 : Int32) ≤ -1 by decide), Option.bind_some, ea]
        refine ⟨_, rfl, h18.si 9 _ (by omega), ?_, ?_, ?_, ?_, ?_, ?_⟩
        · rw [si_at, if_neg (by omega), si_at, if_pos ⟨rfl, rfl⟩]
        · rw [si_at, if_neg (by omega), ete]; exact g7
        · rw [ekd]; intro hh; omega
        · rw [ekd]; intro hh; omega
        · rw [ekd]; intro hh; omega
        · intro _
          rw [ekd, si_at, if_pos ⟨rfl, rfl⟩]
          rfl
  exact go N a M NS.rf h7 ha (by omega)
end NEXT
