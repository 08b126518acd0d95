/-! The class cuts the tape into tokens. -/
def LxC (M : Mem) (B : Nat → Nat) (n : Nat) : Prop := n ≤ 300 ∧ M.1 100 3 = nI n ∧ ∀ i, i < n → B i < 256 ∧ M.1 101 i = nI (B i)
theorem isL_all : ∀ b, b < 256 → ((f_a_isLetter (nI b) M0 = 0) ↔ isLb b = false) ∧ ((f_a_isDigit (nI b) M0 = 0) ↔ isDb b = false) ∧ ((f_m_isLetterByte (nI b) M0 = 0) ↔ isLb b = false) ∧ ((f_m_isFigure (nI b) M0 = 0) ↔ isDb b = false) ∧ ((nI b = (32 : Int32)) ↔ b = 32) ∧ ((nI b = (10 : Int32)) ↔ b = 10) := by decide +kernel
section CUT
variable {M : Mem} {B : Nat → Nat} {n N : Nat}
theorem LxC.byte (h : LxC M B n) {i : Nat} (hi : i < 2 ^ 31) : f_a_byteAt (nI i) M = some (nI (if i < n then B i else 0)) := by
  obtain ⟨h1, h2, h3⟩ := h
  unfold f_a_byteAt
  rw [if_neg (nI_pos hi), show gi M 100 3 = nI n from h2]
  by_cases q : i < n
  · rw [if_neg (nI_ge q (by omega)), if_neg (show ¬ (300 : Int32) ≤ nI i from nI_ge (b := 300) (by omega) (by decide)), if_pos (am_in_nI (by omega) (by decide)), nI_clamp hi, if_pos q]
    exact congrArg some (h3 i q).2
  · rw [if_pos (nI_le (by omega) hi), if_neg q]
    rfl
theorem LxC.b256 (h : LxC M B n) (i : Nat) : (if i < n then B i else 0) < 256 := by
  split
  · exact (h.2.2 i (by assumption)).1
  · omega
theorem c_isL {b : Nat} (hb : b < 256) (M : Mem) : (f_a_isLetter (nI b) M = 0) ↔ isLb b = false := (isL_all b hb).1
theorem c_isD {b : Nat} (hb : b < 256) (M : Mem) : (f_a_isDigit (nI b) M = 0) ↔ isDb b = false := (isL_all b hb).2.1
theorem c_char {i : Nat} (hi : i < 163) (M : Mem) : f_j_charAt0_1 (nI i) M = some (nI (chW i), M) := by
  obtain ⟨c1, c2, c3, c4⟩ := ch_all i hi
  unfold f_j_charAt0_1 f_j_charAt1_3 f_j_checkIndex0 f_j_checkIndex1
  rw [if_neg (nI_pos (by omega)), if_pos (show nI i < (163 : Int32) from nI_lt (b := 163) hi (by decide)), Option.bind_some, Option.bind_some, if_pos c1, nI_clamp (by omega)]
  show (Option.bind (if narrow .char (.int (cvW i)) = .int (cvW i) then some (cvW i, M) else none) fun q1 => (if narrow .char (.int q1.1) = .int q1.1 then some (q1.1, q1.2) else none)) = _
  rw [if_pos c2, Option.bind_some, if_pos c2, c3]
theorem len163 (M : Mem) : f_j_length_1 M = nI 163 := by
  show ((163 : Int32) >>> (0 : Int32)) = nI 163
  decide
/-- does word k stand at s? -/
theorem c_wordAt (h : LxC M B n) (hN : 4000 ≤ N) {s e k : Nat} (hk : k < 32) (he : e ≤ n) (hse : s ≤ e) (hl : e - s = wl k) : ∃ v, f_a_isWordAt N (nI (wb k)) (nI (wb k + wl k)) (nI s) M = some (v, M) ∧ (v = 0 ∨ v = 1) ∧ (v = 1 ↔ ∀ t, t < wl k → B (s + t) = chW (wb k + t)) := by
  obtain ⟨w1, w2, w3, w4, w5, w6⟩ := wb_all k hk
  have hn := h.1
  unfold f_a_isWordAt
  have go : ∀ m t, t ≤ wl k → wl k < t + m → (∀ u, u < t → B (s + u) = chW (wb k + u)) → ∃ v, f_a_isWordAt_3 N m (nI (wb k)) (nI (wb k + wl k)) (nI s) (nI (wb k + t)) M = some (v, M) ∧ (v = 0 ∨ v = 1) ∧ (v = 1 ↔ ∀ t, t < wl k → B (s + t) = chW (wb k + t)) := by
    intro m
    induction m with
    | zero => intro t a b; omega
    | succ m ih =>
      intro t a b c
      rw [f_a_isWordAt_3]
      by_cases q : t = wl k
      · subst q
        exact ⟨1, by rw [if_pos (nI_le (Nat.le_refl _) (by omega))], Or.inr rfl, fun _ => c, fun _ => rfl⟩
      · have ix : nI s + nI (wb k + t) - nI (wb k) = nI (s + t) := by
          rw [nI_add, nI_sub (by omega)]
          congr 1
          omega
        obtain ⟨-, -, -, c4⟩ := ch_all (wb k + t) (by omega)
        have b1 := (h.2.2 (s + t) (by omega)).1
        rw [if_neg (nI_ge (by omega) (by omega)), len163, if_neg (nI_ge (by omega) (by omega)), c_char (by omega), Option.bind_some]
        show ∃ v, (Option.bind (f_a_byteAt (nI s + nI (wb k + t) - nI (wb k)) M) fun q2 => if nI (chW (wb k + t)) = q2 then f_a_isWordAt_3 N m (nI (wb k)) (nI (wb k + wl k)) (nI s) (nI (wb k + t) + 1) M else some (0, M)) = some (v, M) ∧ _
        rw [ix, h.byte (by omega), Option.bind_some, if_pos (show s + t < n by omega), nI_1]
        by_cases z : B (s + t) = chW (wb k + t)
        · rw [if_pos (show nI (chW (wb k + t)) = nI (B (s + t)) by rw [z])]
          refine ih (t + 1) (by omega) (by omega) (fun u hu => ?_)
          by_cases e2 : u = t
          · rw [e2]; exact z
          · exact c u (by omega)
        · rw [if_neg (fun e => z ((nI_eq (by omega) (by omega)).mp e).symm)]
          exact ⟨0, rfl, Or.inl rfl, fun e => absurd e (by decide), fun e => absurd (e t (by omega)) z⟩
  exact go N 0 (by omega) (by omega) (fun u hu => by omega)
theorem c_wordOf (h : LxC M B n) (hN : 4000 ≤ N) {s e : Nat} (he : e ≤ n) (hse : s ≤ e) (hL : ∀ i, s ≤ i → i < e → isLb (B i) = true) : f_a_wordOf N (nI s) (nI e) M = some (nI (wx B s e), M) := by
  have hn := h.1
  unfold f_a_wordOf
  have wb32 : wb 32 = 163 := by decide
  have go : ∀ m k i, k < 32 → wb k ≤ i → i ≤ wb k + wl k → 163 < i + m → (∀ j, j < k → ¬ wx B s e = j) → f_a_wordOf_8 N m (nI s) (nI e) (nI k) (nI (wb k)) (nI i) M = some (nI (wx B s e), M) := by
    intro m
    induction m with
    | zero =>
      intro k i hk a b c
      obtain ⟨w1, w2, -⟩ := wb_all k hk
      omega
    | succ m ih =>
      intro k i hk a b c d
      obtain ⟨w1, w2, w3, w4, w5, w6⟩ := wb_all k hk
      rw [f_a_wordOf_8, len163, if_neg (nI_ge (by omega) (by omega)), c_char (by omega), Option.bind_some]
      by_cases q : i = wb k + wl k
      · subst q
        have nxt : (¬ wx B s e = k) → f_a_wordOf_8 N m (nI s) (nI e) (nI k + 1) (nI (wb k + wl k) + 1) (nI (wb k + wl k) + 1) M = some (nI (wx B s e), M) := by
          intro nk
          rw [nI_1, nI_1, w1]
          by_cases k31 : k = 31
          · subst k31
            have e32 : wx B s e = 32 := by
              have := wx_le B s e
              by_cases z : wx B s e = 32
              · exact z
              · exfalso
                by_cases z2 : wx B s e = 31
                · exact nk z2
                · exact d _ (show wx B s e < 31 by omega) rfl
            obtain ⟨m', rfl⟩ : ∃ m', m = m' + 1 := ⟨m - 1, by omega⟩
            rw [show wb (31 + 1) = 163 from wb32, f_a_wordOf_8, len163, if_pos (nI_le (Nat.le_refl _) (by omega)), e32]
            rfl
          · obtain ⟨v1, v2, -⟩ := wb_all (k + 1) (by omega)
            refine ih (k + 1) (wb (k + 1)) (by omega) (Nat.le_refl _) (by omega) (by omega) (fun j hj => ?_)
            by_cases e2 : j = k
            · rw [e2]; exact nk
            · exact d j (by omega)
        rw [if_pos (show nI (chW (wb k + wl k)) = (32 : Int32) by rw [w5]; rfl), nI_sub (show wb k ≤ wb k + wl k by omega), nI_sub hse, show wb k + wl k - wb k = wl k by omega]
        by_cases z : e - s = wl k
        · obtain ⟨v, v1, v2, v3⟩ := c_wordAt h hN hk he hse z
          rw [if_pos (show nI (wl k) = nI (e - s) by rw [z]), v1, Option.bind_some]
          have key : v = 1 ↔ wx B s e = k := by
            rw [v3, wx_iff B s e hk, ← Mt_pk hk hse hL]
            exact ⟨fun x => ⟨z, x⟩, fun x => x.2⟩
          rcases v2 with rfl | rfl
          · rw [if_pos (show (0 : Int32) = 0 from rfl)]
            exact nxt (fun e2 => absurd (key.mpr e2) (by decide))
          · rw [if_neg (show ¬ (1 : Int32) = 0 by decide), key.mp rfl]
        · rw [if_neg (fun e2 => z ((nI_eq (by omega) (by omega)).mp e2).symm)]
          refine nxt (fun e2 => z ?_)
          rw [wx_iff B s e hk, ← Mt_pk hk hse hL] at e2
          exact e2.1
      · have nc := (w6 (i - wb k) (by omega) (by omega)).1
        rw [show wb k + (i - wb k) = i by omega] at nc
        obtain ⟨-, -, -, c4⟩ := ch_all i (by omega)
        rw [if_neg (show ¬ nI (chW i) = (32 : Int32) from fun e2 => nc ((nI_eq (b := 32) (by omega) (by decide)).mp e2)), nI_1]
        exact ih k (i + 1) hk (by omega) (by omega) (by omega) d
  exact go N 0 0 (by omega) (by decide) (by omega) (by omega) (fun j hj => by omega)
/-- the token at s, as a number -/
def tkv (B : Nat → Nat) (n s : Nat) : Nat := kd B n s + 64 * s + 32768 * nm B n s
theorem c_add {k s v j : Nat} (hk : k < 64) (hs : s < 512) (hv : v ≤ 10000) (hj : j ≤ 300) (h2 : M.1 100 2 = nI j) : f_a_add (nI k) (nI s) (nI v) M = some (si (si M 102 j (nI (k + 64 * s + 32768 * v))) 100 2 (nI (j + 1))) := by
  have e2 : (nI k ||| nI s <<< (6 : Int32)) ||| nI v <<< (15 : Int32) = nI (k + 64 * s + 32768 * v) := by
    rw [pk_shlN 6 6 (by decide) (by omega), pk_shlN 15 15 (by decide) (by omega), fa_or, fa_or, or_add (a := k) (b := s) (i := 6) (by omega), or_add (a := k + s * 2 ^ 6) (b := v) (i := 15) (by omega)]
    congr 1
    omega
  unfold f_a_add
  rw [show gi M 100 2 = nI j from h2, if_neg (nI_pos (by omega)), if_neg (show ¬ (300 : Int32) < nI j from nI_nlt (a := 300) (by omega) (by omega)), if_pos (am_in_nI (by omega) (by decide)), nI_clamp (by omega), e2, Option.bind_some, show gi (si M 102 j (nI (k + 64 * s + 32768 * v))) 100 2 = nI j from h2, nI_1, Option.bind_some]
def adT (M : Mem) (B : Nat → Nat) (n s j : Nat) : Mem := si (si M 102 j (nI (tkv B n s))) 100 2 (nI (j + 1))
theorem c_cutWord (h : LxC M B n) (hN : 4000 ≤ N) {s j : Nat} (hs : s < n) (hj : j ≤ 300) (h2 : M.1 100 2 = nI j) (hl : isLb (B s) = true) : f_a_cutWord N (nI s) M = some (nI (te B n s), adT M B n s j) := by
  have hn := h.1
  have ete : te B n s = skp (fun i => isLb (B i)) n s := by unfold te; rw [if_neg (by omega), if_pos hl]
  have ekd : kd B n s = wx B s (te B n s) := by unfold kd; rw [if_neg (by omega), if_pos hl]
  have enm : nm B n s = 0 := by unfold nm; rw [if_neg (by omega), if_pos hl]
  have hte := te_n (B := B) (show s ≤ n by omega)
  have htg := te_gt (B := B) hs
  have hin : ∀ i, s ≤ i → i < te B n s → isLb (B i) = true := fun i a b => by
    rw [ete] at b
    exact skp_in (p := fun i => isLb (B i)) a b
  have endd : ∀ _ : Nat, ∃ q, f_a_wordOf N (nI s) (nI (te B n s)) M = some q ∧ (Option.bind (some q) fun q1 => Option.bind (f_a_add q1.1 (nI s) (0 : Int32) q1.2) fun q2 => some (nI (te B n s), q2)) = some (nI (te B n s), adT M B n s j) := by
    intro m
    refine ⟨_, c_wordOf h hN hte (by omega) hin, ?_⟩
    have hw := wx_le B s (te B n s)
    have := c_add (M := M) (k := wx B s (te B n s)) (s := s) (v := 0) (j := j) (by omega) (by omega) (by omega) hj h2
    rw [Option.bind_some]
    show (Option.bind (f_a_add (nI (wx B s (te B n s))) (nI s) (nI 0) M) fun q2 => some (nI (te B n s), q2)) = _
    rw [this, Option.bind_some]
    unfold adT tkv
    rw [ekd, enm]
  unfold f_a_cutWord
  have go : ∀ m a, s ≤ a → a ≤ te B n s → 301 < (a - s) + m → f_a_cutWord_4 N m (nI s) (nI a) (nI (a - s)) M = some (nI (te B n s), adT M B n s j) := by
    intro m
    induction m with
    | zero => intro a b c; omega
    | succ m ih =>
      intro a b c d
      rw [f_a_cutWord_4, h.byte (by omega), Option.bind_some]
      by_cases q : a = te B n s
      · obtain ⟨r, r1, r2⟩ := endd m
        subst q
        rw [r1, r2]
        have b0 := h.b256 (te B n s)
        have nl : isLb (if te B n s < n then B (te B n s) else 0) = false := by
          by_cases z : te B n s < n
          · rw [if_pos z]
            rw [ete] at z ⊢
            exact skp_stop (p := fun i => isLb (B i)) (by omega) z
          · rw [if_neg z]
            decide
        rw [if_pos ((c_isL b0 M).mpr nl)]
        split <;> rfl
      · have lt : a < n := by omega
        have ll : isLb (B a) = true := hin a b (by omega)
        have b0 := (h.2.2 a lt).1
        rw [if_pos lt, if_neg (show ¬ (300 : Int32) ≤ nI (a - s) from nI_ge (b := 300) (by omega) (by decide)), if_neg (fun e => by have := (c_isL b0 M).mp e; rw [ll] at this; cases this), nI_1, nI_1]
        have := ih (a + 1) (by omega) (by omega) (by omega)
        rw [show a + 1 - s = a - s + 1 by omega] at this
        exact this
  have := go N s (Nat.le_refl _) (by omega) (by omega)
  rw [Nat.sub_self] at this
  exact this
theorem isD_rng {b : Nat} (h : isDb b = true) : 48 ≤ b ∧ b ≤ 57 := by
  unfold isDb at h
  simp only [Bool.and_eq_true, Nat.ble_eq] at h
  omega
theorem c_cutNumber (h : LxC M B n) (hN : 4000 ≤ N) {s j : Nat} (hs : s < n) (hj : j ≤ 300) (h2 : M.1 100 2 = nI j) (hl : isLb (B s) = false) (hd : isDb (B s) = true) : f_a_cutNumber N (nI s) M = some (nI (te B n s), adT M B n s j) := by
  have hn := h.1
  have ete : te B n s = skp (fun i => isDb (B i)) n s := by unfold te; rw [if_neg (by omega), if_neg (by rw [hl]; decide), if_pos hd]
  have ekd : kd B n s = 33 := by unfold kd; rw [if_neg (by omega), if_neg (by rw [hl]; decide), if_pos hd]
  have enm : nm B n s = nv B s (te B n s - s) := by unfold nm; rw [if_neg (by omega), if_neg (by rw [hl]; decide), if_pos hd]
  have hte := te_n (B := B) (show s ≤ n by omega)
  have htg := te_gt (B := B) hs
  have hin : ∀ i, s ≤ i → i < te B n s → isDb (B i) = true := fun i a b => by
    rw [ete] at b
    exact skp_in (p := fun i => isDb (B i)) a b
  unfold f_a_cutNumber
  have go : ∀ m a, s ≤ a → a ≤ te B n s → 301 < (a - s) + m → f_a_cutNumber_7 N m (nI s) (nI a) (nI (nv B s (a - s))) (nI (a - s)) M = some (nI (te B n s), adT M B n s j) := by
    intro m
    induction m with
    | zero => intro a b c; omega
    | succ m ih =>
      intro a b c d
      have nvl := nv_le B s (a - s)
      rw [f_a_cutNumber_7, h.byte (by omega), Option.bind_some, Option.bind_some]
      by_cases q : a = te B n s
      · subst q
        have b0 := h.b256 (te B n s)
        have nl : isDb (if te B n s < n then B (te B n s) else 0) = false := by
          by_cases z : te B n s < n
          · rw [if_pos z]
            rw [ete] at z ⊢
            exact skp_stop (p := fun i => isDb (B i)) (by omega) z
          · rw [if_neg z]
            decide
        have ad := c_add (M := M) (k := 33) (s := s) (v := nv B s (te B n s - s)) (j := j) (by omega) (by omega) nvl hj h2
        have ad' : f_a_add (33 : Int32) (nI s) (nI (nv B s (te B n s - s))) M = some (adT M B n s j) := by
          unfold adT tkv
          rw [ekd, enm]
          exact ad
        rw [ad', Option.bind_some, if_pos ((c_isD b0 M).mpr nl)]
        split <;> rfl
      · have lt : a < n := by omega
        have ll : isDb (B a) = true := hin a b (by omega)
        have b0 := (h.2.2 a lt).1
        have rg := isD_rng ll
        have ev : f_k_min0 (nI (nv B s (a - s)) * (10 : Int32) + nI (B a) - (48 : Int32)) (10000 : Int32) M = nI (nv B s (a - s + 1)) := by
          rw [show (10 : Int32) = nI 10 from rfl, show (48 : Int32) = nI 48 from rfl, nI_mul, nI_add, nI_sub (by omega)]
          unfold f_k_min0
          show _ = nI (min (nv B s (a - s) * 10 + (B (s + (a - s)) - 48)) 10000)
          rw [show s + (a - s) = a by omega]
          by_cases z : 10000 < nv B s (a - s) * 10 + B a - 48
          · rw [if_pos (show (10000 : Int32) < nI (nv B s (a - s) * 10 + B a - 48) from nI_lt (a := 10000) z (by omega)), Nat.min_eq_right (by omega)]
            rfl
          · rw [if_neg (show ¬ (10000 : Int32) < nI (nv B s (a - s) * 10 + B a - 48) from nI_nlt (a := 10000) (by omega) (by omega)), Nat.min_eq_left (by omega)]
            congr 1
            omega
        rw [if_pos lt, if_neg (show ¬ (300 : Int32) ≤ nI (a - s) from nI_ge (b := 300) (by omega) (by decide)), if_neg (fun e => by have := (c_isD b0 M).mp e; rw [ll] at this; cases this), ev, nI_1, nI_1]
        have := ih (a + 1) (by omega) (by omega) (by omega)
        rw [show a + 1 - s = a - s + 1 by omega] at this
        exact this
  have := go N s (Nat.le_refl _) (by omega) (by omega)
  rw [Nat.sub_self] at this
  exact this
end CUT
