/-! What is asked of the guests. -/
theorem ct_lt {p q : Nat → Bool} : ∀ {n : Nat}, (∀ i, i < n → p i = true → q i = true) → (∃ k, k < n ∧ q k = true ∧ p k = false) → ct p n < ct q n
  | 0, _, ⟨k, h, _⟩ => by omega
  | n + 1, h, ⟨k, hk, h1, h2⟩ => by
    have le : ∀ m, m ≤ n + 1 → ct p m ≤ ct q m := by
      intro m
      induction m with
      | zero => intro _; exact Nat.le_refl _
      | succ m ih =>
        intro hm
        have := ih (by omega)
        have := h m (by omega)
        show ct p m + _ ≤ ct q m + _
        by_cases a : p m = true
        · rw [if_pos a, if_pos (this a)]; omega
        · rw [if_neg a]; omega
    show ct p n + _ < ct q n + _
    by_cases e : k = n
    · subst e
      have := le k (by omega)
      rw [if_pos h1, if_neg (by rw [h2]; decide)]
      omega
    · have := ct_lt (n := n) (fun i hi => h i (by omega)) ⟨k, by omega, h1, h2⟩
      by_cases a : p n = true
      · rw [if_pos a, if_pos (h n (by omega) a)]; omega
      · rw [if_neg a]; omega
theorem ct_one {p q : Nat → Bool} {k : Nat} : ∀ {n : Nat}, k < n → q k = true → p k = false → (∀ i, i < n → i ≠ k → p i = q i) → ct q n = ct p n + 1
  | 0, h, _, _, _ => by omega
  | n + 1, h, h1, h2, h3 => by
    show ct q n + _ = ct p n + _ + 1
    by_cases e : k = n
    · subst e
      rw [if_pos h1, if_neg (by rw [h2]; decide), ct_congr (p := q) (q := p) (n := k) (fun i hi => (h3 i (by omega) (by omega)).symm)]
    · rw [ct_one (n := n) (by omega) h1 h2 (fun i hi hk => h3 i (by omega) hk), h3 n (by omega) (by omega)]
      omega
/-- the guests' own cells -/
theorem Inv.pg {X : (Nat → Nat → Int32) → Nat → Prop} {M : Mem} (hM : Inv X M) {c nt mo dr gn sp : Nat} {lm lw lk lf bh bd : Nat → Nat} (h : Cx M M c nt mo dr gn sp lm lw lk lf bh bd) : PG (M.1 7 3) (M.1 8) (M.1 9) (M.1 10) (M.1 130) c := by
  obtain ⟨c', t, ck, tk, ⟨h1, -⟩, -⟩ := hM
  have e := h1.2.1
  have l := h1.1
  have e2 := h.c7
  have l2 := h.c8
  have : c' = c := nI_inj (by omega) (by omega) (e.symm.trans e2)
  subst this
  exact h1
def rk (M : Mem) (g : Nat) : Nat := (M.1 8 g).toNatClampNeg
theorem PG.r {M Mr : Mem} {cn : Int32} {c : Nat} (h : PG cn (M.1 8) (M.1 9) (M.1 10) (Mr.1 130) c) {g : Nat} (hg : g < c) : rk M g ≤ 9 ∧ M.1 8 g = nI (rk M g) ∧ Mr.1 130 (12 + 7 * g) = nI (rk M g) := by
  obtain ⟨r, h1, h2, h3⟩ := (h.2.2.2 g hg).1
  have e : rk M g = r := by unfold rk; rw [h2, nI_clamp (by omega)]
  rw [e]
  exact ⟨h1, h2, h3⟩
section BYRANK
variable {X : (Nat → Nat → Int32) → Nat → Prop} {N : Nat}
def ahd (r : Nat → Nat) (gn g : Nat) (j : Nat) : Bool := (decide (r g < r j) || (decide (r j = r g) && decide (j < g))) && !gn.testBit j
theorem ahd_inj {r : Nat → Nat} {gn c g k : Nat} (hg : g < c) (hk : k < c) (tg : gn.testBit g = false) (tk : gn.testBit k = false) (e : ct (ahd r gn g) c = ct (ahd r gn k) c) : g = k := by
  have key : ∀ a b, a < c → b < c → gn.testBit a = false → gn.testBit b = false → (r b < r a ∨ (r a = r b ∧ a < b)) → ct (ahd r gn a) c < ct (ahd r gn b) c := by
    intro a b ha hb ta tb hab
    refine ct_lt (fun i hi h => ?_) ⟨a, ha, ?_, ?_⟩
    · unfold ahd at h ⊢
      simp only [Bool.and_eq_true, Bool.or_eq_true, decide_eq_true_eq] at h ⊢
      refine ⟨?_, h.2⟩
      omega
    · unfold ahd
      simp only [Bool.and_eq_true, Bool.or_eq_true, decide_eq_true_eq]
      exact ⟨by omega, by rw [ta]; rfl⟩
    · unfold ahd
      have h1 : decide (r a < r a) = false := by simp
      have h2 : decide (a < a) = false := by simp
      rw [h1, h2]
      simp
  by_cases q : g = k
  · exact q
  · exfalso
    by_cases a : r k < r g ∨ (r g = r k ∧ g < k)
    · have := key g k hg hk tg tk a
      omega
    · have := key k g hk hg tk tg (by omega)
      omega
theorem o_28 (_hX : XC X) (hN : 4000 ≤ N) : O_28 (Inv X) (Inv X) N := by
  intro M x hM
  obtain ⟨c, nt, mo, dr, gn, sp, lm, lw, lk, lf, bh, bd, h⟩ := hM.cx
  have hP := hM.pg h
  have hc := h.c8
  have ahead : ∀ g, g < c → f_w_aheadByRank N (nI g) M = some (nI (ct (ahd (rk M) gn g) c)) := by
    intro g hg
    obtain ⟨g1, g2, g3⟩ := hP.r hg
    rw [f_w_aheadByRank]
    refine run_loop (fun n a i => f_w_aheadByRank_16 N n (nI g) a i M) (fun i => nI (ct (ahd (rk M) gn g) i)) _ c (fun n => ?_) (fun n i hi => ?_) N 0 (by omega) (by omega)
    · show f_w_aheadByRank_16 N (n + 1) _ _ _ M = _
      rw [f_w_aheadByRank_16, if_pos h.ecn]
    · show f_w_aheadByRank_16 N (n + 1) _ _ _ M = f_w_aheadByRank_16 N n _ (nI (ct (ahd (rk M) gn g) i + if ahd (rk M) gn g i = true then 1 else 0)) _ M
      obtain ⟨i1, i2, i3⟩ := hP.r hi
      have ai : am_in (nI i) 8 = true := am_in_nI (by omega) (by decide)
      have ag : am_in (nI g) 8 = true := am_in_nI (by omega) (by decide)
      have k62 : ∀ b : Bool, f_w_aheadByRank_62 N (f_w_aheadByRank_16 N n) (nI g) (nI (ct (ahd (rk M) gn g) i)) (nI i) (if b = true then 1 else 0) M = f_w_aheadByRank_16 N n (nI g) (nI (ct (ahd (rk M) gn g) i + if (b && !gn.testBit i) = true then 1 else 0)) (nI (i + 1)) M := by
        intro b
        rw [f_w_aheadByRank_62, h.cis hi, nI_1, nI_1]
        cases b
        · rfl
        · by_cases q : gn.testBit i = true
          · rw [q]; rfl
          · rw [show gn.testBit i = false by simpa using q]; rfl
      have k0 := k62 false
      have k1 := k62 true
      rw [f_w_aheadByRank_16, if_neg (h.ncn hi)]
      simp only [if_pos ai, if_pos ag, nI_clamp (show i < 2 ^ 31 by omega), nI_clamp (show g < 2 ^ 31 by omega)]
      rw [show gi M 8 g = nI (rk M g) from g2, show gi M 8 i = nI (rk M i) from i2]
      unfold ahd
      by_cases a : rk M g < rk M i
      · rw [if_pos (nI_lt a (by omega)), show (decide (rk M g < rk M i) || (decide (rk M i = rk M g) && decide (i < g))) = true by simp [a]]
        exact k1
      · rw [if_neg (nI_nlt (by omega) (by omega))]
        by_cases b : rk M i = rk M g
        · rw [if_pos (by rw [b])]
          by_cases d : i < g
          · rw [if_neg (nI_ge d (by omega)), show (decide (rk M g < rk M i) || (decide (rk M i = rk M g) && decide (i < g))) = true by simp [b, d]]
            exact k1
          · rw [if_pos (nI_le (by omega) (by omega)), show (decide (rk M g < rk M i) || (decide (rk M i = rk M g) && decide (i < g))) = false by simp [a, d]]
            exact k0
        · rw [if_neg (fun q => b ((nI_eq (by omega) (by omega)).mp q)), show (decide (rk M g < rk M i) || (decide (rk M i = rk M g) && decide (i < g))) = false by simp [a, b]]
          exact k0
  let P : Nat → Prop := fun g => gn.testBit g = false ∧ nI (ct (ahd (rk M) gn g) c) = x
  have hcl : ∀ g, ct (ahd (rk M) gn g) c ≤ 8 := fun g => Nat.le_trans (ct_le _ _) hc
  have uni : ∀ g k, g < c → k < c → P g → P k → g = k := by
    intro g k hg hk a b
    have e : nI (ct (ahd (rk M) gn g) c) = nI (ct (ahd (rk M) gn k) c) := a.2.trans b.2.symm
    exact ahd_inj hg hk a.1 b.1 (nI_inj (by have := hcl g; omega) (by have := hcl k; omega) e)
  let R : Int32 → Prop := fun v => (v = -1 ∧ ∀ g, g < c → ¬ P g) ∨ ∃ g, g < c ∧ P g ∧ v = nI g
  have cl : ∃ v, f_w_byRank N x M = some v ∧ R v := by
    rw [f_w_byRank]
    have gen : ∀ n i, i ≤ c → c < i + n → (∀ g, g < i → ¬ P g) → ∃ v, f_w_byRank_2 N n x (nI i) M = some v ∧ R v := by
      intro n
      induction n with
      | zero => intro i h1 h2; omega
      | succ n ih =>
        intro i h1 h2 hn
        rw [f_w_byRank_2]
        by_cases e : i = c
        · subst e
          exact ⟨-1, by rw [if_pos h.ecn], Or.inl ⟨rfl, hn⟩⟩
        · have hi : i < c := by omega
          rw [if_neg (h.ncn hi), h.cis hi, ahead i hi, Option.bind_some, nI_1]
          by_cases q : gn.testBit i = true
          · rw [if_pos q, if_pos rfl]
            exact ih (i + 1) (by omega) (by omega) (fun g hg hp => by
              by_cases e : g = i
              · subst e; rw [hp.1] at q; cases q
              · exact hn g (by omega) hp)
          · rw [if_neg q, if_neg (by decide)]
            by_cases r : nI (ct (ahd (rk M) gn i) c) = x
            · exact ⟨nI i, by rw [if_pos r], Or.inr ⟨i, hi, ⟨by simpa using q, r⟩, rfl⟩⟩
            · rw [if_neg r]
              exact ih (i + 1) (by omega) (by omega) (fun g hg hp => by
                by_cases e : g = i
                · subst e; exact r hp.2
                · exact hn g (by omega) hp)
    exact gen N 0 (by omega) (by omega) (fun g hg => by omega)
  let V : Nat → Nat → Nat → Bool := fun r j i => (decide (r < rk M i) || (decide (rk M i = r) && decide (i < j))) && !gn.testBit i
  have rf : ∃ v, f_m_byRank N x M = some v ∧ R v := by
    rw [f_m_byRank]
    have gen : ∀ n r, r < 10 → r + 1 < n → (∀ g, g < c → V r 0 g = true → ¬ P g) → ∃ v, f_m_byRank_5 N n x (nI (ct (V r 0) c)) (nI r) M = some v ∧ R v := by
      intro n
      induction n with
      | zero => intro r h1 h2; omega
      | succ n ih =>
        intro r h1 h2 hn
        rw [f_m_byRank_5, if_neg (nI_pos (by omega))]
        have inner : ∀ m j, j ≤ c → c < j + m → (∀ g, g < c → V r j g = true → ¬ P g) → ∃ v, f_m_byRank_12 N (f_m_byRank_5 N n) m x (nI (ct (V r j) c)) (nI r) (nI j) M = some v ∧ R v := by
          intro m
          induction m with
          | zero => intro j h1 h2; omega
          | succ m ihm =>
            intro j hj1 hj2 hv
            rw [f_m_byRank_12]
            by_cases e : j = c
            · subst e
              rw [if_pos h.recn]
              cases r with
              | zero =>
                refine ⟨-1, ?_, Or.inl ⟨rfl, fun g hg hp => hv g hg ?_ hp⟩⟩
                · obtain ⟨n', rfl⟩ : ∃ n', n = n' + 1 := ⟨n - 1, by omega⟩
                  rw [f_m_byRank_5, if_pos (by decide)]
                · show ((decide (0 < rk M g) || (decide (rk M g = 0) && decide (g < j))) && !gn.testBit g) = true
                  rw [hp.1]
                  by_cases z : rk M g = 0
                  · simp [z, hg]
                  · simp [show 0 < rk M g by omega]
              | succ r =>
                rw [pk_m1]
                have e : ∀ i, i < j → V (r + 1) j i = V r 0 i := by
                  intro i hi
                  show ((decide (r + 1 < rk M i) || (decide (rk M i = r + 1) && decide (i < j))) && !gn.testBit i) = ((decide (r < rk M i) || (decide (rk M i = r) && decide (i < 0))) && !gn.testBit i)
                  have : (r < rk M i) ↔ (r + 1 < rk M i ∨ rk M i = r + 1) := by omega
                  simp [this, hi]
                rw [ct_congr e]
                exact ih r (by omega) (by omega) (fun g hg hvg => hv g hg (by rw [e g hg]; exact hvg))
            · have hj : j < c := by omega
              obtain ⟨i1, i2, i3⟩ := hP.r hj
              have vj : V r j j = (decide (r < rk M j) && !gn.testBit j) := by
                show ((decide (r < rk M j) || (decide (rk M j = r) && decide (j < j))) && !gn.testBit j) = _
                simp
              have vs : ∀ i, i ≠ j → V r (j + 1) i = V r j i := by
                intro i hij
                show ((decide (r < rk M i) || (decide (rk M i = r) && decide (i < j + 1))) && !gn.testBit i) = ((decide (r < rk M i) || (decide (rk M i = r) && decide (i < j))) && !gn.testBit i)
                have : (i < j + 1) ↔ (i < j) := by omega
                simp [this]
              have vn : V r (j + 1) j = ((decide (r < rk M j) || decide (rk M j = r)) && !gn.testBit j) := by
                show ((decide (r < rk M j) || (decide (rk M j = r) && decide (j < j + 1))) && !gn.testBit j) = _
                simp
              have nxt : (V r (j + 1) j = V r j j) → ∃ v, f_m_byRank_12 N (f_m_byRank_5 N n) m x (nI (ct (V r j) c)) (nI r) (nI (j + 1)) M = some v ∧ R v := by
                intro ej
                have ea : ∀ i, i < c → V r j i = V r (j + 1) i := by
                  intro i _
                  by_cases e : i = j
                  · rw [e, ej]
                  · exact (vs i e).symm
                rw [ct_congr ea]
                exact ihm (j + 1) (by omega) (by omega) (fun g hg hvg => hv g hg (by rw [ea g hg]; exact hvg))
              rw [if_neg (h.rncn hj), h.ris hj, Option.bind_some, show (0 : Int32) = nI 0 from rfl, r_get (by omega) (by omega), Option.bind_some, show 12 + 7 * j + 0 = 12 + 7 * j from rfl, i3, nI_1, nI_1]
              by_cases q : gn.testBit j = true
              · rw [if_pos q, if_pos rfl]
                exact nxt (by rw [vn, vj, q]; simp)
              · have q' : gn.testBit j = false := by simpa using q
                rw [if_neg q, if_neg (by decide)]
                by_cases a : rk M j = r
                · rw [if_pos (by rw [a])]
                  have ep : ct (V r j) c = ct (ahd (rk M) gn j) c := by
                    apply ct_congr
                    intro i _
                    show ((decide (r < rk M i) || (decide (rk M i = r) && decide (i < j))) && !gn.testBit i) = ((decide (rk M j < rk M i) || (decide (rk M i = rk M j) && decide (i < j))) && !gn.testBit i)
                    rw [a]
                  by_cases b : nI (ct (V r j) c) = x
                  · exact ⟨nI j, by rw [if_pos b], Or.inr ⟨j, hj, ⟨q', by rw [← ep]; exact b⟩, rfl⟩⟩
                  · rw [if_neg b, ← ct_one (q := V r (j + 1)) hj (by rw [vn, a, q']; simp) (by rw [vj, a]; simp) (fun i _ hi => (vs i hi).symm)]
                    refine ihm (j + 1) (by omega) (by omega) (fun g hg hvg hp => ?_)
                    by_cases e : g = j
                    · subst e
                      exact b (by rw [ep]; exact hp.2)
                    · rw [vs g e] at hvg
                      exact hv g hg hvg hp
                · rw [if_neg (fun q => a ((nI_eq (by omega) (by omega)).mp q))]
                  exact nxt (by rw [vn, vj]; simp [a])
        exact inner N 0 (by omega) (by omega) hn
    have e0 : ct (V 9 0) c = 0 := ct_false (fun i hi => by
      obtain ⟨i1, i2, i3⟩ := hP.r hi
      show ((decide (9 < rk M i) || (decide (rk M i = 9) && decide (i < 0))) && !gn.testBit i) = false
      have : ¬ 9 < rk M i := by omega
      simp [this])
    have := gen N 9 (by omega) (by omega) (fun g hg hvg => by
      obtain ⟨i1, i2, i3⟩ := hP.r hg
      have e : V 9 0 g = ((decide (9 < rk M g) || (decide (rk M g = 9) && decide (g < 0))) && !gn.testBit g) := rfl
      have : ¬ 9 < rk M g := by omega
      rw [e] at hvg
      simp [this] at hvg)
    rw [e0] at this
    exact this
  obtain ⟨v, v1, v2⟩ := cl
  obtain ⟨u, u1, u2⟩ := rf
  have : u = v := by
    rcases v2 with ⟨a, b⟩ | ⟨g, hg, hp, e⟩
    · rcases u2 with ⟨a', b'⟩ | ⟨g', hg', hp', e'⟩
      · rw [a, a']
      · exact absurd hp' (b g' hg')
    · rcases u2 with ⟨a', b'⟩ | ⟨g', hg', hp', e'⟩
      · exact absurd hp (b' g hg)
      · rw [e, e', uni g g' hg hg' hp hp']
  subst this
  exact ⟨u, v1, u1, hM⟩
theorem msk_all : ∀ s, s < 256 → ∀ i, i < 8 → nI s &&& (nI (2 ^ i) ^^^ -1) = nI (s &&& (255 - 2 ^ i)) := by decide +kernel
theorem msk_tb : ∀ i, i < 8 → ∀ g, g < 8 → (255 - 2 ^ i).testBit g = !decide (g = i) := by decide +kernel
theorem o_32 (_hX : XC X) (hN : 4000 ≤ N) : O_32 (Inv X) (Inv X) N := by
  intro M x hM
  obtain ⟨c, nt, mo, dr, gn, sp, lm, lw, lk, lf, bh, bd, h⟩ := hM.cx
  have hP := hM.pg h
  have hc := h.c8
  unfold f_w_stays f_m_stays
  rw [show f_e_moment M = nI mo from h.mo12, show gi M 130 2 = nI mo from h.mo130, isIn_eq x _ _ M M]
  by_cases hx : f_w_within x (nI mo) 99 M = 0
  · exact ⟨-1, by rw [if_pos hx], by rw [if_pos hx], hM⟩
  rw [if_neg hx, if_neg hx, h.cthere]
  let q : Nat → Bool := fun g => decide (f_w_within (M.1 10 g) (nI mo) (x - 1) M = 0)
  let Z : Nat → Nat → Bool := fun i g => !gn.testBit g && (!decide (g < i) || q g)
  have z0 : th c gn = bset (Z 0) c := by
    rw [← bset_th h.gnl]
    apply Nat.eq_of_testBit_eq
    intro i
    rw [bset_tb, bset_tb]
    show _ = (decide (i < c) && (!gn.testBit i && (!decide (i < 0) || q i)))
    simp
  have zl : ∀ i, bset (Z i) c < 256 := fun i => Nat.lt_of_lt_of_le (bset_lt _ _) (p2_le hc)
  refine ⟨nI (bset (Z c) c), ?_, ?_, hM⟩
  · rw [z0]
    refine run_loop (fun n a i => f_w_stays_34 N n x (nI mo) a i M) (fun i => nI (bset (Z i) c)) _ c (fun n => ?_) (fun n i hi => ?_) N 0 (by omega) (by omega)
    · show f_w_stays_34 N (n + 1) _ _ _ _ M = _
      rw [f_w_stays_34, if_pos h.ecn]
    · show f_w_stays_34 N (n + 1) _ _ _ _ M = f_w_stays_34 N n _ _ _ _ M
      rw [f_w_stays_34, if_neg (h.ncn hi), if_pos (am_in_nI (by omega) (by decide)), nI_clamp (by omega), one_shl (by omega), msk_all _ (zl i) i (by omega), nI_1]
      by_cases a : f_w_within (M.1 10 i) (nI mo) (x - 1) M = 0
      · rw [show gi M 10 i = M.1 10 i from rfl, if_pos a]
        have : bset (Z i) c = bset (Z (i + 1)) c := by
          apply Nat.eq_of_testBit_eq
          intro j
          rw [bset_tb, bset_tb]
          show (decide (j < c) && (!gn.testBit j && (!decide (j < i) || q j))) = (decide (j < c) && (!gn.testBit j && (!decide (j < i + 1) || q j)))
          by_cases e : j = i
          · subst e
            have : q j = true := decide_eq_true a
            simp [this]
          · have : (j < i + 1) ↔ (j < i) := by omega
            simp [this]
        rw [this]
      · rw [show gi M 10 i = M.1 10 i from rfl, if_neg a]
        have : bset (Z i) c &&& (255 - 2 ^ i) = bset (Z (i + 1)) c := by
          apply Nat.eq_of_testBit_eq
          intro j
          rw [Nat.testBit_and, bset_tb, bset_tb]
          by_cases jc : j < c
          · rw [msk_tb i (by omega) j (by omega)]
            show ((decide (j < c) && (!gn.testBit j && (!decide (j < i) || q j))) && !decide (j = i)) = (decide (j < c) && (!gn.testBit j && (!decide (j < i + 1) || q j)))
            by_cases e : j = i
            · subst e
              have : q j = false := decide_eq_false a
              simp [this]
            · have : (j < i + 1) ↔ (j < i) := by omega
              simp [this, e]
          · simp [jc]
        rw [this]
  · have e : bset (Z c) c = bset (fun g => !gn.testBit g && q g) c := by
      apply Nat.eq_of_testBit_eq
      intro j
      rw [bset_tb, bset_tb]
      show (decide (j < c) && (!gn.testBit j && (!decide (j < c) || q j))) = _
      by_cases jc : j < c
      · simp [jc]
      · simp [jc]
    rw [e]
    refine run_loop (fun n a i => f_m_stays_21 N n x a i M) (fun i => nI (bset (fun g => !gn.testBit g && q g) i)) _ c (fun n => ?_) (fun n i hi => ?_) N 0 (by omega) (by omega)
    · show f_m_stays_21 N (n + 1) _ _ _ M = _
      rw [f_m_stays_21, if_pos h.recn]
    · show f_m_stays_21 N (n + 1) _ _ _ M = f_m_stays_21 N n _ (nI (bset (fun g => !gn.testBit g && q g) i ||| if (!gn.testBit i && q i) = true then 2 ^ i else 0)) _ M
      have hgo : M.1 130 (14 + 7 * i) = M.1 10 i := ((hP.2.2.2 i hi).2.2.1).symm
      rw [f_m_stays_21, if_neg (h.rncn hi), h.ris hi, Option.bind_some, show (2 : Int32) = nI 2 from rfl, r_get (by omega) (by omega), Option.bind_some, show 12 + 7 * i + 2 = 14 + 7 * i by omega, hgo, show gi M 130 2 = nI mo from h.mo130, isIn_eq _ _ _ M M, one_shl (by omega), fa_or, nI_1, Int32.or_zero]
      by_cases b : gn.testBit i = true
      · rw [if_pos b, if_pos rfl, if_neg (by simp [b]), Nat.or_zero]
      · rw [if_neg b, if_neg (by decide)]
        by_cases a : f_w_within (M.1 10 i) (nI mo) (x - 1) M = 0
        · have : q i = true := decide_eq_true a
          rw [if_pos a, if_pos (by simp [b, this])]
        · have : q i = false := decide_eq_false a
          rw [if_neg a, if_neg (by simp [this]), Nat.or_zero]
end BYRANK
