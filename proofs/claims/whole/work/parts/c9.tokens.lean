/-! How the reference tells its token. -/
section TOK
variable {B : Nat → Nat} {n s N : Nat} {M : Mem}
theorem sgc_n : ∀ k, k < 49 → 34 ≤ k → ¬ nI (sgc k) = (1 : Int32) ∧ ¬ nI (sgc k) = (2 : Int32) ∧ ¬ nI (sgc k) = (3 : Int32) := by decide +kernel
theorem sgc_i : ∀ k, k < 15 → ∀ i, i < 15 → nI (sgc (34 + k)) = nI (sgc (34 + i)) → k = i := by decide +kernel
theorem sgc_all (k : Nat) (hk : k < 49) (hk2 : 34 ≤ k) (i : Nat) (hi : i < 49) (hi2 : 34 ≤ i) : (nI (sgc k) = nI (sgc i) → k = i) ∧ ¬ nI (sgc k) = (1 : Int32) ∧ ¬ nI (sgc k) = (2 : Int32) ∧ ¬ nI (sgc k) = (3 : Int32) := by
  refine ⟨fun e => ?_, sgc_n k hk hk2⟩
  have := sgc_i (k - 34) (by omega) (i - 34) (by omega) (by rw [show 34 + (k - 34) = k by omega, show 34 + (i - 34) = i by omega]; exact e)
  omega
theorem TkR.one (h : TkR M B n s) : (gi M 129 9 = (1 : Int32)) ↔ kd B n s = 33 := by
  obtain ⟨h1, h2, h3, h4⟩ := h
  constructor
  · intro e
    have e' : M.1 129 9 = 1 := e
    by_cases a : kd B n s ≤ 31
    · rw [(h1 a).1] at e'; exact absurd e' (by decide)
    · by_cases b : kd B n s = 32
      · rcases h2 b with q | q
        · rw [q] at e'; exact absurd e' (by decide)
        · rw [q.1] at e'; exact absurd e' (by decide)
      · by_cases c : kd B n s = 33
        · exact c
        · have kl := kd_lt B n s
          rw [h4 (by omega)] at e'
          exact absurd e' (sgc_all _ (show kd B n s < 49 by omega) (by omega) 34 (by omega) (by omega)).2.1
  · intro e
    exact (h3 e).1
theorem TkR.two (h : TkR M B n s) : (gi M 129 9 = (2 : Int32)) → kd B n s ≤ 32 := by
  obtain ⟨h1, h2, h3, h4⟩ := h
  intro e
  have e' : M.1 129 9 = 2 := e
  by_cases a : kd B n s ≤ 32
  · exact a
  · exfalso
    by_cases c : kd B n s = 33
    · rw [(h3 c).1] at e'; exact absurd e' (by decide)
    · have kl := kd_lt B n s
      rw [h4 (by omega)] at e'
      exact absurd e' (sgc_all _ (show kd B n s < 49 by omega) (by omega) 34 (by omega) (by omega)).2.2.1
theorem TkR.sg (h : TkR M B n s) {k : Nat} (hk : 34 ≤ k) (hk2 : k < 49) : (gi M 129 9 = nI (sgc k)) ↔ kd B n s = k := by
  obtain ⟨h1, h2, h3, h4⟩ := h
  obtain ⟨-, s1, s2, s3⟩ := sgc_all k hk2 hk 34 (by omega) (by omega)
  constructor
  · intro e
    have e' : M.1 129 9 = nI (sgc k) := e
    by_cases a : kd B n s ≤ 31
    · rw [(h1 a).1] at e'; exact absurd e'.symm s2
    · by_cases b : kd B n s = 32
      · rcases h2 b with q | q
        · rw [q] at e'; exact absurd e'.symm s3
        · rw [q.1] at e'; exact absurd e'.symm s2
      · by_cases c : kd B n s = 33
        · rw [(h3 c).1] at e'; exact absurd e'.symm s1
        · have kl := kd_lt B n s
          rw [h4 (by omega)] at e'
          exact (sgc_all _ (show kd B n s < 49 by omega) (by omega) k hk2 hk).1 e'
  · intro e
    have := h4 (by omega)
    rw [e] at this
    exact this
theorem TkR.word (h : TkR M B n s) {k : Nat} (hk : k < 32) : f_m_isWord (lN (wpk k)) M = if kd B n s = k then 1 else 0 := by
  unfold f_m_isWord
  have h' := h
  obtain ⟨h1, h2, h3, h4⟩ := h'
  have wl := wpk_lt k hk
  by_cases a : gi M 129 9 = (2 : Int32)
  · rw [if_pos a]
    have k2 := h.two a
    by_cases b : kd B n s = 32
    · rcases h2 b with q | q
      · exfalso
        rw [show gi M 129 9 = 3 from q] at a
        exact absurd a (by decide)
      · rw [if_neg (show ¬ lg_cmp (gj M 129 11) (lN (wpk k)) = 0 from fun e => q.2 k hk ((lg_cmp_eq _ _).mp e)), if_neg (by omega)]
    · have w := (h1 (by omega)).2
      have wl2 := wpk_lt (kd B n s) (by omega)
      rw [show gj M 129 11 = lN (wpk (kd B n s)) from w]
      by_cases c : kd B n s = k
      · rw [c, if_pos (show lg_cmp (lN (wpk k)) (lN (wpk k)) = 0 from (lg_cmp_eq _ _).mpr rfl), if_pos rfl]
      · rw [if_neg (show ¬ lg_cmp (lN (wpk (kd B n s))) (lN (wpk k)) = 0 from fun e => c (wpk_inj _ (by omega) _ hk ((pk_lEQ (by omega) (by omega)).mp ((lg_cmp_eq _ _).mp e)))), if_neg c]
  · rw [if_neg a, if_neg (fun e => a (h1 (by omega)).1)]
theorem TkR.wn (h : TkR M B n s) {k : Nat} {v : Int64} (hv : v = lN (wpk k)) (hk : k < 32) : (f_m_isWord v M = 0) ↔ ¬ kd B n s = k := by
  rw [hv, h.word hk]
  by_cases c : kd B n s = k
  · rw [if_pos c]
    exact ⟨fun e => absurd e (by decide), fun e => absurd c e⟩
  · rw [if_neg c]
    exact ⟨fun _ => c, fun _ => rfl⟩
def nmw (W : Int64) : Int32 := f_m_nameOf (sj (si M0 129 9 2) 129 11 W)
theorem nmw_k : ∀ k, k < 32 → nmw (lN (wpk k)) = if k < 12 then nI k else -1 := by decide +kernel
theorem nmw_n {W : Int64} (h : ∀ k, k < 32 → W ≠ lN (wpk k)) : nmw W = -1 := by
  have g : ∀ (v : Int64) (k : Nat), v = lN (wpk k) → k < 32 → ¬ lg_cmp W v = 0 := fun v k e hk x => h k hk (((lg_cmp_eq _ _).mp x).trans e)
  unfold nmw f_m_nameOf
  have g9 : gi (sj (si M0 129 9 2) 129 11 W) 129 9 = 2 := by
    show (si M0 129 9 2).1 129 9 = 2
    rw [si_at, if_pos ⟨rfl, rfl⟩]
  have g11 : gj (sj (si M0 129 9 2) 129 11 W) 129 11 = W := by
    show (sj (si M0 129 9 2) 129 11 W).2 129 11 = W
    rw [sj_at, if_pos ⟨rfl, rfl⟩]
  rw [g9, g11, if_pos rfl, if_neg (g _ 0 (by decide) (by decide)), if_neg (g _ 1 (by decide) (by decide)), if_neg (g _ 2 (by decide) (by decide)), if_neg (g _ 3 (by decide) (by decide)), if_neg (g _ 4 (by decide) (by decide)), if_neg (g _ 5 (by decide) (by decide)), if_neg (g _ 6 (by decide) (by decide)), if_neg (g _ 7 (by decide) (by decide)), if_neg (g _ 8 (by decide) (by decide)), if_neg (g _ 9 (by decide) (by decide)), if_neg (g _ 10 (by decide) (by decide)), if_neg (g _ 11 (by decide) (by decide))]
theorem TkR.name (h : TkR M B n s) : f_m_nameOf M = if kd B n s < 12 then nI (kd B n s) else -1 := by
  have h' := h
  obtain ⟨h1, h2, h3, h4⟩ := h'
  by_cases a : gi M 129 9 = (2 : Int32)
  · have e : f_m_nameOf M = nmw (M.2 129 11) := by
      have g9 : gi (sj (si M0 129 9 2) 129 11 (M.2 129 11)) 129 9 = 2 := by
        show (si M0 129 9 2).1 129 9 = 2
        rw [si_at, if_pos ⟨rfl, rfl⟩]
      have g11 : gj (sj (si M0 129 9 2) 129 11 (M.2 129 11)) 129 11 = gj M 129 11 := by
        show (sj (si M0 129 9 2) 129 11 (M.2 129 11)).2 129 11 = _
        rw [sj_at, if_pos ⟨rfl, rfl⟩]
        rfl
      unfold nmw f_m_nameOf
      rw [g9, g11, a]
    rw [e]
    have k2 := h.two a
    by_cases b : kd B n s = 32
    · rcases h2 b with q | q
      · exfalso
        rw [show gi M 129 9 = 3 from q] at a
        exact absurd a (by decide)
      · rw [nmw_n q.2, if_neg (by omega)]
    · rw [(h1 (by omega)).2]
      exact nmw_k _ (by omega)
  · unfold f_m_nameOf
    rw [if_neg a, if_neg (fun e => a (h1 (by omega)).1)]
theorem TkR.num (h : TkR M B n s) (hk : kd B n s = 33) : (nm B n s ≤ 9999 → gi M 129 10 = nI (nm B n s)) ∧ ((gi M 129 10 ≤ (9999 : Int32)) ↔ nm B n s ≤ 9999) := by
  obtain ⟨-, r, r1, r2, r3, r4⟩ := h.2.2.1 hk
  refine ⟨fun e => by rw [show gi M 129 10 = nI r from r2, r3 e], ?_⟩
  rw [show gi M 129 10 = nI r from r2]
  constructor
  · intro e
    by_cases z : nm B n s ≤ 9999
    · exact z
    · exact absurd e (show ¬ nI r ≤ (9999 : Int32) from nI_ge (a := 9999) (r4 (by omega)) r1)
  · intro e
    rw [r3 e]
    exact nI_le (b := 9999) e (by decide)
/-- which sort of clause -/
def stw (W : Int64) : Int32 := f_m_sortOf (sj (si M0 129 9 2) 129 11 W)
theorem stw_k : ∀ k, k < 32 → stw (lN (wpk k)) = if 12 ≤ k ∧ k < 24 then nI (k - 12) else -1 := by decide +kernel
theorem TkR.sort (h : TkR M B n s) : f_m_sortOf M = if 12 ≤ kd B n s ∧ kd B n s < 24 then nI (kd B n s - 12) else -1 := by
  have w : ∀ (k : Nat) (v : Int64), v = lN (wpk k) → k < 32 → ((f_m_isWord v M = 0) ↔ ¬ kd B n s = k) := fun k v hv hk => h.wn hv hk
  unfold f_m_sortOf
  by_cases c : kd B n s < 32
  · have h1 := h.1 (by omega)
    have e : ∀ v, f_m_isWord v M = f_m_isWord v (sj (si M0 129 9 2) 129 11 (M.2 129 11)) := by
      intro v
      have g9 : gi (sj (si M0 129 9 2) 129 11 (M.2 129 11)) 129 9 = 2 := by
        show (si M0 129 9 2).1 129 9 = 2
        rw [si_at, if_pos ⟨rfl, rfl⟩]
      have g11 : gj (sj (si M0 129 9 2) 129 11 (M.2 129 11)) 129 11 = gj M 129 11 := by
        show (sj (si M0 129 9 2) 129 11 (M.2 129 11)).2 129 11 = _
        rw [sj_at, if_pos ⟨rfl, rfl⟩]
        rfl
      unfold f_m_isWord
      rw [g9, g11, show gi M 129 9 = 2 from h1.1]
    simp only [e]
    have := stw_k (kd B n s) c
    unfold stw f_m_sortOf at this
    rw [← h1.2] at this
    exact this
  · rw [if_pos ((w 12 _ (by decide) (by decide)).mpr (by omega)), if_pos ((w 13 _ (by decide) (by decide)).mpr (by omega)), if_pos ((w 14 _ (by decide) (by decide)).mpr (by omega)), if_pos ((w 15 _ (by decide) (by decide)).mpr (by omega)), if_pos ((w 16 _ (by decide) (by decide)).mpr (by omega)), if_pos ((w 17 _ (by decide) (by decide)).mpr (by omega)), if_pos ((w 18 _ (by decide) (by decide)).mpr (by omega)), if_pos ((w 19 _ (by decide) (by decide)).mpr (by omega)), if_pos ((w 20 _ (by decide) (by decide)).mpr (by omega)), if_pos ((w 21 _ (by decide) (by decide)).mpr (by omega)), if_pos ((w 22 _ (by decide) (by decide)).mpr (by omega)), if_pos ((w 23 _ (by decide) (by decide)).mpr (by omega)), if_neg (by omega)]
/-- the pile's open bracket can always be asked for -/
theorem open_at : ∀ (m i : Nat), i ≤ 160 → i < m → ∃ v, f_m_openAt_7 N m (nI i - 1) M = some v ∧ (v = -1 ∨ ∃ t, t < i ∧ v = nI t) := by
  intro m
  induction m with
  | zero => intro i h1 h2; omega
  | succ m ih =>
    intro i h1 h2
    rw [f_m_openAt_7]
    by_cases z : i = 0
    · subst z
      rw [if_pos (show nI 0 - 1 < (0 : Int32) by decide)]
      exact ⟨_, rfl, Or.inl (by decide)⟩
    · obtain ⟨q, rfl⟩ : ∃ q, i = q + 1 := ⟨i - 1, by omega⟩
      rw [nI_s1, if_neg (nI_pos (by omega)), if_pos (am_in_nI (by omega) (by decide))]
      by_cases y : (40 : Int32) ≤ gi M 134 (nI q).toNatClampNeg
      · rw [if_pos y]
        exact ⟨_, rfl, Or.inr ⟨q, by omega, rfl⟩⟩
      · rw [if_neg y, show nI q + (-1 : Int32) = nI q - 1 from (Int32.sub_eq_add_neg _ _).symm]
        obtain ⟨v, v1, v2⟩ := ih q (by omega) (by omega)
        refine ⟨v, v1, ?_⟩
        rcases v2 with v2 | ⟨t, t1, t2⟩
        · exact Or.inl v2
        · exact Or.inr ⟨t, by omega, t2⟩
theorem open_now (hN : 4000 ≤ N) {p : Nat} (h19 : M.1 129 19 = nI p) (hp : p ≤ 160) : ∃ v, f_m_openNow N M = some v := by
  unfold f_m_openNow f_m_openAt
  obtain ⟨v, v1, v2⟩ := open_at (N := N) (M := M) N p hp (by omega)
  rw [show gi M 129 19 = nI p from h19, v1, Option.bind_some, Option.bind_some]
  rcases v2 with v2 | ⟨t, t1, t2⟩
  · rw [v2, if_neg (show ¬ (0 : Int32) ≤ -1 by decide)]
    exact ⟨_, rfl⟩
  · rw [t2, if_pos (show (0 : Int32) ≤ nI t from nI_le (a := 0) (by omega) (by omega)), if_pos (am_in_nI (by omega) (by decide))]
    exact ⟨_, rfl⟩
/-- no 'not' here -/
theorem ahead_no (hN : 4000 ≤ N) {p k : Nat} (h19 : M.1 129 19 = nI p) (hp : p ≤ 160) (h1 : 1 ≤ p) (hk : k < 44) (ht : M.1 134 (p - 1) = nI k) (hr : rkN k = 0 ∨ 4 ≤ rkN k) : f_m_isAskAhead N M = some 0 := by
  unfold f_m_isAskAhead f_m_isAskHere
  obtain ⟨v, hv⟩ := open_now (N := N) hN h19 hp
  obtain ⟨q, rfl⟩ : ∃ q, p = q + 1 := ⟨p - 1, by omega⟩
  have rl := rkN_le k
  have nin : f_m_isIn (nI (rkN k)) 1 3 M = 0 := by
    have : ∀ r, r < 8 → (r = 0 ∨ 4 ≤ r) → f_m_isIn (nI r) 1 3 M0 = 0 := by decide +kernel
    exact this _ (by omega) hr
  have rest : (if (0 : Int32) = 0 then some (0 : Int32) else if gi M 129 19 = 0 then some 1 else if am_in (gi M 129 19 - 1) 160 = true then (if f_m_isIn (f_m_rank (gi M 134 (gi M 129 19 - 1).toNatClampNeg) M) 1 3 M = 0 then some 0 else some 1) else none) = some 0 := by rw [if_pos rfl]
  have rest1 : (if (1 : Int32) = 0 then some (0 : Int32) else if gi M 129 19 = 0 then some 1 else if am_in (gi M 129 19 - 1) 160 = true then (if f_m_isIn (f_m_rank (gi M 134 (gi M 129 19 - 1).toNatClampNeg) M) 1 3 M = 0 then some 0 else some 1) else none) = some 0 := by
    rw [if_neg (show ¬ (1 : Int32) = 0 by decide), show gi M 129 19 = nI (q + 1) from h19, if_neg (show ¬ nI (q + 1) = (0 : Int32) from fun e => by have := (nI_eq (b := 0) (by omega) (by decide)).mp e; omega), nI_s1, if_pos (am_in_nI (by omega) (by decide)), nI_clamp (by omega), show gi M 134 q = nI k from ht, rk_all k hk, if_pos nin]
  by_cases a : gi M 129 23 = (0 : Int32)
  · rw [if_pos a, Option.bind_some]
    exact rest
  · rw [if_neg a, hv, Option.bind_some]
    by_cases b : v = -1
    · rw [if_pos b, Option.bind_some]
      exact rest1
    · rw [if_neg b, Option.bind_some]
      exact rest
end TOK
