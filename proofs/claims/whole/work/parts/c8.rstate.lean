/-! The reference reads: its state, what a step keeps, settling. -/
def Kp (u : Nat) (M M' : Mem) (p g w : Nat) : Prop := (∀ i, i < p → M'.1 134 i = M.1 134 i) ∧ (∀ i, i < g → M'.1 135 i = M.1 135 i) ∧ (∀ i, i < 6 * g → M'.1 136 i = M.1 136 i ∧ M'.1 137 i = M.1 137 i) ∧ (∀ i, i < 705 * u + 97 + 2 * w → M'.1 132 i = M.1 132 i) ∧ (∀ k, k ≠ 129 → (k < 134 ∨ 137 < k) → k ≠ 132 → M'.1 k = M.1 k) ∧ (∀ i, (i < 7 ∨ i = 11 ∨ i = 12 ∨ (14 ≤ i ∧ i ≤ 18) ∨ 22 < i) → M'.1 129 i = M.1 129 i) ∧ (∀ k i, ¬ (k = 129 ∧ i = 11) → M'.2 k i = M.2 k i)
theorem Kp.rf {u p g w : Nat} {M : Mem} : Kp u M M p g w := ⟨fun _ _ => rfl, fun _ _ => rfl, fun _ _ => ⟨rfl, rfl⟩, fun _ _ => rfl, fun _ _ _ _ => rfl, fun _ _ => rfl, fun _ _ _ => rfl⟩
theorem Kp.tr {u p g w p' g' w' : Nat} {M M1 M2 : Mem} (h : Kp u M M1 p g w) (k : Kp u M1 M2 p' g' w') (hp : p ≤ p') (hg : g ≤ g') (hw : w ≤ w') : Kp u M M2 p g w := by
  obtain ⟨a1, a2, a3, a4, a5, a6, a7⟩ := h
  obtain ⟨b1, b2, b3, b4, b5, b6, b7⟩ := k
  exact ⟨fun i hi => (b1 i (by omega)).trans (a1 i hi), fun i hi => (b2 i (by omega)).trans (a2 i hi), fun i hi => ⟨(b3 i (by omega)).1.trans (a3 i hi).1, (b3 i (by omega)).2.trans (a3 i hi).2⟩, fun i hi => (b4 i (by omega)).trans (a4 i hi), fun k h1 h2 h3 => (b5 k h1 h2 h3).trans (a5 k h1 h2 h3), fun i hi => (b6 i hi).trans (a6 i hi), fun k i hi => (b7 k i hi).trans (a7 k i hi)⟩
theorem NS.kp {u p g w : Nat} {M M' : Mem} (h : NS M M') : Kp u M M' p g w := by
  obtain ⟨h1, h2⟩ := h
  refine ⟨fun i _ => h1 _ _ (by omega), fun i _ => h1 _ _ (by omega), fun i _ => ⟨h1 _ _ (by omega), h1 _ _ (by omega)⟩, fun i _ => h1 _ _ (by omega), fun k hk _ _ => ?_, fun i hi => h1 _ _ (by omega), h2⟩
  funext i
  exact h1 k i (by omega)
/-- a write to a field of the reader -/
theorem Kp.f {u p g w : Nat} {M : Mem} (i : Nat) (v : Int32) (hi : i = 13 ∨ (19 ≤ i ∧ i ≤ 22)) : Kp u M (si M 129 i v) p g w := by
  refine ⟨fun j _ => ?_, fun j _ => ?_, fun j _ => ⟨?_, ?_⟩, fun j _ => ?_, fun k hk _ _ => ?_, fun j hj => ?_, fun _ _ _ => rfl⟩
  · rw [si_at, if_neg (by omega)]
  · rw [si_at, if_neg (by omega)]
  · rw [si_at, if_neg (by omega)]
  · rw [si_at, if_neg (by omega)]
  · rw [si_at, if_neg (by omega)]
  · rw [si_1, if_neg hk]
  · rw [si_at, if_neg (by omega)]
theorem Kp.pile {u p g w : Nat} {M : Mem} (i : Nat) (v : Int32) (hi : p ≤ i) : Kp u M (si M 134 i v) p g w := by
  refine ⟨fun j _ => ?_, fun j _ => ?_, fun j _ => ⟨?_, ?_⟩, fun j _ => ?_, fun k hk _ _ => ?_, fun j hj => ?_, fun _ _ _ => rfl⟩
  · rw [si_at, if_neg (by omega)]
  · rw [si_at, if_neg (by omega)]
  · rw [si_at, if_neg (by omega)]
  · rw [si_at, if_neg (by omega)]
  · rw [si_at, if_neg (by omega)]
  · rw [si_1, if_neg (by omega)]
  · rw [si_at, if_neg (by omega)]
theorem Kp.code {u p g w : Nat} {M : Mem} (i : Nat) (v : Int32) (hi : 705 * u + 97 + 2 * w ≤ i) : Kp u M (si M 132 i v) p g w := by
  refine ⟨fun j _ => ?_, fun j _ => ?_, fun j _ => ⟨?_, ?_⟩, fun j _ => ?_, fun k hk _ hk3 => ?_, fun j hj => ?_, fun _ _ _ => rfl⟩
  · rw [si_at, if_neg (by omega)]
  · rw [si_at, if_neg (by omega)]
  · rw [si_at, if_neg (by omega)]
  · rw [si_at, if_neg (by omega)]
  · rw [si_at, if_neg (by omega)]
  · rw [si_1, if_neg hk3]
  · rw [si_at, if_neg (by omega)]
def Rs (B : Nat → Nat) (n u : Nat) (M : Mem) (j d p g w wh : Nat) : Prop := RTB M B n ∧ (M.1 129 8 = nI (stk B n j) ∧ M.1 129 7 = nI (te B n (stk B n j)) ∧ TkR M B n (stk B n j)) ∧ M.1 129 12 = nI (705 * u) ∧ M.1 129 13 = nI w ∧ M.1 129 19 = nI p ∧ M.1 129 20 = nI d ∧ M.1 129 21 = nI g ∧ M.1 129 22 = nI wh
section RSTATE
variable {B : Nat → Nat} {n u N : Nat} {M M' : Mem} {j d p g w wh : Nat}
theorem TkR.of {M M' : Mem} {s : Nat} (h : TkR M B n s) (e9 : M'.1 129 9 = M.1 129 9) (e10 : M'.1 129 10 = M.1 129 10) (e2 : M'.2 129 11 = M.2 129 11) : TkR M' B n s := by
  unfold TkR
  rw [e9, e10, e2]
  exact h
theorem Rs.up (h : Rs B n u M j d p g w wh) {d' p' g' w' wh' : Nat} (e133 : M'.1 133 = M.1 133) (e2 : M'.2 129 11 = M.2 129 11) (e : ∀ i, i < 13 → M'.1 129 i = M.1 129 i) (h13 : M'.1 129 13 = nI w') (h19 : M'.1 129 19 = nI p') (h20 : M'.1 129 20 = nI d') (h21 : M'.1 129 21 = nI g') (h22 : M'.1 129 22 = nI wh') : Rs B n u M' j d' p' g' w' wh' := by
  obtain ⟨a, ⟨b1, b2, b3⟩, c, -⟩ := h
  exact ⟨⟨a.1, by rw [e 4 (by omega)]; exact a.2.1, fun i hi => ⟨(a.2.2 i hi).1, by rw [e133]; exact (a.2.2 i hi).2⟩⟩, ⟨by rw [e 8 (by omega)]; exact b1, by rw [e 7 (by omega)]; exact b2, b3.of (e 9 (by omega)) (e 10 (by omega)) e2⟩, by rw [e 12 (by omega)]; exact c, h13, h19, h20, h21, h22⟩
theorem Rs.next (h : Rs B n u M j d p g w wh) (hN : 4000 ≤ N) : ∃ M', f_m_nextToken N M = some M' ∧ Rs B n u M' (j + 1) d p g w wh ∧ NS M M' := by
  obtain ⟨a, ⟨b1, b2, b3⟩, c, d1, d2, d3, d4, d5⟩ := h
  obtain ⟨M', e1, e2, e3, e4, e5⟩ := r_next a hN (te_n (stk_n j)) b2
  refine ⟨M', e1, ⟨a.ns e2, ⟨e3, e4, e5⟩, ?_, ?_, ?_, ?_, ?_, ?_⟩, e2⟩
  · rw [e2.1 _ _ (by omega)]; exact c
  · rw [e2.1 _ _ (by omega)]; exact d1
  · rw [e2.1 _ _ (by omega)]; exact d2
  · rw [e2.1 _ _ (by omega)]; exact d3
  · rw [e2.1 _ _ (by omega)]; exact d4
  · rw [e2.1 _ _ (by omega)]; exact d5
/-- memory after an operation is written -/
def emM (u : Nat) (M : Mem) (w : Nat) (x y : Int32) : Mem := si (si (si M 132 (705 * u + 97 + 2 * w) x) 132 (705 * u + 97 + 2 * w + 1) y) 129 13 (nI (w + 1))
theorem emM_at (u : Nat) (M : Mem) (w : Nat) (x y : Int32) (k i : Nat) : (emM u M w x y).1 k i = if k = 129 ∧ i = 13 then nI (w + 1) else if k = 132 ∧ i = 705 * u + 97 + 2 * w + 1 then y else if k = 132 ∧ i = 705 * u + 97 + 2 * w then x else M.1 k i := by
  unfold emM
  rw [si_at, si_at, si_at]
theorem r_emit (h12 : M.1 129 12 = nI (705 * u)) (h13 : M.1 129 13 = nI w) (hu : u < 4) (hw : w ≤ 303) (x y : Int32) : f_m_emit x y M = some (emM u M w x y) := by
  unfold f_m_emit
  have e : nI (705 * u) + (97 : Int32) + (2 : Int32) * nI w = nI (705 * u + 97 + 2 * w) := by
    rw [show (97 : Int32) = nI 97 from rfl, show (2 : Int32) = nI 2 from rfl, nI_mul, nI_add, nI_add]
  rw [show gi M 129 12 = nI (705 * u) from h12, show gi M 129 13 = nI w from h13, e, if_pos (am_in_nI (by omega) (by decide)), nI_clamp (by omega), Option.bind_some, show gi (si M 132 (705 * u + 97 + 2 * w) x) 129 12 = nI (705 * u) from h12, show gi (si M 132 (705 * u + 97 + 2 * w) x) 129 13 = nI w from h13, e, nI_1, if_pos (am_in_nI (by omega) (by decide)), nI_clamp (by omega), Option.bind_some, show gi (si (si M 132 (705 * u + 97 + 2 * w) x) 132 (705 * u + 97 + 2 * w + 1) y) 129 13 = nI w from h13, nI_1, Option.bind_some]
  rfl
theorem emM_kp {x y : Int32} : Kp u M (emM u M w x y) p g w := ((Kp.code _ _ (by omega)).tr (Kp.code _ _ (by omega)) (Nat.le_refl _) (Nat.le_refl _) (Nat.le_refl _)).tr (Kp.f 13 _ (by omega)) (Nat.le_refl _) (Nat.le_refl _) (Nat.le_refl _)
theorem emM_rs (h : Rs B n u M j d p g w wh) (x y : Int32) : Rs B n u (emM u M w x y) j d p g (w + 1) wh := by
  have h' := h
  obtain ⟨a, b, c, d1, d2, d3, d4, d5⟩ := h'
  refine h.up ?_ rfl ?_ ?_ ?_ ?_ ?_ ?_
  · funext i
    rw [emM_at, if_neg (by omega), if_neg (by omega), if_neg (by omega)]
  · intro i hi
    rw [emM_at, if_neg (by omega), if_neg (by omega), if_neg (by omega)]
  · rw [emM_at, if_pos ⟨rfl, rfl⟩]
  · rw [emM_at, if_neg (by omega), if_neg (by omega), if_neg (by omega)]; exact d2
  · rw [emM_at, if_neg (by omega), if_neg (by omega), if_neg (by omega)]; exact d3
  · rw [emM_at, if_neg (by omega), if_neg (by omega), if_neg (by omega)]; exact d4
  · rw [emM_at, if_neg (by omega), if_neg (by omega), if_neg (by omega)]; exact d5
/-- settling -/
def rkN (k : Nat) : Nat := if k < 40 then (if k = 22 then 1 else if k = 21 then 2 else if k = 20 then 3 else if k < 10 then (if k = 3 then 7 else if k < 6 then 5 else 6) else 4) else 0
theorem rk_all : ∀ k, k < 44 → ∀ M, f_m_rank (nI k) M = nI (rkN k) := by
  intro k hk M
  have : ∀ k, k < 44 → f_m_rank (nI k) M0 = nI (rkN k) := by decide +kernel
  exact this k hk
theorem rkN_le (k : Nat) : rkN k ≤ 7 := by
  unfold rkN
  repeat' split
  all_goals omega
theorem set_stop {r m : Nat} (h19 : M.1 129 19 = nI p) (hp : p < 160) (hr : r < 8) (hs : p = 0 ∨ ∃ k, k < 44 ∧ M.1 134 (p - 1) = nI k ∧ rkN k < r) : f_m_settle_0 N (m + 1) (nI r) M = some M := by
  rw [f_m_settle_0, show gi M 129 19 = nI p from h19]
  by_cases z : p = 0
  · rw [if_pos (show nI p ≤ (0 : Int32) by rw [z]; decide)]
  · rcases hs with hs | ⟨k, k1, k2, k3⟩
    · exact absurd hs z
    · obtain ⟨q, rfl⟩ : ∃ q, p = q + 1 := ⟨p - 1, by omega⟩
      rw [if_neg (show ¬ nI (q + 1) ≤ (0 : Int32) from nI_ge (a := 0) (by omega) (by omega)), nI_s1, if_pos (am_in_nI (by omega) (by decide)), nI_clamp (by omega), show gi M 134 q = nI k from k2, rk_all k k1, if_pos (nI_lt k3 (by omega))]
/-- memory after the top is taken off and written -/
def pop0 (u : Nat) (M : Mem) (p w k d : Nat) : Mem := if k = 3 ∨ k = 20 then si (emM u (si M 129 19 (nI p)) w (nI k) 0) 129 20 (nI (d - 1)) else emM u (si M 129 19 (nI p)) w (nI k) 0
theorem set_pop {r m k : Nat} (h : Rs B n u M j d (p + 1) g w wh) (hu : u < 4) (hw : w ≤ 303) (hp : p < 159) (hk : k < 44) (ht : M.1 134 p = nI k) (hr : r ≤ rkN k) (hd : (k = 3 ∨ k = 20) → 1 ≤ d) : f_m_settle_0 N (m + 1) (nI r) M = f_m_settle_0 N m (nI r) (pop0 u M p w k d) := by
  obtain ⟨a, b, c, d1, d2, d3, d4, d5⟩ := h
  have rl := rkN_le k
  rw [f_m_settle_0, show gi M 129 19 = nI (p + 1) from d2, if_neg (show ¬ nI (p + 1) ≤ (0 : Int32) from nI_ge (a := 0) (by omega) (by omega)), nI_s1, if_pos (am_in_nI (by omega) (by decide)), nI_clamp (by omega), show gi M 134 p = nI k from ht, rk_all k hk, if_neg (nI_nlt hr (by omega)), Option.bind_some, show gi (si M 129 19 (nI p)) 129 19 = nI p by show (si M 129 19 (nI p)).1 129 19 = _; rw [si_at, if_pos ⟨rfl, rfl⟩], if_pos (am_in_nI (by omega) (by decide)), nI_clamp (by omega), show gi (si M 129 19 (nI p)) 134 p = nI k from ht]
  rw [r_emit (u := u) (w := w) (M := si M 129 19 (nI p)) c d1 hu hw, Option.bind_some]
  have g19 : gi (emM u (si M 129 19 (nI p)) w (nI k) 0) 129 19 = nI p := by
    show (emM u (si M 129 19 (nI p)) w (nI k) 0).1 129 19 = _
    rw [emM_at, if_neg (by omega), if_neg (by omega), if_neg (by omega), si_at, if_pos ⟨rfl, rfl⟩]
  have g134 : gi (emM u (si M 129 19 (nI p)) w (nI k) 0) 134 p = nI k := by
    show (emM u (si M 129 19 (nI p)) w (nI k) 0).1 134 p = _
    rw [emM_at, if_neg (by omega), if_neg (by omega), if_neg (by omega), si_at, if_neg (by omega)]
    exact ht
  have g20 : gi (emM u (si M 129 19 (nI p)) w (nI k) 0) 129 20 = nI d := by
    show (emM u (si M 129 19 (nI p)) w (nI k) 0).1 129 20 = _
    rw [emM_at, if_neg (by omega), if_neg (by omega), if_neg (by omega), si_at, if_neg (by omega)]
    exact d3
  rw [g19, if_pos (am_in_nI (by omega) (by decide)), nI_clamp (by omega), g134, g20]
  unfold pop0
  by_cases z : k = 3
  · have d1 : nI d - (1 : Int32) = nI (d - 1) := by
      rw [show (1 : Int32) = nI 1 from rfl, nI_sub (hd (Or.inl z))]
    rw [if_pos (show nI k = (3 : Int32) by rw [z]; rfl), Option.bind_some, if_pos (Or.inl z), d1]
  · rw [if_neg (show ¬ nI k = (3 : Int32) from fun e => z ((nI_eq (b := 3) (by omega) (by decide)).mp e)), if_pos (am_in_nI (by omega) (by decide))]
    by_cases z2 : k = 20
    · have d1 : nI d - (1 : Int32) = nI (d - 1) := by
        rw [show (1 : Int32) = nI 1 from rfl, nI_sub (hd (Or.inr z2))]
      rw [if_pos (show nI k = (20 : Int32) by rw [z2]; rfl), Option.bind_some, if_pos (Or.inr z2), d1]
    · rw [if_neg (show ¬ nI k = (20 : Int32) from fun e => z2 ((nI_eq (b := 20) (by omega) (by decide)).mp e)), if_neg (by omega)]
theorem pop0_kp {k d : Nat} : Kp u M (pop0 u M p w k d) p g w := by
  have a : Kp u M (emM u (si M 129 19 (nI p)) w (nI k) 0) p g w := (Kp.f 19 _ (by omega)).tr emM_kp (Nat.le_refl _) (Nat.le_refl _) (Nat.le_refl _)
  unfold pop0
  split
  · exact a.tr (Kp.f 20 _ (by omega)) (Nat.le_refl _) (Nat.le_refl _) (Nat.le_refl _)
  · exact a
theorem pop0_rs {k : Nat} (h : Rs B n u M j d (p + 1) g w wh) : Rs B n u (pop0 u M p w k d) j (if k = 3 ∨ k = 20 then d - 1 else d) p g (w + 1) wh := by
  have h' := h
  obtain ⟨a, b, c, d1, d2, d3, d4, d5⟩ := h'
  have h1 : Rs B n u (si M 129 19 (nI p)) j d p g w wh := by
    refine h.up rfl rfl ?_ ?_ ?_ ?_ ?_ ?_
    · intro i hi
      rw [si_at, if_neg (by omega)]
    · rw [si_at, if_neg (by omega)]; exact d1
    · rw [si_at, if_pos ⟨rfl, rfl⟩]
    · rw [si_at, if_neg (by omega)]; exact d3
    · rw [si_at, if_neg (by omega)]; exact d4
    · rw [si_at, if_neg (by omega)]; exact d5
  have h2 := emM_rs h1 (nI k) 0
  unfold pop0
  by_cases z : k = 3 ∨ k = 20
  · rw [if_pos z, if_pos z]
    obtain ⟨a, b, c, d1, d2, d3, d4, d5⟩ := h2
    refine Rs.up ⟨a, b, c, d1, d2, d3, d4, d5⟩ rfl rfl ?_ ?_ ?_ ?_ ?_ ?_
    · intro i hi
      rw [si_at, if_neg (by omega)]
    · rw [si_at, if_neg (by omega)]; exact d1
    · rw [si_at, if_neg (by omega)]; exact d2
    · rw [si_at, if_pos ⟨rfl, rfl⟩]
    · rw [si_at, if_neg (by omega)]; exact d4
    · rw [si_at, if_neg (by omega)]; exact d5
  · rw [if_neg z, if_neg z]
    exact h2
/-- the code that it wrote -/
theorem pop0_code {k d : Nat} : (pop0 u M p w k d).1 132 (705 * u + 97 + 2 * w) = nI k := by
  have a : (emM u (si M 129 19 (nI p)) w (nI k) 0).1 132 (705 * u + 97 + 2 * w) = nI k := by
    rw [emM_at, if_neg (by omega), if_neg (by omega), if_pos ⟨rfl, rfl⟩]
  unfold pop0
  split
  · rw [si_at, if_neg (by omega)]; exact a
  · exact a
end RSTATE
