/-! A step is taken back; both sides in one round. -/
theorem Inv.stp {M : Mem} (hM : Inv LX M) : ∃ c t, Sm M M c t ∧ ∀ M1 M2 c', CS M M1 → RS M1 M2 → Sm M1 M2 c' t → Inv LX M2 := by
  obtain ⟨c, t, ck, tk, h1, h2, h3, h4, h5, h6⟩ := hM
  have em : mgf M M = M.1 := by
    funext k
    unfold mgf
    split <;> rfl
  refine ⟨c, t, ⟨h1, by rw [em]; exact h6⟩, fun M1 M2 c' hc hr S => ?_⟩
  have e : ∀ k, (k = 6 ∨ (46 ≤ k ∧ k ≤ 107) ∨ (111 ≤ k ∧ k ≤ 128) ∨ k = 131 ∨ k = 132 ∨ k = 133) → M2.1 k = M.1 k := fun k hk => by
    rw [hr.1 k (by omega) (by omega) (by omega) (by omega) (by omega), hc k (by omega)]
  refine ⟨c', t, ck, tk, ?_, ?_, h3, ?_, ?_, ?_⟩
  · exact S.1.cong (fun k a b _ _ _ _ _ => hr.1 _ (by omega) (by omega) (by omega) (by omega) (by omega))
  · rw [e 131 (by omega)]
    exact h2.cong (fun k a b _ _ _ _ _ => e _ (by omega))
  · exact h4.cong (by rw [e 100 (by omega)]) (by rw [hr.2.1, hc 129 (by omega)]) (e 101 (by omega)) (e 133 (by omega))
  · exact h5.cong (e 103 (by omega)) (by rw [hr.2.2.1, hc 129 (by omega)]) (by rw [hr.2.2.2, hc 129 (by omega)])
  · refine LX_ok.1 (mgf M1 M2) _ t (fun k a b => ?_) ?_ S.2
    · unfold mgf
      rw [if_pos b]
      exact hr.1 k (by omega) (by omega) (by omega) (by omega) (by omega)
    · unfold mgf
      rw [if_neg (by omega)]
theorem Sm.mv {M M1 : Mem} {c t : Nat} (S : Sm M M c t) (h : CS M M1) : Sm M M1 c t := ⟨by rw [h 130 (by omega)]; exact S.1, LX_mg S.2 (fun _ _ _ => rfl) (h 132 (by omega))⟩
theorem two_run {M : Mem} (hM : Inv LX M) {cf rf : Mem → Option (Int32 × Mem)} (hs : ∀ c t Mr, Sm M Mr c t → ∃ v Mc' Mr' c', cf M = some (v, Mc') ∧ rf Mr = some (v, Mr') ∧ Sm Mc' Mr' c' t ∧ CS M Mc' ∧ RS Mr Mr') : ∃ v M1 M2, cf M = some (v, M1) ∧ rf M1 = some (v, M2) ∧ Inv LX M2 := by
  obtain ⟨c, t, S, K⟩ := hM.stp
  obtain ⟨v, M1, Mr', c', e1, e2, e3, e4, e5⟩ := hs c t M S
  obtain ⟨v2, M1', M2, c2, g1, g2, g3, g4, g5⟩ := hs c t M1 (S.mv e4)
  rw [e1] at g1
  obtain ⟨rfl, rfl⟩ := Prod.mk.inj (Option.some.inj g1)
  exact ⟨v, M1, M2, e1, g2, K M1 M2 c2 e4 g5 g3⟩
/-! the reference's undo -/
def unA (A : Nat → Int32) (x cj g : Nat) : Nat → Int32 := fun j => if 15 ≤ j ∧ (j - 15) / 7 < g ∧ (j - 15) % 7 < 4 then (if (j - 15) / 7 < cj then A (x + 7 + 4 * ((j - 15) / 7) + (j - 15) % 7) else if (j - 15) % 7 = 0 then 1 else if (j - 15) % 7 = 3 then -1 else 0) else A j
theorem unA_0 (A : Nat → Int32) (x cj : Nat) : unA A x cj 0 = A := by
  funext j
  unfold unA
  rw [if_neg (by omega)]
theorem unA_o {A : Nat → Int32} {x cj g j : Nat} (h : j < 15 ∨ 4 ≤ (j - 15) % 7 ∨ 15 + 7 * g ≤ j) : unA A x cj g j = A j := by
  unfold unA
  rw [if_neg (by omega)]
/-- a guest of old gets what the step has -/
def unI (A : Nat → Int32) (x cj g i : Nat) : Nat → Int32 := fun j => if 15 + 7 * g ≤ j ∧ j < 15 + 7 * g + i then A (x + 7 + 4 * g + (j - (15 + 7 * g))) else upd (upd (upd (upd (unA A x cj g) (12 + 7 * g + 3) 1) (12 + 7 * g + 4) 0) (12 + 7 * g + 5) 0) (12 + 7 * g + 6) (-1) j
theorem unI_0 (A : Nat → Int32) (x cj g : Nat) : unI A x cj g 0 = upd (upd (upd (upd (unA A x cj g) (12 + 7 * g + 3) 1) (12 + 7 * g + 4) 0) (12 + 7 * g + 5) 0) (12 + 7 * g + 6) (-1) := by
  funext j
  unfold unI
  rw [if_neg (by omega)]
theorem unI_o {A : Nat → Int32} {x cj g i j : Nat} (hi : i ≤ 4) (h : 70 ≤ j ∨ j < 15) (hg : g < 8) : unI A x cj g i j = A j := by
  unfold unI
  rw [if_neg (by omega), pk_un (by omega), pk_un (by omega), pk_un (by omega), pk_un (by omega), unA_o (by omega)]
theorem unI_4 {A : Nat → Int32} {x cj g : Nat} (h : g < cj) : unI A x cj g 4 = unA A x cj (g + 1) := by
  funext j
  unfold unI
  by_cases q : 15 + 7 * g ≤ j ∧ j < 15 + 7 * g + 4
  · rw [if_pos q]
    unfold unA
    rw [if_pos (by omega), if_pos (by omega)]
    congr 1
    omega
  · rw [if_neg q, pk_un (by omega), pk_un (by omega), pk_un (by omega), pk_un (by omega)]
    unfold unA
    by_cases q2 : 15 ≤ j ∧ (j - 15) / 7 < g ∧ (j - 15) % 7 < 4
    · rw [if_pos q2, if_pos (show 15 ≤ j ∧ (j - 15) / 7 < g + 1 ∧ (j - 15) % 7 < 4 by omega)]
    · rw [if_neg q2, if_neg (by omega)]
theorem unI_n {A : Nat → Int32} {x cj g : Nat} (h : cj ≤ g) : unI A x cj g 0 = unA A x cj (g + 1) := by
  rw [unI_0]
  funext j
  by_cases h6 : j = 12 + 7 * g + 6
  · rw [h6, pk_us]
    unfold unA
    rw [if_pos (by omega), if_neg (by omega), if_neg (by omega), if_pos (by omega)]
  rw [pk_un h6]
  by_cases h5 : j = 12 + 7 * g + 5
  · rw [h5, pk_us]
    unfold unA
    rw [if_pos (by omega), if_neg (by omega), if_neg (by omega), if_neg (by omega)]
  rw [pk_un h5]
  by_cases h4 : j = 12 + 7 * g + 4
  · rw [h4, pk_us]
    unfold unA
    rw [if_pos (by omega), if_neg (by omega), if_neg (by omega), if_neg (by omega)]
  rw [pk_un h4]
  by_cases h3 : j = 12 + 7 * g + 3
  · rw [h3, pk_us]
    unfold unA
    rw [if_pos (by omega), if_neg (by omega), if_pos (by omega)]
  rw [pk_un h3]
  unfold unA
  by_cases q2 : 15 ≤ j ∧ (j - 15) / 7 < g ∧ (j - 15) % 7 < 4
  · rw [if_pos q2, if_pos (show 15 ≤ j ∧ (j - 15) / 7 < g + 1 ∧ (j - 15) % 7 < 4 by omega)]
  · rw [if_neg q2, if_neg (by omega)]
section UNDO
variable {N : Nat} {M : Mem} {A : Nat → Int32} {x cj c : Nat}
def lgA (B : Nat → Int32) (x i : Nat) : Nat → Int32 := fun j => if 68 ≤ j ∧ j < 68 + i then B (x + 39 + (j - 68)) else B j
theorem u170 (hN : 4000 ≤ N) (hx : 126 ≤ x) (hx2 : x ≤ 2446) : f_m_undo_170 N N (nI x) 0 (sr M 130 A) = some (A 7, sr M 130 (lgA A x 40)) := by
  have := run_loop (fun n a i => f_m_undo_170 N n (nI x) i (sr M 130 a)) (fun i => lgA A x i) (some (A 7, sr M 130 (lgA A x 40))) 40 (fun n => ?_) (fun n i hi => ?_) N 0 (by omega) (by omega)
  · have t2 : f_m_undo_170 N N (nI x) (nI 0) (sr M 130 (lgA A x 0)) = _ := this
    have e0 : lgA A x 0 = A := by
      funext j
      unfold lgA
      rw [if_neg (by omega)]
    rw [e0] at t2
    exact t2
  · show f_m_undo_170 N (n + 1) (nI x) (nI 40) (sr M 130 (lgA A x 40)) = _
    rw [f_m_undo_170, if_pos (show (40 : Int32) ≤ nI 40 by decide), gi130]
    rfl
  · show f_m_undo_170 N (n + 1) (nI x) (nI i) (sr M 130 (lgA A x i)) = f_m_undo_170 N n (nI x) (nI (i + 1)) (sr M 130 (lgA A x (i + 1)))
    have e1 : (68 : Int32) + nI i = nI (68 + i) := nI_add 68 i
    have e2 : nI x + (39 : Int32) + nI i = nI (x + (39 + i)) := by
      rw [show (39 : Int32) = nI 39 from rfl, nI_add, nI_add]
      congr 1
      omega
    rw [f_m_undo_170, if_neg (show ¬ (40 : Int32) ≤ nI i from nI_ge (b := 40) hi (by decide)), e1, e2, if_pos (am_in_nI (by omega) (by decide)), if_pos (am_in_nI (by omega) (by decide)), Option.bind_some, nI_clamp (by omega), nI_clamp (by omega), gi130, si130, nI_1]
    congr 2
    funext j
    unfold lgA
    by_cases h : j = 68 + i
    · rw [h, pk_us, if_neg (by omega), if_pos (by omega)]
      congr 1
      omega
    · rw [pk_un h]
      by_cases q : 68 ≤ j ∧ j < 68 + i
      · rw [if_pos q, if_pos (by omega)]
      · rw [if_neg q, if_neg (by omega)]
theorem u101 (hN : 4000 ≤ N) (hx : 126 ≤ x) (hx2 : x ≤ 2446) (hc : c ≤ 8) (h0 : A 0 = nI c) (hx0 : A x = nI cj) (hcj : cj ≤ 8) : f_m_undo_101 N N (nI x) 0 (sr M 130 A) = some (A 7, sr M 130 (lgA (unA A x cj c) x 40)) := by
  have := run_loop (fun n a i => f_m_undo_101 N n (nI x) i (sr M 130 a)) (fun i => unA A x cj i) (some (A 7, sr M 130 (lgA (unA A x cj c) x 40))) c (fun n => ?_) (fun n g hg => ?_) N 0 (by omega) (by omega)
  · have t2 : f_m_undo_101 N N (nI x) (nI 0) (sr M 130 (unA A x cj 0)) = _ := this
    rw [unA_0] at t2
    exact t2
  · show f_m_undo_101 N (n + 1) (nI x) (nI c) (sr M 130 (unA A x cj c)) = _
    rw [f_m_undo_101, gi130, unA_o (by omega), h0, if_pos (nI_le (Nat.le_refl _) (by omega)), u170 hN hx hx2, unA_o (by omega)]
  · show f_m_undo_101 N (n + 1) (nI x) (nI g) (sr M 130 (unA A x cj g)) = f_m_undo_101 N n (nI x) (nI (g + 1)) (sr M 130 (unA A x cj (g + 1)))
    rw [f_m_undo_101, gi130, unA_o (by omega), h0, if_neg (nI_ge hg (by omega)), sit_m (by omega), Option.bind_some, ← unI_0]
    have xc : (nI x).toNatClampNeg = x := nI_clamp (by omega)
    have xin : am_in (nI x) 3826 = true := am_in_nI (by omega) (by decide)
    by_cases q : g < cj
    · rw [← unI_4 q]
      have t := run_loop (fun n' a i => f_m_undo_118 N (f_m_undo_101 N n) n' (nI x) (nI g) i (sr M 130 a)) (fun i => unI A x cj g i) (f_m_undo_101 N n (nI x) (nI (g + 1)) (sr M 130 (unI A x cj g 4))) 4 (fun n' => ?_) (fun n' i hi => ?_) N 0 (by omega) (by omega)
      · exact t
      · show f_m_undo_118 N (f_m_undo_101 N n) (n' + 1) (nI x) (nI g) (nI 4) (sr M 130 (unI A x cj g 4)) = _
        rw [f_m_undo_118, if_pos (show (4 : Int32) ≤ nI 4 by decide), nI_1]
      · show f_m_undo_118 N (f_m_undo_101 N n) (n' + 1) (nI x) (nI g) (nI i) (sr M 130 (unI A x cj g i)) = f_m_undo_118 N (f_m_undo_101 N n) n' (nI x) (nI g) (nI (i + 1)) (sr M 130 (unI A x cj g (i + 1)))
        have e1 : (3 : Int32) + nI i = nI (3 + i) := nI_add 3 i
        have e2 : nI x + (7 : Int32) + (4 : Int32) * nI g + nI i = nI (x + 7 + 4 * g + i) := by
          rw [show (7 : Int32) = nI 7 from rfl, show (4 : Int32) = nI 4 from rfl, nI_mul, nI_add, nI_add, nI_add]
        rw [f_m_undo_118, if_neg (show ¬ (4 : Int32) ≤ nI i from nI_ge (b := 4) hi (by decide)), if_pos xin, xc, gi130, unI_o (by omega) (by omega) (by omega), hx0, if_neg (nI_ge q (by omega)), e1, e2, if_pos (am_in_nI (by omega) (by decide)), nI_clamp (by omega), gi130, unI_o (by omega) (by omega) (by omega), sS (3 + i) _ rfl (by omega) (by omega), Option.bind_some, nI_1]
        congr 2
        funext j
        by_cases h : j = 12 + 7 * g + (3 + i)
        · rw [h, pk_us]
          unfold unI
          rw [if_pos (by omega)]
          congr 1
          omega
        · rw [pk_un h]
          unfold unI
          by_cases q : 15 + 7 * g ≤ j ∧ j < 15 + 7 * g + i
          · rw [if_pos q, if_pos (by omega)]
          · rw [if_neg q, if_neg (by omega)]
    · rw [← unI_n (show cj ≤ g by omega)]
      obtain ⟨m, rfl⟩ : ∃ m, N = m + 1 := ⟨N - 1, by omega⟩
      show f_m_undo_118 (m + 1) _ (m + 1) (nI x) (nI g) (nI 0) _ = _
      rw [f_m_undo_118, if_neg (by decide), if_pos xin, xc, gi130, unI_o (by omega) (by omega) (by omega), hx0, if_pos (nI_le (by omega) (by omega)), nI_1]
def fvA (A : Nat → Int32) (x i : Nat) : Nat → Int32 := fun j => if 1 ≤ j ∧ j < 1 + i then A (x + j) else A j
theorem u39 (hN : 4000 ≤ N) (hx : 126 ≤ x) (hx2 : x ≤ 2446) (hc : c ≤ 8) (h0 : A 0 = nI c) (hx0 : A x = nI cj) (hcj : cj ≤ 8) : f_m_undo_39 N N (nI x) 0 (sr M 130 A) = some (A 7, sr M 130 (lgA (unA (upd (upd (fvA A x 4) 8 (A (x + 5))) 9 (A (x + 6))) x cj c) x 40)) := by
  have := run_loop (fun n a i => f_m_undo_39 N n (nI x) i (sr M 130 a)) (fun i => fvA A x i) (some (A 7, sr M 130 (lgA (unA (upd (upd (fvA A x 4) 8 (A (x + 5))) 9 (A (x + 6))) x cj c) x 40))) 4 (fun n => ?_) (fun n i hi => ?_) N 0 (by omega) (by omega)
  · have t2 : f_m_undo_39 N N (nI x) (nI 0) (sr M 130 (fvA A x 0)) = _ := this
    have e0 : fvA A x 0 = A := by
      funext j
      unfold fvA
      rw [if_neg (by omega)]
    rw [e0] at t2
    exact t2
  · show f_m_undo_39 N (n + 1) (nI x) (nI 4) (sr M 130 (fvA A x 4)) = _
    have e5 : nI x + (5 : Int32) = nI (x + 5) := nI_add x 5
    have e6 : nI x + (6 : Int32) = nI (x + 6) := nI_add x 6
    have hf : ∀ j, 5 ≤ j → fvA A x 4 j = A j := fun j hj => by unfold fvA; rw [if_neg (by omega)]
    rw [f_m_undo_39, if_pos (show (4 : Int32) ≤ nI 4 by decide), e5, e6, if_pos (am_in_nI (by omega) (by decide)), Option.bind_some, nI_clamp (by omega), gi130, si130, hf _ (by omega), if_pos (am_in_nI (by omega) (by decide)), Option.bind_some, nI_clamp (by omega), gi130, si130, pk_un (by omega), hf _ (by omega), u101 hN hx hx2 hc (by rw [pk_un (by omega), pk_un (by omega)]; exact h0) (by rw [pk_un (by omega), pk_un (by omega), hf _ (by omega)]; exact hx0) hcj, pk_un (by omega), pk_un (by omega), hf _ (by omega)]
  · show f_m_undo_39 N (n + 1) (nI x) (nI i) (sr M 130 (fvA A x i)) = f_m_undo_39 N n (nI x) (nI (i + 1)) (sr M 130 (fvA A x (i + 1)))
    have e1 : (1 : Int32) + nI i = nI (1 + i) := nI_add 1 i
    have e2 : nI x + (1 : Int32) + nI i = nI (x + (1 + i)) := by
      rw [show (1 : Int32) = nI 1 from rfl, nI_add, nI_add]
      congr 1
      omega
    rw [f_m_undo_39, if_neg (show ¬ (4 : Int32) ≤ nI i from nI_ge (b := 4) hi (by decide)), e1, e2, if_pos (am_in_nI (by omega) (by decide)), if_pos (am_in_nI (by omega) (by decide)), Option.bind_some, nI_clamp (by omega), nI_clamp (by omega), gi130, si130, nI_1]
    congr 2
    funext j
    unfold fvA
    by_cases h : j = 1 + i
    · rw [h, pk_us, if_neg (by omega), if_pos (by omega)]
    · rw [pk_un h]
      by_cases q : 1 ≤ j ∧ j < 1 + i
      · rw [if_pos q, if_pos (by omega)]
      · rw [if_neg q, if_neg (by omega)]
end UNDO
/-- the class's undo -/
def uk (M : Mem) (p k : Nat) : Mem := sr (sr M 12 (va_cpy (M.1 (16 + p)) (M.1 12) 0 0 66)) 14 (upd (upd (M.1 14) 1 (nI p)) 2 (nI k))
theorem fmb_all : ∀ n, n < 30 → f_k_floorMod (nI n - 1) 30 M0 = some (nI ((n + 29) % 30)) := by decide +kernel
theorem s_back {M : Mem} {n k : Nat} (hn : n < 30) (hk : k + 1 ≤ 30) (h1 : M.1 14 1 = nI n) (h2 : M.1 14 2 = nI (k + 1)) : f_s_takeBack M = some (1, uk M ((n + 29) % 30) k) := by
  have hp : (n + 29) % 30 < 30 := Nat.mod_lt _ (by omega)
  have fm : f_k_floorMod (nI n - 1) 30 M = some (nI ((n + 29) % 30)) := fmb_all n hn
  unfold f_s_takeBack
  rw [show gi M 14 2 = nI (k + 1) from h2, if_pos (show (0 : Int32) < nI (k + 1) from nI_lt (a := 0) (by omega) (by omega)), show gi M 14 1 = nI n from h1, fm, Option.bind_some]
  have g1 : gi (si M 14 1 (nI ((n + 29) % 30))) 14 1 = nI ((n + 29) % 30) := by rw [gi_si, if_pos rfl, if_pos rfl]
  rw [g1, if_pos (am_in_nI hp (by decide)), nI_clamp (by omega)]
  generalize hP : (n + 29) % 30 = p at *
  have er : f_s_load (si M 14 1 (nI p)) p = sr (sr M 12 (va_cpy (M.1 (16 + p)) (M.1 12) 0 0 66)) 14 (upd (M.1 14) 1 (nI p)) := by
    unfold f_s_load
    rw [si_sr M, sr_1, if_neg (by omega), sr_1, if_neg (by omega), sr_comm M (by decide)]
  rw [er]
  have g2 : gi (sr (sr M 12 (va_cpy (M.1 (16 + p)) (M.1 12) 0 0 66)) 14 (upd (M.1 14) 1 (nI p))) 14 2 = nI (k + 1) := by
    rw [gi_sr, if_pos rfl, pk_un (by omega), h2]
  rw [g2, nI_pred, si_of_sr]
  rfl
theorem s_back0 {M : Mem} (h2 : M.1 14 2 = nI 0) : f_s_takeBack M = some (0, M) := by
  unfold f_s_takeBack
  rw [show gi M 14 2 = nI 0 from h2, if_neg (by decide)]
section UNDO2
variable {Mc Mr : Mem} {c t N : Nat}
theorem sim_undo (hN : 4000 ≤ N) (S : Sm Mc Mr c t) : ∃ v Mc' Mr' c', f_w_undo Mc = some (v, Mc') ∧ f_m_undo N Mr = some (v, Mr') ∧ Sm Mc' Mr' c' t ∧ CS Mc Mc' ∧ RS Mr Mr' := by
  obtain ⟨h1, h2, h3, h4, h5⟩ := id S.1
  obtain ⟨k, n, hk, hn, a1, a2, a3, a4, a5, a6⟩ := h4
  have a1' : Mc.1 14 2 = nI k := a1
  have a3' : Mc.1 14 1 = nI n := a3
  have hc := h1.1
  have A0 : Mr.1 130 0 = nI c := h1.2.2.1
  cases k with
  | zero =>
    refine ⟨-1, Mc, Mr, c, ?_, ?_, S, CS.rf, RS.rf⟩
    · unfold f_w_undo
      rw [s_back0 a1', Option.bind_some, if_pos rfl]
    · unfold f_m_undo
      rw [show gi Mr 130 7 = nI 0 from a2, if_pos (show nI 0 = (0 : Int32) from rfl)]
  | succ k =>
    have hp : (n + 29) % 30 < 30 := Nat.mod_lt _ (by omega)
    obtain ⟨cj, b1, b2⟩ := a4 k (by omega)
    have ep : (n + 30 - (k + 1) + k) % 30 = (n + 29) % 30 := by omega
    rw [ep] at b2
    have b2' : Ev (Mc.1 (16 + (n + 29) % 30)) (stp (Mr.1 130) k) (bk (Mr.1 130)) cj := by
      have : Ev (Mc.1 (16 + 0 + (n + 29) % 30)) (stp (Mr.1 130) k) (bk (Mr.1 130)) cj := b2
      rwa [show 16 + 0 + (n + 29) % 30 = 16 + (n + 29) % 30 by omega] at this
    obtain ⟨nt, mo, dr, gn, sp, lm, lw, lk, lf, bh, bd, ⟨⟨x0, x0'⟩, ⟨x1, x2, x3⟩, ⟨x4, x5, x6⟩, ⟨x7, x8, x9⟩, ⟨y1, y2⟩, ⟨y3, y4, y5⟩, ⟨y6, y7⟩⟩, eL, eD, eB⟩ := id b2'
    generalize hX : 126 + 80 * k = x
    have es : ∀ i, stp (Mr.1 130) k i = Mr.1 130 (x + i) := fun i => by unfold stp; rw [hX]
    have ex : (126 : Int32) + (80 : Int32) * nI k = nI x := by
      rw [show (80 : Int32) = nI 80 from rfl, show (126 : Int32) = nI 126 from rfl, nI_mul, nI_add, hX]
    generalize hB : upd (Mr.1 130) 7 (nI k) = B
    have Bo : ∀ j, j ≠ 7 → B j = Mr.1 130 j := fun j hj => by rw [← hB, pk_un hj]
    have B7 : B 7 = nI k := by rw [← hB, pk_us]
    have Bx : B x = nI cj := by rw [Bo x (by omega)]; have := es 0; rw [Nat.add_zero] at this; rw [← this]; exact x0
    have rE : f_m_undo N Mr = some (nI k, sr Mr 130 (lgA (unA (upd (upd (fvA B x 4) 8 (B (x + 5))) 9 (B (x + 6))) x cj c) x 40)) := by
      unfold f_m_undo
      rw [show gi Mr 130 7 = nI (k + 1) from a2, if_neg (show ¬ nI (k + 1) = (0 : Int32) from nI_ne0 (by omega) (by omega)), nI_pred, si_sr Mr, Option.bind_some, gi130, pk_us, ex, hB, u39 hN (by omega) (by omega) hc (by rw [Bo 0 (by omega), A0]) Bx x0', B7]
    generalize hA' : lgA (unA (upd (upd (fvA B x 4) 8 (B (x + 5))) 9 (B (x + 6))) x cj c) x 40 = A' at rE
    have cE : f_w_undo Mc = some (nI k, uk Mc ((n + 29) % 30) k) := by
      unfold f_w_undo
      rw [s_back hn hk a3' a1', Option.bind_some, if_neg (show ¬ (1 : Int32) = 0 by decide)]
      rfl
    -- what the new row holds
    have o1 : ∀ j, j ≠ 7 → ¬ (1 ≤ j ∧ j < 5) → j ≠ 8 → j ≠ 9 → ¬ (15 ≤ j ∧ j < 15 + 7 * c ∧ (j - 15) % 7 < 4) → ¬ (68 ≤ j ∧ j < 108) → A' j = Mr.1 130 j := by
      intro j q1 q2 q3 q4 q5 q6
      rw [← hA']
      unfold lgA
      rw [if_neg (by omega), unA_o (by omega), pk_un q4, pk_un q3]
      unfold fvA
      rw [if_neg (by omega), Bo j q1]
    have o2 : ∀ j, 1 ≤ j → j < 5 → A' j = Mr.1 130 (x + j) := by
      intro j q1 q2
      rw [← hA']
      unfold lgA
      rw [if_neg (by omega), unA_o (by omega), pk_un (by omega), pk_un (by omega)]
      unfold fvA
      rw [if_pos (by omega), Bo _ (by omega)]
    have o7 : A' 7 = nI k := by
      rw [← hA']
      unfold lgA
      rw [if_neg (by omega), unA_o (by omega), pk_un (by omega), pk_un (by omega)]
      unfold fvA
      rw [if_neg (by omega), B7]
    have o8 : A' 8 = Mr.1 130 (x + 5) := by
      rw [← hA']
      unfold lgA
      rw [if_neg (by omega), unA_o (by omega), pk_un (by omega), pk_us, Bo _ (by omega)]
    have o9 : A' 9 = Mr.1 130 (x + 6) := by
      rw [← hA']
      unfold lgA
      rw [if_neg (by omega), unA_o (by omega), pk_us, Bo _ (by omega)]
    have Cx0 : ∀ j, 126 ≤ j → upd (upd (fvA B x 4) 8 (B (x + 5))) 9 (B (x + 6)) j = Mr.1 130 j := by
      intro j hj
      rw [pk_un (by omega), pk_un (by omega)]
      unfold fvA
      rw [if_neg (by omega), Bo _ (by omega)]
    have oL : ∀ i, i < 40 → A' (68 + i) = Mr.1 130 (x + (39 + i)) := by
      intro i hi
      rw [← hA']
      unfold lgA
      rw [if_pos (by omega), show x + 39 + (68 + i - 68) = x + (39 + i) by omega, unA_o (by omega), Cx0 _ (by omega)]
    have oG : ∀ g i, g < c → i < 4 → A' (15 + 7 * g + i) = if g < cj then Mr.1 130 (x + (7 + 4 * g + i)) else if i = 0 then 1 else if i = 3 then -1 else 0 := by
      intro g i hg hi
      have d1 : (15 + 7 * g + i - 15) / 7 = g := by omega
      have d2 : (15 + 7 * g + i - 15) % 7 = i := by omega
      rw [← hA']
      unfold lgA
      rw [if_neg (by omega)]
      unfold unA
      rw [if_pos (by omega), d1, d2]
      by_cases q : g < cj
      · rw [if_pos q, if_pos q, show x + 7 + 4 * g + i = x + (7 + 4 * g + i) by omega, Cx0 _ (by omega)]
      · rw [if_neg q, if_neg q]
    have R12 : ∀ i, i < 66 → (uk Mc ((n + 29) % 30) k).1 12 i = Mc.1 (16 + (n + 29) % 30) i := by
      intro i hi
      unfold uk
      rw [sr_1, if_neg (by omega), sr_1, if_pos rfl, pk_cpy_in (by omega) (by omega), show 0 + (i - 0) = i by omega]
    have hcs : CS Mc (uk Mc ((n + 29) % 30) k) := fun q hq => by
      unfold uk
      rw [sr_1, if_neg (by omega), sr_1, if_neg (by omega)]
    have hrs : RS Mr (sr Mr 130 A') := ⟨fun q _ hq _ _ _ => by rw [sr_1, if_neg hq], rfl, rfl, rfl⟩
    have uko : ∀ q, q ≠ 12 → q ≠ 14 → (uk Mc ((n + 29) % 30) k).1 (q + 0) = Mc.1 (q + 0) := fun q q1 q2 => by
      unfold uk
      rw [sr_1, if_neg (by omega), sr_1, if_neg (by omega)]
    have hE : EA ((uk Mc ((n + 29) % 30) k).1 12) A' c nt mo dr gn sp lm lw lk lf bh bd := by
      refine EA.of hc (by rw [o1 0 (by omega) (by omega) (by omega) (by omega) (by omega) (by omega), A0]) (by rw [R12 0 (by omega), x1]) (by rw [o2 1 (by omega) (by omega), ← es 1, x2]) x3 (by rw [R12 1 (by omega), x4]) (by rw [o2 2 (by omega) (by omega), ← es 2, x5]) x6 (by rw [R12 2 (by omega), x7]) (by rw [o2 4 (by omega) (by omega), ← es 4, x8]) x9 (by rw [R12 3 (by omega), y1]) (Nat.lt_of_lt_of_le y2 (Nat.pow_le_pow_right (by decide) b1)) (by rw [R12 4 (by omega), y3]) (by rw [o8, ← es 5, y4]) y5 (by rw [R12 5 (by omega), y6]) (by rw [o9, ← es 6, y7]) (by rw [o2 3 (by omega) (by omega), ← es 3, eD.1]) (fun i hi => ?_) (fun g hg => ?_) (fun j hj => ?_)
      · obtain ⟨l1, l2, l3, l4, l5⟩ := eL i hi
        refine ⟨by rw [R12 _ (by omega), l1], by rw [oL i (by omega), ← es, l2], l3, ?_, l5⟩
        rcases l4 with q | q
        · exact Or.inl (by omega)
        · exact Or.inr q
      · have g0 := oG g 0 hg (by omega)
        have g1 := oG g 1 hg (by omega)
        have g2 := oG g 2 hg (by omega)
        have g3 := oG g 3 hg (by omega)
        rw [show 15 + 7 * g + 0 = 15 + 7 * g by omega] at g0
        rw [show 15 + 7 * g + 1 = 16 + 7 * g by omega] at g1
        rw [show 15 + 7 * g + 2 = 17 + 7 * g by omega] at g2
        rw [show 15 + 7 * g + 3 = 18 + 7 * g by omega] at g3
        rw [g0, g1, g2, g3]
        by_cases q : g < cj
        · obtain ⟨d1, d2, d3, d4⟩ := eD.2 g q
          rw [if_pos q, if_pos q, if_pos q, if_pos q, ← es, ← es, ← es, ← es]
          exact ⟨d1, by rw [← d2]; congr 1; omega, by rw [← d3]; congr 1; omega, by rw [← d4]; congr 1; omega⟩
        · have ne : ∀ i, i < sp → lw i ≠ g := fun i hi => by
            obtain ⟨-, -, -, l4, -⟩ := eL i hi
            omega
          rw [if_neg q, if_neg q, if_neg q, if_neg q, lt_tb y2 (show cj ≤ g by omega), ct_false (fun i hi => by simp [ne i hi]), ct_false (fun i hi => by simp [ne i hi]), lastI_none ne]
          exact ⟨rfl, rfl, rfl, rfl⟩
      · obtain ⟨v1, v2, v3⟩ := eB j hj
        refine ⟨by rw [R12 _ (by omega), v1], ?_, v3⟩
        rw [o1 _ (by omega) (by omega) (by omega) (by omega) (by omega) (by omega)]
        exact v2
    refine ⟨nI k, _, _, c, cE, rE, ⟨?_, LX_cs S.2 hcs hrs⟩, hcs, hrs⟩
    rw [sr_1, if_pos rfl]
    have os : ∀ j i, j < 30 → i < 80 → stp A' j i = stp (Mr.1 130) j i := fun j i hj hi => o1 _ (by omega) (by omega) (by omega) (by omega) (by omega) (by omega)
    have hbk : ∀ i, bk A' i = bk (Mr.1 130) i := fun i => o1 _ (by omega) (by omega) (by omega) (by omega) (by omega) (by omega)
    refine ⟨?_, ?_, hE.ev, ?_, ?_⟩
    · rw [uko 7 (by omega) (by omega), uko 8 (by omega) (by omega), uko 9 (by omega) (by omega), uko 10 (by omega) (by omega)]
      obtain ⟨p1, p2, p3, p4⟩ := h1
      refine ⟨p1, p2, by rw [o1 0 (by omega) (by omega) (by omega) (by omega) (by omega) (by omega)]; exact p3, fun g hg => ?_⟩
      rw [o1 _ (by omega) (by omega) (by omega) (by omega) (by omega) (by omega), o1 _ (by omega) (by omega) (by omega) (by omega) (by omega) (by omega), o1 _ (by omega) (by omega) (by omega) (by omega) (by omega) (by omega)]
      exact p4 g hg
    · rw [uko 6 (by omega) (by omega)]
      obtain ⟨t1, t2, t3, t4, t5⟩ := h2
      exact ⟨t1, t2, by rw [o1 5 (by omega) (by omega) (by omega) (by omega) (by omega) (by omega)]; exact t3, by rw [o1 6 (by omega) (by omega) (by omega) (by omega) (by omega) (by omega)]; exact t4, t5⟩
    · refine ⟨k, (n + 29) % 30, by omega, hp, rfl, o7, rfl, fun j hj => ?_, fun i j hi hj => ?_, fun j hj => ?_⟩
      · obtain ⟨cj', b1', b2'⟩ := a4 j (by omega)
        refine ⟨cj', b1', ?_⟩
        have ej : (n + 30 - (k + 1) + j) % 30 = ((n + 29) % 30 + 30 - k + j) % 30 := by omega
        rw [ej] at b2'
        show Ev ((uk Mc ((n + 29) % 30) k).1 (16 + 0 + ((n + 29) % 30 + 30 - k + j) % 30)) _ _ _
        have eu : (uk Mc ((n + 29) % 30) k).1 (16 + 0 + ((n + 29) % 30 + 30 - k + j) % 30) = Mc.1 (16 + 0 + ((n + 29) % 30 + 30 - k + j) % 30) := by
          unfold uk
          rw [sr_1, if_neg (by omega), sr_1, if_neg (by omega)]
        rw [eu]
        exact Ev.cong b2' (fun _ _ => rfl) (fun i hi => os j i (by omega) (by omega)) (fun i _ => hbk i)
      · rw [os i 1 (by omega) (by omega), os j 1 (by omega) (by omega)]
        exact a5 i j hi (by omega)
      · rw [os j 1 (by omega) (by omega), o2 1 (by omega) (by omega), ← es 1]
        exact a5 j k (by omega) (by omega)
    · rw [uko 48 (by omega) (by omega), uko 49 (by omega) (by omega), uko 50 (by omega) (by omega)]
      intro u hu
      rw [o1 _ (by omega) (by omega) (by omega) (by omega) (by omega) (by omega), o1 _ (by omega) (by omega) (by omega) (by omega) (by omega) (by omega), o1 _ (by omega) (by omega) (by omega) (by omega) (by omega) (by omega)]
      exact h5 u hu
end UNDO2
