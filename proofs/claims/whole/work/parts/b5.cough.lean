/-! What it is worth to know how he coughs. -/
def mxf (f : Nat → Nat) : Nat → Nat
  | 0 => 0
  | t + 1 => max (mxf f t) (f t)
theorem mxf_le {f : Nat → Nat} {B : Nat} : ∀ {m : Nat}, (∀ t, t < m → f t ≤ B) → mxf f m ≤ B
  | 0, _ => Nat.zero_le _
  | m + 1, h => by
    have h1 := mxf_le (f := f) (B := B) (m := m) (fun t ht => h t (by omega))
    have h2 := h m (by omega)
    show max _ _ ≤ B
    omega
theorem le_mxf {f : Nat → Nat} : ∀ {m t : Nat}, t < m → f t ≤ mxf f m
  | 0, t, h => by omega
  | m + 1, t, h => by
    show f t ≤ max (mxf f m) (f m)
    by_cases e : t = m
    · rw [e]; omega
    · have := le_mxf (f := f) (m := m) (t := t) (by omega)
      omega
theorem mxf_bm {Q : Nat → Nat} {m : Nat} (hm : 1 ≤ m) : mxf (fun t => Q (2 ^ t)) m = Q (2 ^ bm Q m) := by
  apply Nat.le_antisymm
  · exact mxf_le (fun t ht => bm_max Q ht)
  · exact le_mxf (f := fun t => Q (2 ^ t)) (bm_ltm Q hm)
theorem kmax {a b : Nat} (ha : a < 2 ^ 63) (hb : b < 2 ^ 63) (M : Mem) : f_k_max1 (lN a) (lN b) M = lN (max a b) := by
  unfold f_k_max1
  by_cases q : a < b
  · rw [if_pos ((lclt ha hb).mpr q), Nat.max_eq_right (by omega)]
  · rw [if_neg (fun e => q ((lclt ha hb).mp e)), Nat.max_eq_left (by omega)]
section COUGH
variable {N : Nat}
theorem o_43 (hN : 4000 ≤ N) : O_43 (Inv LX) (Inv LX) N := by
  intro M a b x y hM _hy
  obtain ⟨c, nt, mo, dr, gn, sp, lm, lw, lk, lf, bh, bd, d, fa, H, eH, hH, hc, h, h1, hC, hold, h46, hI⟩ := ch_ctx hN hM
  unfold f_w_cough
  rcases tocome h a b 0 with ⟨e1, e2⟩ | ⟨g, m, l, hg, m1, m6, -, rfl, rfl, el, n1, n2⟩
  · exact ⟨-1, M, M, by rw [if_pos e1], by unfold f_m_cough; rw [if_pos e2], hM⟩
  rw [← el] at n1 n2
  by_cases q : f_w_within x 0 10 M = 0
  · exact ⟨-1, M, M, by rw [if_neg n1, if_pos q], by unfold f_m_cough; rw [if_neg n2, isIn_eq x _ _ M M, if_pos q], hM⟩
  rw [if_neg n1, if_neg q, hold, Option.bind_some]
  obtain ⟨k, k1, rfl⟩ := within_n (n := 10) (by decide) q
  unfold f_c_startWith
  generalize hM1 : si M 46 2 (nI H) = M1 at h1 hC h46 hI
  have hg8 : g < 8 := by omega
  have h100 := h6 m6
  have hp0 : 0 < 100 ^ m := Nat.pow_pos (by decide)
  have n2' : ¬ f_m_isToCome (nI g) (nI m) 0 M1 = 0 := by rw [← hM1]; exact n2
  have q' : ¬ f_m_isIn (nI k) 0 10 M1 = 0 := q
  have e84 : (8400 : Int64) * lN (100 ^ m) = lN (8400 * 100 ^ m) := lN_mul 8400 (100 ^ m)
  have e10 : (10 : Int32) - nI k = nI (10 - k) := nI_sub (a := 10) k1
  rw [Option.bind_some, Option.bind_some]
  have cB0 := c_best (l := 0) hN hC hH h46 hg8 m1 m6 (by omega)
  have cB1 := c_best (l := 1) hN hC hH h46 hg8 m1 m6 (by omega)
  have cQ0 : ∀ S, S < 256 → f_c_part N (nI g) (nI m) (nI 0) (nI S) M1 = some (lN (gt (d 0) fa H g S m)) := fun S hS => c_part hN hC hH h46 hg8 m6 (by omega) hS
  have cQ1 : ∀ S, S < 256 → f_c_part N (nI g) (nI m) (nI 1) (nI S) M1 = some (lN (gt (d 1) fa H g S m)) := fun S hS => c_part hN hC hH h46 hg8 m6 (by omega) hS
  have rQ0 : ∀ S M', S < 256 → Hm M1 M' → f_m_oddsBy N (nI g) (nI m) (nI 0) (nI S) M' = some (lN (gt (d 0) fa H g S m), hm M1 (hd lf lw mo sp)) := fun S M' hS hH' => by
    rw [eH]
    exact r_oddsBy hN h1 hC hH' hg8 m6 (by omega) hS
  have rQ1 : ∀ S M', S < 256 → Hm M1 M' → f_m_oddsBy N (nI g) (nI m) (nI 1) (nI S) M' = some (lN (gt (d 1) fa H g S m), hm M1 (hd lf lw mo sp)) := fun S M' hS hH' => by
    rw [eH]
    exact r_oddsBy hN h1 hC hH' hg8 m6 (by omega) hS
  have bl0 : ∀ S, gt (d 0) fa H g S m ≤ 840000000000000 := fun S => gt_lt m6 (ch_d hC m6 (by omega))
  have bl1 : ∀ S, gt (d 1) fa H g S m ≤ 840000000000000 := fun S => gt_lt m6 (ch_d hC m6 (by omega))
  generalize hQ0 : (fun S => gt (d 0) fa H g S m) = Q0 at cB0
  generalize hQ1 : (fun S => gt (d 1) fa H g S m) = Q1 at cB1
  have Qe0 : ∀ S, gt (d 0) fa H g S m = Q0 S := fun S => by rw [← hQ0]
  have Qe1 : ∀ S, gt (d 1) fa H g S m = Q1 S := fun S => by rw [← hQ1]
  simp only [Qe0, Qe1] at cQ0 cQ1 rQ0 rQ1 bl0 bl1
  have mulb : ∀ {z u : Nat}, z ≤ 840000000000000 → u ≤ 840000000000000 → k * z + (10 - k) * u ≤ 8400000000000000 := by
    intro z u hz hu
    have a1 : k * z ≤ k * 840000000000000 := Nat.mul_le_mul_left _ hz
    have a2 : (10 - k) * u ≤ (10 - k) * 840000000000000 := Nat.mul_le_mul_left _ hu
    omega
  let F : Nat → Nat := fun t => k * Q0 (2 ^ t) + (10 - k) * Q1 (2 ^ t)
  have Fb : ∀ t, F t ≤ 8400000000000000 := fun t => mulb (bl0 _) (bl1 _)
  have mFb : ∀ t, mxf F t ≤ 8400000000000000 := fun t => mxf_le (fun s _ => Fb s)
  have eF : ∀ z u : Nat, Int32.toInt64 (nI k) * lN z + Int32.toInt64 ((10 : Int32) - nI k) * lN u = lN (k * z + (10 - k) * u) := by
    intro z u
    rw [e10, nI_l (by omega), nI_l (by omega), lN_mul, lN_mul, lN_add]
  have hb0 := bm_ltm Q0 m1
  have hb1 := bm_ltm Q1 m1
  obtain ⟨K, hK⟩ : ∃ K, k * Q0 (2 ^ bm Q0 m) + (10 - k) * Q1 (2 ^ bm Q1 m) = K := ⟨_, rfl⟩
  have Kb : K ≤ 8400000000000000 := by rw [← hK]; exact mulb (bl0 _) (bl1 _)
  have cE : f_c_worthOfKnowing N (nI g) (nI m) (nI k) M1 = some (lN K - lN (mxf F m)) := by
    unfold f_c_worthOfKnowing
    refine run_loop (fun n a i => f_c_worthOfKnowing_6 N n (nI g) (nI m) (nI k) a i M1) (fun i => lN (mxf F i)) _ m (fun n => ?_) (fun n i hi => ?_) N 0 (by omega) (by omega)
    · show f_c_worthOfKnowing_6 N (n + 1) _ _ _ _ (nI m) M1 = _
      have cB0' : f_c_bestMoment N (nI g) (nI m) (0 : Int32) M1 = some (nI (bm Q0 m)) := cB0
      have cB1' : f_c_bestMoment N (nI g) (nI m) (1 : Int32) M1 = some (nI (bm Q1 m)) := cB1
      have p0 : f_c_part N (nI g) (nI m) (0 : Int32) (nI (2 ^ bm Q0 m)) M1 = some (lN (Q0 (2 ^ bm Q0 m))) := cQ0 _ (p2m (by omega))
      have p1 : f_c_part N (nI g) (nI m) (1 : Int32) (nI (2 ^ bm Q1 m)) M1 = some (lN (Q1 (2 ^ bm Q1 m))) := cQ1 _ (p2m (by omega))
      rw [f_c_worthOfKnowing_6, if_pos (nI_le (Nat.le_refl _) (by omega)), cB0', Option.bind_some, one_shl (by omega), p0, Option.bind_some, cB1', Option.bind_some, one_shl (by omega), p1, Option.bind_some, eF, hK]
    · show f_c_worthOfKnowing_6 N (n + 1) _ _ _ (lN (mxf F i)) (nI i) M1 = f_c_worthOfKnowing_6 N n _ _ _ (lN (max (mxf F i) (F i))) (nI (i + 1)) M1
      have p0 : f_c_part N (nI g) (nI m) (0 : Int32) (nI (2 ^ i)) M1 = some (lN (Q0 (2 ^ i))) := cQ0 _ (p2m (by omega))
      have p1 : f_c_part N (nI g) (nI m) (1 : Int32) (nI (2 ^ i)) M1 = some (lN (Q1 (2 ^ i))) := cQ1 _ (p2m (by omega))
      have f1 := Fb i
      have f2 := mFb i
      rw [f_c_worthOfKnowing_6, if_neg (nI_ge hi (by omega)), one_shl (by omega), p0, Option.bind_some, p1, Option.bind_some, eF, nI_1, kmax (by omega) (show F i < 2 ^ 63 by omega)]
  have mF := mFb m
  have ls := lsub (a := K) (b := mxf F m) (by omega) (by omega)
  obtain ⟨v, hv⟩ := low_all (x0 := lN K - lN (mxf F m)) (x4 := y) (b := 8400 * 100 ^ m) hN (by omega) (by omega) (by omega) (by omega)
  have M0b : ∀ t, mxf (fun t => Q0 (2 ^ t)) t ≤ 840000000000000 := fun t => mxf_le (fun s _ => bl0 _)
  have M1b : ∀ t, mxf (fun t => Q1 (2 ^ t)) t ≤ 840000000000000 := fun t => mxf_le (fun s _ => bl1 _)
  have go : ∀ n i M', Hm M1 M' → i ≤ m → m < i + n → ∃ M2, f_m_cough_36 N n (nI g) (nI m) (nI k) y (lN (mxf F i)) (lN (mxf (fun t => Q0 (2 ^ t)) i)) (lN (mxf (fun t => Q1 (2 ^ t)) i)) (nI i) M' = some (v, M2) ∧ Hm M1 M2 := by
    intro n
    induction n with
    | zero => intro i M' _ a b; omega
    | succ n ih =>
      intro i M' hH' a b
      rw [f_m_cough_36]
      by_cases e : i = m
      · subst e
        rw [if_pos (nI_le (Nat.le_refl _) (by omega)), r_hun hN (by omega), Option.bind_some, eF, mxf_bm m1, mxf_bm m1, hK, e84, (hv M').2, Option.bind_some]
        exact ⟨M', rfl, hH'⟩
      · have p0 : ∀ M', Hm M1 M' → f_m_oddsBy N (nI g) (nI m) (0 : Int32) (nI (2 ^ i)) M' = some (lN (Q0 (2 ^ i)), hm M1 (hd lf lw mo sp)) := fun M' hh => rQ0 _ M' (p2m (by omega)) hh
        have p1 : ∀ M', Hm M1 M' → f_m_oddsBy N (nI g) (nI m) (1 : Int32) (nI (2 ^ i)) M' = some (lN (Q1 (2 ^ i)), hm M1 (hd lf lw mo sp)) := fun M' hh => rQ1 _ M' (p2m (by omega)) hh
        rw [if_neg (nI_ge (by omega) (by omega)), one_shl (by omega), p0 _ hH', Option.bind_some, p1 _ (Or.inr ⟨_, rfl⟩), Option.bind_some]
        have nx := ih (i + 1) (hm M1 (hd lf lw mo sp)) (Or.inr ⟨_, rfl⟩) (by omega) (by omega)
        have f1 := Fb i
        have f2 := mFb i
        have g0 := M0b i
        have g1 := M1b i
        have q0 := bl0 (2 ^ i)
        have q1 := bl1 (2 ^ i)
        have k100 : ∀ x7 s0 : Nat, f_m_cough_100 N (f_m_cough_36 N n) (nI g) (nI m) (nI k) y (lN (mxf F i)) (lN x7) (nI i) (lN (Q0 (2 ^ i))) (lN (Q1 (2 ^ i))) (lN s0) (hm M1 (hd lf lw mo sp)) = f_m_cough_36 N n (nI g) (nI m) (nI k) y (lN (mxf F (i + 1))) (lN x7) (lN s0) (nI (i + 1)) (hm M1 (hd lf lw mo sp)) := by
          intro x7 s0
          unfold f_m_cough_100
          rw [eF, nI_1]
          show (if lg_cmp (lN (F i)) (lN (mxf F i)) ≤ 0 then f_m_cough_36 N n _ _ _ _ (lN (mxf F i)) _ _ _ _ else f_m_cough_36 N n _ _ _ _ (lN (F i)) _ _ _ _) = f_m_cough_36 N n _ _ _ _ (lN (max (mxf F i) (F i))) _ _ _ _
          by_cases z : F i ≤ mxf F i
          · rw [if_pos ((lcle (by omega) (by omega)).mpr z), Nat.max_eq_left z]
          · rw [if_neg (fun e => z ((lcle (by omega) (by omega)).mp e)), Nat.max_eq_right (by omega)]
        have e0 : mxf (fun t => Q0 (2 ^ t)) (i + 1) = max (mxf (fun t => Q0 (2 ^ t)) i) (Q0 (2 ^ i)) := rfl
        have e1 : mxf (fun t => Q1 (2 ^ t)) (i + 1) = max (mxf (fun t => Q1 (2 ^ t)) i) (Q1 (2 ^ i)) := rfl
        by_cases z0 : Q0 (2 ^ i) ≤ mxf (fun t => Q0 (2 ^ t)) i
        · rw [Nat.max_eq_left z0] at e0
          rw [if_pos ((lcle (by omega) (by omega)).mpr z0)]
          by_cases z1 : Q1 (2 ^ i) ≤ mxf (fun t => Q1 (2 ^ t)) i
          · rw [Nat.max_eq_left z1] at e1
            rw [if_pos ((lcle (by omega) (by omega)).mpr z1), k100, ← e0, ← e1]
            exact nx
          · rw [Nat.max_eq_right (by omega)] at e1
            rw [if_neg (fun e => z1 ((lcle (by omega) (by omega)).mp e)), k100, ← e0, ← e1]
            exact nx
        · rw [Nat.max_eq_right (by omega)] at e0
          rw [if_neg (fun e => z0 ((lcle (by omega) (by omega)).mp e))]
          by_cases z1 : Q1 (2 ^ i) ≤ mxf (fun t => Q1 (2 ^ t)) i
          · rw [Nat.max_eq_left z1] at e1
            rw [if_pos ((lcle (by omega) (by omega)).mpr z1), k100, ← e0, ← e1]
            exact nx
          · rw [Nat.max_eq_right (by omega)] at e1
            rw [if_neg (fun e => z1 ((lcle (by omega) (by omega)).mp e)), k100, ← e0, ← e1]
            exact nx
  obtain ⟨M2, s1, s2⟩ := go N 0 M1 (Or.inl rfl) (by omega) (by omega)
  refine ⟨v, M1, M2, ?_, ?_, s2.inv LX_ok hI⟩
  · rw [cE, Option.bind_some, c_hun hN (by omega), Option.bind_some, e84, (hv M1).1, Option.bind_some]
  · unfold f_m_cough
    rw [if_neg n2', if_neg q']
    exact s1
end COUGH
