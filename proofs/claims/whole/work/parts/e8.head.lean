/-! The class reads the head of a case. -/
section HEAD
variable {B : Nat → Nat} {n u so T N : Nat} {x : Int32} {M : Mem} {j sz d r : Nat} {RO : Int32 → Mem → Option Mem}
theorem te_word {s k : Nat} (hk : k < 32) (h : kd B n s = k) : te B n s = s + wl k := by
  have h' := h
  unfold kd at h'
  split at h'
  · omega
  · rename_i ns
    split at h'
    · rename_i l
      have e : te B n s = skp (fun i => isLb (B i)) n s := by unfold te; rw [if_neg ns, if_pos l]
      have g := te_gt (B := B) (n := n) (s := s) (by omega)
      have hm := (Mt_pk hk (Nat.le_of_lt g) (fun i h1 h2 => skp_in (p := fun i => isLb (B i)) h1 (by rw [← e]; exact h2))).mpr ((wx_iff B s _ hk).mp h')
      have := hm.1
      omega
    · split at h'
      · omega
      · split at h'
        · split at h' <;> omega
        · have := sgk_le (B s)
          omega
theorem stk_w {k : Nat} (hk : k < 32) (h : kd B n (stk B n j) = k) : stk B n j + wl k ≤ stk B n (j + 1) := by
  have a := te_word hk h
  have b := skp_le (p := fun i => isWb (B i)) (n := n) (a := te B n (stk B n j))
  show _ ≤ wsp B n (te B n (stk B n j))
  unfold wsp
  omega
/-- a case behind its colon -/
def cs9 (N : Nat) (RO : Int32 → Mem → Option Mem) (x1 x2 x3 x4 : Int32) (M : Mem) : Option (Int32 × Mem) :=
  Option.bind (f_p_put (28 : Int32) x3 M) fun q9 =>
  Option.bind (f_p_put (54 : Int32) x4 q9) fun q10 =>
  Option.bind (f_p_put (55 : Int32) (0 : Int32) q10) fun q11 =>
  Option.bind (f_r_readSum N RO x1 q11) fun q12 =>
  Option.bind (f_p_put (51 : Int32) (x2 + (1 : Int32)) q12) fun q13 =>
  Option.bind (f_p_aim (gi q10 104 3) (gi q13 104 3) q13) fun q14 =>
  some ((gi q12 104 3), q14)
theorem c73 (y z a b : Int32) (M : Mem) : f_r_readCase_73 N RO y z a b M = Option.bind (f_r_expect (44 : Int32) M) fun q => cs9 N RO y z a b q := rfl
theorem Br.bh9 {f : Nat} {p : Int32} (h : Br M f p) (hN : 4000 ≤ N) (hR : RoB RO f p) (x1 x2 x3 x4 : Int32) : ∃ v M', cs9 N RO x1 x2 x3 x4 M = some (v, M') ∧ Br M' f p := by
  unfold cs9
  obtain ⟨M2, e2, b2⟩ := h.put 28 x3
  obtain ⟨M3, e3, b3⟩ := b2.put 54 x4
  obtain ⟨M4, e4, b4⟩ := b3.put 55 0
  obtain ⟨M5, e5, b5⟩ := b4.sum hN hR x1
  obtain ⟨M6, e6, b6⟩ := b5.put 51 (x2 + 1)
  obtain ⟨M7, e7, b7⟩ := b6.aim (gi M3 104 3) (gi M6 104 3)
  rw [e2, Option.bind_some, e3, Option.bind_some, e4, Option.bind_some, e5, Option.bind_some, e6, Option.bind_some, e7, Option.bind_some]
  exact ⟨_, M7, rfl, b7⟩
theorem rd_head (hN : 4000 ≤ N) (hT2 : ∀ j, kd B n (stk B n j) ≠ 48 → j < T) (hRB : ∀ f p, RoB RO f p) (h : He B n T M j sz) (hk : kd B n (stk B n j) = 28) (y z : Int32) : (∃ j2 lo hi M', HdOk B n j j2 lo hi ∧ f_r_readCase N RO y z M = cs9 N RO y z (nI lo) (nI hi) M' ∧ He B n T M' j2 sz ∧ CK M M' sz) ∨ (∃ f jf v M', 1 ≤ f ∧ f ≤ 7 ∧ HdFl B n j f jf ∧ f_r_readCase N RO y z M = some (v, M') ∧ Br M' f (nI (stk B n jf))) := by
  obtain ⟨a1, a2⟩ := h.adv (hT2 j (by omega))
  have c1 : CK M (adM B n M j) sz := CK.ad
  obtain ⟨n1, n2, n3⟩ := a2.num hT2 (a := 0) (b := 9999) (by omega) (by omega)
  have bad : ∀ (f jf : Nat) (v : Int32) (M' : Mem), HdFl B n j f jf → f_r_expectNumber (0 : Int32) (9999 : Int32) (adM B n M j) = some (v, M') → Br M' f (nI (stk B n jf)) → ∃ f jf v M', 1 ≤ f ∧ f ≤ 7 ∧ HdFl B n j f jf ∧ f_r_readCase N RO y z M = some (v, M') ∧ Br M' f (nI (stk B n jf)) := by
    intro f jf v M' q1 q2 q3
    obtain ⟨w, M2, e2, b2⟩ := q3.case73 hN (hRB _ _) y z v v
    refine ⟨f, jf, w, M2, q3.1, q3.2.1, q1, ?_, b2⟩
    unfold f_r_readCase
    rw [a1, Option.bind_some, q2, Option.bind_some]
    show (if gi M' 103 7 = (29 : Int32) then _ else f_r_readCase_73 N RO y z v v M') = _
    rw [q3.t49, if_neg (show ¬ (49 : Int32) = 29 by decide), e2]
  by_cases k1 : kd B n (stk B n (j + 1)) = 33
  · by_cases v1 : nm B n (stk B n (j + 1)) ≤ 9999
    · obtain ⟨e2, h2⟩ := n1 k1 (by omega) v1
      have e2' : f_r_expectNumber (0 : Int32) (9999 : Int32) (adM B n M j) = some (nI (nm B n (stk B n (j + 1))), adM B n (adM B n M j) (j + 1)) := e2
      have c2 : CK M (adM B n (adM B n M j) (j + 1)) sz := c1.tr (CK.ad (sz := sz)) (Nat.le_refl _)
      have X : f_r_readCase N RO y z M = (if gi (adM B n (adM B n M j) (j + 1)) 103 7 = (29 : Int32) then Option.bind (f_r_advance (adM B n (adM B n M j) (j + 1))) fun q3 => (if (gi q3 103 7) = (33 : Int32) then (if am_in (gi q3 103 6) 301 = true then (if nI (nm B n (stk B n (j + 1))) ≤ ((gi q3 102 ((gi q3 103 6)).toNatClampNeg) >>> (15 : Int32)) then Option.bind (f_r_expectNumber (0 : Int32) (9999 : Int32) q3) fun q4 => f_r_readCase_73 N RO y z (nI (nm B n (stk B n (j + 1)))) q4.1 q4.2 else Option.bind (f_r_fail (7 : Int32) q3) fun q5 => Option.bind (f_r_expectNumber (0 : Int32) (9999 : Int32) q5) fun q6 => f_r_readCase_73 N RO y z (nI (nm B n (stk B n (j + 1)))) q6.1 q6.2) else none) else Option.bind (f_r_expectNumber (0 : Int32) (9999 : Int32) q3) fun q7 => f_r_readCase_73 N RO y z (nI (nm B n (stk B n (j + 1)))) q7.1 q7.2) else f_r_readCase_73 N RO y z (nI (nm B n (stk B n (j + 1)))) (nI (nm B n (stk B n (j + 1)))) (adM B n (adM B n M j) (j + 1))) := by
        unfold f_r_readCase
        rw [a1, Option.bind_some, e2', Option.bind_some]
      have t29 := h2.is (k := 29) (by decide)
      by_cases k2 : kd B n (stk B n (j + 1 + 1)) = 29
      · obtain ⟨a3, h3⟩ := h2.adv (hT2 _ (by omega))
        have c3 : CK M (adM B n (adM B n (adM B n M j) (j + 1)) (j + 1 + 1)) sz := c2.tr (CK.ad (sz := sz)) (Nat.le_refl _)
        rw [if_pos (show gi (adM B n (adM B n M j) (j + 1)) 103 7 = (29 : Int32) from t29.mpr k2), a3, Option.bind_some] at X
        obtain ⟨m1, m2, m3⟩ := h3.num hT2 (a := 0) (b := 9999) (by omega) (by omega)
        have t33 := h3.is (k := 33) (by decide)
        have X2 := X
        by_cases k3 : kd B n (stk B n (j + 1 + 1 + 1)) = 33
        · have h3' := h3
          obtain ⟨g1, g2, g3, g4, g5, g6, g7, g8, g9⟩ := h3'
          have am : am_in (gi (adM B n (adM B n (adM B n M j) (j + 1)) (j + 1 + 1)) 103 6) 301 = true := by
            rw [show gi (adM B n (adM B n (adM B n M j) (j + 1)) (j + 1 + 1)) 103 6 = nI (j + 1 + 1 + 1) from g6]
            exact am_in_nI (by omega) (by decide)
          have nv : gi (adM B n (adM B n (adM B n M j) (j + 1)) (j + 1 + 1)) 102 (gi (adM B n (adM B n (adM B n M j) (j + 1)) (j + 1 + 1)) 103 6).toNatClampNeg >>> (15 : Int32) = nI (nm B n (stk B n (j + 1 + 1 + 1))) := by
            rw [show gi (adM B n (adM B n (adM B n M j) (j + 1)) (j + 1 + 1)) 103 6 = nI (j + 1 + 1 + 1) from g6, nI_clamp (by omega), show gi (adM B n (adM B n (adM B n M j) (j + 1)) (j + 1 + 1)) 102 (j + 1 + 1 + 1) = nI (tkv B n (stk B n (j + 1 + 1 + 1))) from g3 _ g4, tk_nm (h3.st _)]
          have nl := nm_le B n (stk B n (j + 1 + 1 + 1))
          rw [if_pos (show gi (adM B n (adM B n (adM B n M j) (j + 1)) (j + 1 + 1)) 103 7 = (33 : Int32) from t33.mpr k3), if_pos am, nv] at X
          by_cases o : nm B n (stk B n (j + 1)) ≤ nm B n (stk B n (j + 1 + 1 + 1))
          · rw [if_pos (nI_le o (by omega))] at X
            by_cases v3 : nm B n (stk B n (j + 1 + 1 + 1)) ≤ 9999
            · obtain ⟨e4, h4⟩ := m1 k3 (by omega) v3
              have e4' : f_r_expectNumber (0 : Int32) (9999 : Int32) (adM B n (adM B n (adM B n M j) (j + 1)) (j + 1 + 1)) = some (nI (nm B n (stk B n (j + 1 + 1 + 1))), adM B n (adM B n (adM B n (adM B n M j) (j + 1)) (j + 1 + 1)) (j + 1 + 1 + 1)) := e4
              rw [e4', Option.bind_some, c73] at X
              obtain ⟨x1, x2⟩ := h4.exp (k := 44) (by omega) hT2
              by_cases k4 : kd B n (stk B n (j + 1 + 1 + 1 + 1)) = 44
              · left
                obtain ⟨y1, y2⟩ := x1 k4
                rw [show (44 : Int32) = nI 44 from rfl, y1, Option.bind_some] at X
                exact ⟨j + 5, _, _, _, ⟨k1, v1, rfl, Or.inr ⟨k2, k3, v3, rfl, o, k4, rfl⟩⟩, X, y2, (c3.tr (CK.ad (sz := sz)) (Nat.le_refl _)).tr (CK.ad (sz := sz)) (Nat.le_refl _)⟩
              · right
                obtain ⟨M2, y1, y2⟩ := x2 k4
                obtain ⟨w, M3, z1, z2⟩ := y2.bh9 hN (hRB _ _) y z (nI (nm B n (stk B n (j + 1)))) (nI (nm B n (stk B n (j + 1 + 1 + 1))))
                rw [show (44 : Int32) = nI 44 from rfl, y1, Option.bind_some] at X
                exact ⟨1, j + 4, w, M3, by omega, by omega, Or.inr (Or.inr ⟨k1, v1, Or.inr ⟨k2, Or.inr (Or.inr (Or.inr ⟨k3, v3, o, k4, rfl, rfl⟩))⟩⟩), X.trans z1, z2⟩
            · right
              obtain ⟨M2, y1, y2⟩ := m2 k3 (Or.inr (by omega))
              have y1' : f_r_expectNumber (0 : Int32) (9999 : Int32) (adM B n (adM B n (adM B n M j) (j + 1)) (j + 1 + 1)) = some (0, M2) := y1
              obtain ⟨w, M3, z1, z2⟩ := y2.case73 hN (hRB _ _) y z (nI (nm B n (stk B n (j + 1)))) 0
              rw [y1', Option.bind_some] at X
              exact ⟨2, j + 3, w, M3, by omega, by omega, Or.inr (Or.inr ⟨k1, v1, Or.inr ⟨k2, Or.inr (Or.inl ⟨k3, Nat.lt_of_not_le v3, rfl, rfl⟩)⟩⟩), X.trans z1, z2⟩
          · right
            rw [if_neg (nI_ge (by omega) (by omega))] at X
            obtain ⟨M2, y1, y2⟩ := h3.fail (f := 7) (by omega) (by omega)
            have y1' : f_r_fail (7 : Int32) (adM B n (adM B n (adM B n M j) (j + 1)) (j + 1 + 1)) = some M2 := y1
            obtain ⟨M3, y3, y4⟩ := y2.num 0 9999
            obtain ⟨w, M4, z1, z2⟩ := y4.case73 hN (hRB _ _) y z (nI (nm B n (stk B n (j + 1)))) 0
            rw [y1', Option.bind_some, y3, Option.bind_some] at X
            exact ⟨7, j + 3, w, M4, by omega, by omega, Or.inr (Or.inr ⟨k1, v1, Or.inr ⟨k2, Or.inr (Or.inr (Or.inl ⟨k3, Nat.le_trans (Nat.le_of_lt (Nat.lt_of_not_le o)) v1, Nat.lt_of_not_le o, rfl, rfl⟩))⟩⟩), X.trans z1, z2⟩
        · right
          obtain ⟨M2, y1, y2⟩ := m3 k3
          have y1' : f_r_expectNumber (0 : Int32) (9999 : Int32) (adM B n (adM B n (adM B n M j) (j + 1)) (j + 1 + 1)) = some (0, M2) := y1
          obtain ⟨w, M3, z1, z2⟩ := y2.case73 hN (hRB _ _) y z (nI (nm B n (stk B n (j + 1)))) 0
          rw [if_neg (show ¬ gi (adM B n (adM B n (adM B n M j) (j + 1)) (j + 1 + 1)) 103 7 = (33 : Int32) from fun e => k3 (t33.mp e)), y1', Option.bind_some] at X
          exact ⟨1, j + 3, w, M3, by omega, by omega, Or.inr (Or.inr ⟨k1, v1, Or.inr ⟨k2, Or.inl ⟨k3, rfl, rfl⟩⟩⟩), X.trans z1, z2⟩
      · rw [if_neg (show ¬ gi (adM B n (adM B n M j) (j + 1)) 103 7 = (29 : Int32) from fun e => k2 (t29.mp e))] at X
        obtain ⟨x1, x2⟩ := h2.exp (k := 44) (by omega) hT2
        by_cases k4 : kd B n (stk B n (j + 1 + 1)) = 44
        · left
          obtain ⟨y1, y2⟩ := x1 k4
          rw [c73, show (44 : Int32) = nI 44 from rfl, y1, Option.bind_some] at X
          exact ⟨j + 3, _, _, _, ⟨k1, v1, rfl, Or.inl ⟨k4, rfl, rfl⟩⟩, X, y2, c2.tr (CK.ad (sz := sz)) (Nat.le_refl _)⟩
        · right
          obtain ⟨M2, y1, y2⟩ := x2 k4
          obtain ⟨w, M3, z1, z2⟩ := y2.bh9 hN (hRB _ _) y z (nI (nm B n (stk B n (j + 1)))) (nI (nm B n (stk B n (j + 1))))
          rw [c73, show (44 : Int32) = nI 44 from rfl, y1, Option.bind_some] at X
          exact ⟨1, j + 2, w, M3, by omega, by omega, Or.inr (Or.inr ⟨k1, v1, Or.inl ⟨k2, k4, rfl, rfl⟩⟩), X.trans z1, z2⟩
    · obtain ⟨M2, y1, y2⟩ := n2 k1 (Or.inr (by omega))
      exact Or.inr (bad 2 (j + 1) 0 M2 (Or.inr (Or.inl ⟨k1, Nat.lt_of_not_le v1, rfl, rfl⟩)) y1 y2)
  · obtain ⟨M2, y1, y2⟩ := n3 k1
    exact Or.inr (bad 1 (j + 1) 0 M2 (Or.inl ⟨k1, rfl, rfl⟩) y1 y2)
end HEAD
