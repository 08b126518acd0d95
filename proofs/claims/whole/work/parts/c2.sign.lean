/-! Signs, and the whole cut. -/
theorem si_at (M : Mem) (k i : Nat) (v : Int32) (k' i' : Nat) : (si M k i v).1 k' i' = if k' = k ∧ i' = i then v else M.1 k' i' := by
  rw [si_1]
  by_cases a : k' = k
  · rw [if_pos a, upd_get]
    by_cases b : i' = i
    · rw [if_pos b, if_pos ⟨a, b⟩]
    · rw [if_neg b, if_neg (fun e => b e.2), a]
  · rw [if_neg a, if_neg (fun e => a e.1)]
theorem ixc_mono : ∀ (m : Nat) (x3 x4 x5 r : Int32), f_j_indexOfChar_7 0 m x3 x4 x5 M0 = some r → ∀ (N m' : Nat) (M : Mem), m ≤ m' → f_j_indexOfChar_7 N m' x3 x4 x5 M = some r := by
  intro m
  induction m with
  | zero => intro x3 x4 x5 r h; cases h
  | succ m ih =>
    intro x3 x4 x5 r h N m' M hm
    obtain ⟨k, rfl⟩ : ∃ k, m' = k + 1 := ⟨m' - 1, by omega⟩
    rw [f_j_indexOfChar_7] at h ⊢
    split at h
    · rename_i q; rw [if_pos q]; exact h
    · rename_i q
      rw [if_neg q]
      split at h
      · rename_i q2
        rw [if_pos q2]
        split at h
        · rename_i q3; rw [if_pos q3]; exact h
        · rename_i q3
          rw [if_neg q3]
          exact ih _ _ _ _ h _ _ _ (by omega)
      · cases h
def ixr (b : Nat) : Int32 := if sgk b = 32 then -1 else nI (sgk b - 34)
theorem ix_all : ∀ b, b < 256 → f_j_indexOfChar_7 0 13 12 (Int32.toInt8 (Int32.toUInt32 (nI b) % 65536).toInt32).toInt32 0 M0 = some (ixr b) ∧ f_j_canEncode (Int32.toUInt32 (nI b) % 65536).toInt32 M0 = 1 ∧ (if (0 : Int32) ≤ ixr b then (34 : Int32) + ixr b else 32) = nI (sgk b) := by decide +kernel
theorem c_index (N : Nat) (hN : 4000 ≤ N) {b : Nat} (hb : b < 256) (M : Mem) : f_j_indexOf0_2 N (Int32.toUInt32 (nI b) % 65536).toInt32 M = some (ixr b) := by
  obtain ⟨i1, i2, i3⟩ := ix_all b hb
  have j := ixc_mono 13 _ _ _ _ i1 N N M (by omega)
  have l : f_j_length_2 M = 12 := by show ((12 : Int32) >>> (0 : Int32)) = 12; decide
  unfold f_j_indexOf0_2 f_j_indexOf1_2 f_j_indexOf2_4 f_j_indexOfChar
  rw [l, show f_k_max0 0 0 M = 0 from rfl, show f_k_min0 12 12 M = 12 from rfl, show f_j_canEncode (Int32.toUInt32 (nI b) % 65536).toInt32 M = 1 from i2, if_neg (show ¬ (1 : Int32) = 0 by decide), if_pos (show (0 : Int32) < 12 by decide), j]
  rfl
theorem sg_two : ∀ b, b < 256 → ((sgk b = 34 ↔ b = 60) ∧ (sgk b = 35 ↔ b = 62)) := by decide +kernel
section CUT
variable {M : Mem} {B : Nat → Nat} {n N : Nat}
theorem c_cutSign (h : LxC M B n) (hN : 4000 ≤ N) {s j : Nat} (hs : s < n) (hj : j ≤ 300) (h2 : M.1 100 2 = nI j) (hl : isLb (B s) = false) (hd : isDb (B s) = false) : f_a_cutSign N (nI s) M = some (nI (te B n s), adT M B n s j) := by
  have hn := h.1
  have hb := (h.2.2 s hs).1
  have ete : te B n s = if two B n s = true then s + 2 else s + 1 := by unfold te; rw [if_neg (by omega), if_neg (by rw [hl]; decide), if_neg (by rw [hd]; decide)]
  have ekd : kd B n s = if two B n s = true then (if B s = 60 then 46 else 47) else sgk (B s) := by unfold kd; rw [if_neg (by omega), if_neg (by rw [hl]; decide), if_neg (by rw [hd]; decide)]
  have enm : nm B n s = 0 := by unfold nm; rw [if_neg (by omega), if_neg (by rw [hl]; decide), if_neg (by rw [hd]; decide)]
  have ad : ∀ k, k ≤ 48 → kd B n s = k → f_a_add (nI k) (nI s) (0 : Int32) M = some (adT M B n s j) := fun k hk e => by
    have := c_add (M := M) (k := k) (s := s) (v := 0) (j := j) (by omega) (by omega) (by omega) hj h2
    unfold adT tkv
    rw [e, enm]
    exact this
  have sl := sgk_le (B s)
  obtain ⟨t1, t2⟩ := sg_two (B s) hb
  have h38 : (B s = 60 ∨ B s = 62) → f_a_cutSign_38 N (nI s) (nI (sgk (B s))) M = some (nI (te B n s), adT M B n s j) := by
    intro hB
    unfold f_a_cutSign_38
    rw [nI_1, h.byte (by omega), Option.bind_some]
    by_cases q : s + 1 < n ∧ B (s + 1) = 61
    · have tw : two B n s = true := by
        unfold two
        simp only [Bool.and_eq_true, Nat.blt_eq, Bool.or_eq_true, beq_iff_eq]
        exact ⟨hB, q.1, q.2⟩
      rw [tw, if_pos rfl] at ete ekd
      rw [if_pos q.1, if_pos (show nI (B (s + 1)) = (61 : Int32) by rw [q.2]; rfl), ete, show nI s + (2 : Int32) = nI (s + 2) from nI_add s 2]
      by_cases z : B s = 60
      · rw [if_pos z] at ekd
        rw [if_pos (show nI (sgk (B s)) = (34 : Int32) by rw [t1.mpr z]; rfl), show (46 : Int32) = nI 46 from rfl, ad 46 (by omega) ekd, Option.bind_some]
      · rw [if_neg z] at ekd
        rw [if_neg (show ¬ nI (sgk (B s)) = (34 : Int32) from fun e => z (t1.mp ((nI_eq (b := 34) (by omega) (by decide)).mp e))), show (47 : Int32) = nI 47 from rfl, ad 47 (by omega) ekd, Option.bind_some]
    · have tw : ¬ two B n s = true := by
        unfold two
        simp only [Bool.and_eq_true, Nat.blt_eq, Bool.or_eq_true, beq_iff_eq]
        exact fun e => q e.2
      rw [if_neg tw] at ete ekd
      have b0 := h.b256 (s + 1)
      rw [if_neg (show ¬ nI (if s + 1 < n then B (s + 1) else 0) = (61 : Int32) from fun e => by
        have e2 := (nI_eq (b := 61) (by omega) (by decide)).mp e
        by_cases z : s + 1 < n
        · rw [if_pos z] at e2; exact q ⟨z, e2⟩
        · rw [if_neg z] at e2; cases e2), ete, ad _ (by omega) ekd, Option.bind_some]
  have h25 : f_a_cutSign_25 N (nI s) (nI (sgk (B s))) M = some (nI (te B n s), adT M B n s j) := by
    unfold f_a_cutSign_25
    by_cases z : B s = 60
    · rw [if_pos (show nI (sgk (B s)) = (34 : Int32) by rw [t1.mpr z]; rfl)]
      exact h38 (Or.inl z)
    · rw [if_neg (show ¬ nI (sgk (B s)) = (34 : Int32) from fun e => z (t1.mp ((nI_eq (b := 34) (by omega) (by decide)).mp e)))]
      by_cases z2 : B s = 62
      · rw [if_pos (show nI (sgk (B s)) = (35 : Int32) by rw [t2.mpr z2]; rfl)]
        exact h38 (Or.inr z2)
      · rw [if_neg (show ¬ nI (sgk (B s)) = (35 : Int32) from fun e => z2 (t2.mp ((nI_eq (b := 35) (by omega) (by decide)).mp e)))]
        have tw : ¬ two B n s = true := by
          unfold two
          simp only [Bool.and_eq_true, Nat.blt_eq, Bool.or_eq_true, beq_iff_eq]
          intro e
          rcases e.1 with e | e
          · exact z e
          · exact z2 e
        rw [if_neg tw] at ete ekd
        rw [ad _ (by omega) ekd, Option.bind_some, ete, nI_1]
  unfold f_a_cutSign
  rw [h.byte (by omega), Option.bind_some, if_pos hs, c_index N hN hb M, Option.bind_some]
  have i3 := (ix_all (B s) hb).2.2
  by_cases z : (0 : Int32) ≤ ixr (B s)
  · rw [if_pos z] at i3 ⊢
    rw [i3]; exact h25
  · rw [if_neg z] at i3 ⊢
    rw [i3]; exact h25
/-- what the cut leaves -/
def Cut (M M' : Mem) (B : Nat → Nat) (n : Nat) (T : Nat) : Prop := T ≤ n ∧ stk B n T = n ∧ (∀ j, j < T → stk B n j < n) ∧ (∀ j, j ≤ T → M'.1 102 j = nI (tkv B n (stk B n j))) ∧ (∀ c i, ¬ (c = 100 ∧ i = 2) → c ≠ 102 → M'.1 c i = M.1 c i) ∧ M'.2 = M.2
theorem adT_same (M : Mem) (B : Nat → Nat) (n s j : Nat) {c i : Nat} (h1 : ¬ (c = 100 ∧ i = 2)) (h2 : c ≠ 102) : (adT M B n s j).1 c i = M.1 c i := by
  unfold adT
  rw [si_at, si_at, if_neg h1, if_neg (fun e => h2 e.1)]
theorem c_cut (h : LxC M B n) (hN : 4000 ≤ N) : ∃ M' T, f_a_cut N M = some M' ∧ Cut M M' B n T := by
  have hn := h.1
  have go : ∀ m a i j (M1 : Mem), a ≤ n → i ≤ a → j ≤ i → n < i + m → wsp B n a = stk B n j → (∀ k, k < j → stk B n k < n) → M1.1 100 2 = nI j → (∀ k, k < j → M1.1 102 k = nI (tkv B n (stk B n k))) → (∀ c i, ¬ (c = 100 ∧ i = 2) → c ≠ 102 → M1.1 c i = M.1 c i) → M1.2 = M.2 → ∃ M' T, f_a_cut_9 N m (nI a) (nI i) M1 = some M' ∧ Cut M M' B n T := by
    intro m
    induction m with
    | zero => intro a i j M1 h1 h2 h3 h4; omega
    | succ m ih =>
      intro a i j M1 h1 h2 h3 h4 h5 h6 h7 h8 h9 h10
      have hM1 : LxC M1 B n := ⟨hn, by rw [h9 100 3 (by decide) (by decide)]; exact h.2.1, fun k hk => ⟨(h.2.2 k hk).1, by rw [h9 101 k (by omega) (by decide)]; exact (h.2.2 k hk).2⟩⟩
      rw [f_a_cut_9, show gi M1 100 3 = nI n from hM1.2.1]
      by_cases q : a = n
      · have e5 : stk B n j = n := by
          rw [← h5, q]
          exact skp_ge (Nat.le_refl _)
        have kk : kd B n n = 48 := by unfold kd; rw [if_pos (Nat.le_refl _)]
        have mm : nm B n n = 0 := by unfold nm; rw [if_pos (Nat.le_refl _)]
        have ad : f_a_add (48 : Int32) (nI n) (0 : Int32) M1 = some (adT M1 B n n j) := by
          have := c_add (M := M1) (k := 48) (s := n) (v := 0) (j := j) (by omega) (by omega) (by omega) (by omega) h7
          unfold adT tkv
          rw [kk, mm]
          exact this
        refine ⟨adT M1 B n n j, j, ?_, ⟨by omega, e5, h6, ?_, ?_, ?_⟩⟩
        · rw [ad, if_pos (nI_le (by omega) (by omega))]
          split <;> rfl
        · intro k hk
          unfold adT
          rw [si_at, si_at, if_neg (show ¬ (102 = 100 ∧ k = 2) by omega)]
          by_cases e : k = j
          · rw [if_pos ⟨rfl, e⟩, e, e5]
          · rw [if_neg (fun x => e x.2)]
            exact h8 k (by omega)
        · intro c i h1 h2
          rw [adT_same M1 B n n j h1 h2]
          exact h9 c i h1 h2
        · exact h10
      · have lt : a < n := by omega
        have hb := (h.2.2 a lt).1
        obtain ⟨f1, f2, f3, f4, f5, f6⟩ := isL_all (B a) hb
        rw [if_neg (show ¬ (300 : Int32) ≤ nI i from nI_ge (b := 300) (by omega) (by decide)), if_neg (nI_ge lt (by omega)), hM1.byte (by omega), Option.bind_some, if_pos lt]
        have ws : isWb (B a) = true → ∃ M' T, f_a_cut_9 N m (nI a + 1) (nI i + 1) M1 = some M' ∧ Cut M M' B n T := by
          intro w
          rw [nI_1, nI_1]
          refine ih (a + 1) (i + 1) j M1 (by omega) (by omega) (by omega) (by omega) ?_ h6 h7 h8 h9 h10
          rw [← h5]
          unfold wsp
          rw [skp_lt (a := a) lt, if_pos w]
        by_cases w1 : B a = 32
        · rw [if_pos (f5.mpr w1)]
          exact ws (by rw [w1]; rfl)
        · rw [if_neg (fun e => w1 (f5.mp e))]
          by_cases w2 : B a = 10
          · rw [if_pos (f6.mpr w2)]
            exact ws (by rw [w2]; rfl)
          · rw [if_neg (fun e => w2 (f6.mp e))]
            have nw : isWb (B a) = false := by
              unfold isWb
              simp only [Bool.or_eq_false_iff, beq_eq_false_iff_ne]
              exact ⟨w1, w2⟩
            have ea : stk B n j = a := by
              rw [← h5]
              unfold wsp
              rw [skp_lt lt, if_neg (by rw [nw]; decide)]
            have tg := te_gt (B := B) lt
            have tn := te_n (B := B) h1
            have nxt : ∃ M' T, f_a_cut_9 N m (nI (te B n a)) (nI i + 1) (adT M1 B n a j) = some M' ∧ Cut M M' B n T := by
              rw [nI_1]
              refine ih (te B n a) (i + 1) (j + 1) (adT M1 B n a j) tn (by omega) (by omega) (by omega) ?_ ?_ ?_ ?_ ?_ ?_
              · show _ = wsp B n (te B n (stk B n j))
                rw [ea]
              · intro k hk
                by_cases e : k = j
                · rw [e, ea]; exact lt
                · exact h6 k (by omega)
              · unfold adT
                rw [si_at, if_pos ⟨rfl, rfl⟩]
              · intro k hk
                unfold adT
                rw [si_at, si_at, if_neg (show ¬ (102 = 100 ∧ k = 2) by omega)]
                by_cases e : k = j
                · rw [if_pos ⟨rfl, e⟩, e, ea]
                · rw [if_neg (fun x => e x.2)]
                  exact h8 k (by omega)
              · intro c i h1 h2
                rw [adT_same M1 B n a j h1 h2]
                exact h9 c i h1 h2
              · exact h10
            cases el : isLb (B a) with
            | true =>
              rw [if_neg (show ¬ f_a_isLetter (nI (B a)) M1 = 0 from fun e => by have := (c_isL hb M1).mp e; rw [el] at this; cases this), c_cutWord hM1 hN lt (by omega) h7 el, Option.bind_some]
              exact nxt
            | false =>
              rw [if_pos ((c_isL hb M1).mpr el)]
              cases ed : isDb (B a) with
              | true =>
                rw [if_neg (show ¬ f_a_isDigit (nI (B a)) M1 = 0 from fun e => by have := (c_isD hb M1).mp e; rw [ed] at this; cases this), c_cutNumber hM1 hN lt (by omega) h7 el ed, Option.bind_some]
                exact nxt
              | false =>
                rw [if_pos ((c_isD hb M1).mpr ed), c_cutSign hM1 hN lt (by omega) h7 el ed, Option.bind_some]
                exact nxt
  unfold f_a_cut
  rw [Option.bind_some]
  refine go N 0 0 0 (si M 100 2 0) (Nat.zero_le _) (Nat.le_refl _) (Nat.le_refl _) (by omega) rfl (fun k hk => by omega) ?_ (fun k hk => by omega) ?_ rfl
  · rw [si_at, if_pos ⟨rfl, rfl⟩]
    rfl
  · intro c i h1 h2
    rw [si_at, if_neg h1]
end CUT
