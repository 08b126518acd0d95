/-! When to speak, which words, how few, what it is worth to know. -/
def bm (Q : Nat → Nat) : Nat → Nat
  | 0 => 0
  | t + 1 => if Q (2 ^ t) ≤ Q (2 ^ bm Q t) then bm Q t else t
theorem bm_lt (Q : Nat → Nat) : ∀ t, bm Q t ≤ t
  | 0 => Nat.le_refl _
  | t + 1 => by
    have := bm_lt Q t
    show (if _ then bm Q t else t) ≤ t + 1
    split <;> omega
theorem bm_ltm (Q : Nat → Nat) : ∀ {m : Nat}, 1 ≤ m → bm Q m < m
  | 0, h => by omega
  | t + 1, _ => by
    have := bm_lt Q t
    show (if _ then bm Q t else t) < t + 1
    split <;> omega
theorem bm_max (Q : Nat → Nat) : ∀ {m t : Nat}, t < m → Q (2 ^ t) ≤ Q (2 ^ bm Q m)
  | 0, t, h => by omega
  | m + 1, t, h => by
    show _ ≤ Q (2 ^ (if Q (2 ^ m) ≤ Q (2 ^ bm Q m) then bm Q m else m))
    by_cases e : Q (2 ^ m) ≤ Q (2 ^ bm Q m)
    · rw [if_pos e]
      by_cases q : t = m
      · rw [q]; exact e
      · exact bm_max Q (by omega)
    · rw [if_neg e]
      by_cases q : t = m
      · rw [q]; exact Nat.le_refl _
      · exact Nat.le_trans (bm_max Q (show t < m by omega)) (by omega)
def bb (Q : Nat → Nat) (w : Nat) : Nat → Nat
  | 0 => 0
  | s + 1 => if pc s ≤ w then (if Q (bb Q w s) < Q s then s else if Q s = Q (bb Q w s) then (if pc (bb Q w s) ≤ pc s then bb Q w s else s) else bb Q w s) else bb Q w s
theorem bb_lt (Q : Nat → Nat) (w : Nat) : ∀ s, bb Q w s ≤ s
  | 0 => Nat.le_refl _
  | s + 1 => by
    have := bb_lt Q w s
    show (if pc s ≤ w then (if Q (bb Q w s) < Q s then s else if Q s = Q (bb Q w s) then (if pc (bb Q w s) ≤ pc s then bb Q w s else s) else bb Q w s) else bb Q w s) ≤ s + 1
    split
    · split
      · omega
      · split
        · split <;> omega
        · omega
    · omega
theorem bb_ltm (Q : Nat → Nat) (w : Nat) : ∀ {s : Nat}, 1 ≤ s → bb Q w s < s
  | 0, h => by omega
  | s + 1, _ => by
    have := bb_lt Q w s
    show (if pc s ≤ w then (if Q (bb Q w s) < Q s then s else if Q s = Q (bb Q w s) then (if pc (bb Q w s) ≤ pc s then bb Q w s else s) else bb Q w s) else bb Q w s) < s + 1
    split
    · split
      · omega
      · split
        · split <;> omega
        · omega
    · omega
theorem pc_0 : pc 0 = 0 := by decide
theorem bb_pc (Q : Nat → Nat) (w : Nat) : ∀ s, pc (bb Q w s) ≤ w
  | 0 => by show pc 0 ≤ w; rw [pc_0]; omega
  | s + 1 => by
    have := bb_pc Q w s
    show pc (if pc s ≤ w then (if Q (bb Q w s) < Q s then s else if Q s = Q (bb Q w s) then (if pc (bb Q w s) ≤ pc s then bb Q w s else s) else bb Q w s) else bb Q w s) ≤ w
    split
    · rename_i e
      split
      · exact e
      · split
        · split
          · exact this
          · exact e
        · exact this
    · exact this
theorem bb_max (Q : Nat → Nat) (w : Nat) : ∀ {s u : Nat}, u < s → pc u ≤ w → Q u ≤ Q (bb Q w s)
  | 0, u, h, _ => by omega
  | s + 1, u, h, hp => by
    have ih : ∀ u, u < s → pc u ≤ w → Q u ≤ Q (bb Q w s) := fun u hu hp => bb_max Q w hu hp
    show Q u ≤ Q (if pc s ≤ w then (if Q (bb Q w s) < Q s then s else if Q s = Q (bb Q w s) then (if pc (bb Q w s) ≤ pc s then bb Q w s else s) else bb Q w s) else bb Q w s)
    by_cases e : u = s
    · subst e
      rw [if_pos hp]
      split
      · exact Nat.le_refl _
      · split
        · rename_i e2
          split
          · omega
          · exact Nat.le_refl _
        · omega
    · have := ih u (by omega) hp
      split
      · split
        · omega
        · split
          · rename_i e2
            split
            · exact this
            · omega
          · exact this
      · exact this
theorem lcle {a b : Nat} (ha : a < 2 ^ 63) (hb : b < 2 ^ 63) : (lg_cmp (lN a) (lN b) ≤ 0) ↔ a ≤ b := by rw [lg_cmp_le, pk_lLE ha hb]
theorem lclt {a b : Nat} (ha : a < 2 ^ 63) (hb : b < 2 ^ 63) : (lg_cmp (lN a) (lN b) < 0) ↔ a < b := by rw [lg_cmp_lt, pk_lLT ha hb]
theorem lcgt {a b : Nat} (ha : a < 2 ^ 63) (hb : b < 2 ^ 63) : (0 < lg_cmp (lN a) (lN b)) ↔ b < a := by rw [lg_cmp_gt, pk_lLT hb ha]
theorem lceq {a b : Nat} (ha : a < 2 ^ 63) (hb : b < 2 ^ 63) : (lg_cmp (lN a) (lN b) = 0) ↔ a = b := by rw [lg_cmp_eq, pk_lEQ ha hb]
theorem lsub {a b : Nat} (ha : a < 2 ^ 62) (hb : b < 2 ^ 62) : (lN a - lN b).toInt = (a : Int) - b := by
  rw [Int64.toInt_sub, pk_lT (by omega), pk_lT (by omega)]
  apply Int.bmod_eq_of_le <;> omega
section WORDS
variable {Mc Mr : Mem} {c nt mo dr gn sp : Nat} {lm lw lk lf bh bd : Nat → Nat} {d : Nat → Nat → Nat} {fa : Nat → Nat} {N H g m l : Nat}
theorem ch_d (hC : Ch Mc Mr d fa) (hm : m ≤ 6) (hl : l < 2) : ∀ t, t < m → d l t ≤ 100 := fun t ht => ((hC t (by omega)).1 l hl).1
theorem p2m {t : Nat} (ht : t < 6) : 2 ^ t < 256 := p2_lt (by omega)
theorem c_best (hN : 4000 ≤ N) (hC : Ch Mc Mr d fa) (hH : H < 256) (h46 : Mc.1 46 2 = nI H) (hg : g < 8) (hm1 : 1 ≤ m) (hm : m ≤ 6) (hl : l < 2) : f_c_bestMoment N (nI g) (nI m) (nI l) Mc = some (nI (bm (fun S => gt (d l) fa H g S m) m)) := by
  unfold f_c_bestMoment
  have t := run_loop (fun n a i => f_c_bestMoment_6 N n (nI g) (nI m) (nI l) a i Mc) (fun i => nI (bm (fun S => gt (d l) fa H g S m) i)) (some (nI (bm (fun S => gt (d l) fa H g S m) m))) m (fun n => ?_) (fun n i hi => ?_) N 1 hm1 (by omega)
  · have e1 : bm (fun S => gt (d l) fa H g S m) 1 = 0 := by
      show (if _ ≤ _ then 0 else 0) = 0
      split <;> rfl
    have t2 : f_c_bestMoment_6 N N (nI g) (nI m) (nI l) (nI (bm (fun S => gt (d l) fa H g S m) 1)) (nI 1) Mc = _ := t
    rw [e1] at t2
    exact t2
  · show f_c_bestMoment_6 N (n + 1) _ _ _ _ (nI m) Mc = _
    rw [f_c_bestMoment_6, if_pos (nI_le (Nat.le_refl _) (by omega))]
  · show f_c_bestMoment_6 N (n + 1) _ _ _ (nI (bm (fun S => gt (d l) fa H g S m) i)) (nI i) Mc = f_c_bestMoment_6 N n _ _ _ (nI (if gt (d l) fa H g (2 ^ i) m ≤ gt (d l) fa H g (2 ^ bm (fun S => gt (d l) fa H g S m) i) m then bm (fun S => gt (d l) fa H g S m) i else i)) (nI (i + 1)) Mc
    have hb := bm_lt (fun S => gt (d l) fa H g S m) i
    have b1 := gt_lt (fa := fa) (H := H) (g := g) (S := 2 ^ i) hm (ch_d hC hm hl)
    have b2 := gt_lt (fa := fa) (H := H) (g := g) (S := 2 ^ bm (fun S => gt (d l) fa H g S m) i) hm (ch_d hC hm hl)
    rw [f_c_bestMoment_6, if_neg (nI_ge hi (by omega)), one_shl (by omega), one_shl (by omega), c_part hN hC hH h46 hg hm hl (p2m (by omega)), Option.bind_some, c_part hN hC hH h46 hg hm hl (p2m (by omega)), Option.bind_some, nI_1]
    by_cases q : gt (d l) fa H g (2 ^ i) m ≤ gt (d l) fa H g (2 ^ bm (fun S => gt (d l) fa H g S m) i) m
    · rw [if_pos ((lcle (by omega) (by omega)).mpr q), if_pos q]
    · rw [if_neg (fun e => q ((lcle (by omega) (by omega)).mp e)), if_neg q]
theorem tocome (h : Cx Mc Mr c nt mo dr gn sp lm lw lk lf bh bd) (x y z : Int32) : (f_w_isToCome x y z Mc = 0 ∧ f_m_isToCome x y z Mr = 0) ∨ ∃ g m l, g < c ∧ 1 ≤ m ∧ m ≤ 6 ∧ l < 2 ∧ x = nI g ∧ y = nI m ∧ z = nI l ∧ ¬ f_w_isToCome (nI g) (nI m) (nI l) Mc = 0 ∧ ¬ f_m_isToCome (nI g) (nI m) (nI l) Mr = 0 := by
  unfold f_w_isToCome f_m_isToCome
  rw [isIn_eq y _ _ Mr Mc, isIn_eq z _ _ Mr Mc]
  rcases h.gcase x with ⟨e1, e2⟩ | ⟨g, hg, rfl, n1, n2⟩
  · exact Or.inl ⟨by rw [if_pos e1], by rw [if_pos e2]⟩
  by_cases q1 : f_w_within y 1 6 Mc = 0
  · exact Or.inl ⟨by rw [if_neg n1, if_pos q1], by rw [if_neg n2, if_pos q1]⟩
  by_cases q2 : f_w_within z 0 1 Mc = 0
  · exact Or.inl ⟨by rw [if_neg n1, if_neg q1, if_pos q2], by rw [if_neg n2, if_neg q1, if_pos q2]⟩
  obtain ⟨m, m1, m2, rfl⟩ := within_1 (n := 6) (by decide) q1
  obtain ⟨l, hl, rfl⟩ := within_n (n := 1) (by decide) q2
  refine Or.inr ⟨g, m, l, hg, m1, m2, by omega, rfl, rfl, rfl, ?_, ?_⟩
  · rw [if_neg n1, if_neg q1, if_neg q2]
    decide
  · rw [if_neg n2, isIn_eq _ _ _ Mr Mc, if_neg q1, isIn_eq _ _ _ Mr Mc, if_neg q2]
    decide
end WORDS
/-- the frame of these calls: the class sets who holds at first -/
theorem chance_run {M : Mem} (hM : Inv LX M) {H : Nat} : Inv LX (si M 46 2 (nI H)) := hM.fr (W := [46]) LX_ok (fun k hk => ⟨by rw [si_1, if_neg (by simpa using hk)], rfl⟩) (by decide +kernel) ⟨rfl, rfl, rfl⟩
section CALLS
variable {N : Nat}
theorem ch_ctx (hN : 4000 ≤ N) {M : Mem} (hM : Inv LX M) : ∃ (c nt mo dr gn sp : Nat) (lm lw lk lf bh bd : Nat → Nat) (d : Nat → Nat → Nat) (fa : Nat → Nat) (H : Nat), H = (hd lf lw mo sp).2 ∧ H < 256 ∧ c ≤ 8 ∧ Cx M M c nt mo dr gn sp lm lw lk lf bh bd ∧ Cx (si M 46 2 (nI H)) (si M 46 2 (nI H)) c nt mo dr gn sp lm lw lk lf bh bd ∧ Ch (si M 46 2 (nI H)) (si M 46 2 (nI H)) d fa ∧ f_e_holdNow N M = some (nI H) ∧ (si M 46 2 (nI H)).1 46 2 = nI H ∧ Inv LX (si M 46 2 (nI H)) := by
  obtain ⟨c, t, S, -⟩ := hM.stp
  obtain ⟨nt, mo, dr, gn, sp, lm, lw, lk, lf, bh, bd, h⟩ := S.cx
  obtain ⟨d, fa, hC⟩ := S.ch
  refine ⟨c, nt, mo, dr, gn, sp, lm, lw, lk, lf, bh, bd, d, fa, (hd lf lw mo sp).2, rfl, (h.hdok mo).2, h.c8, h, (h.toc (M1 := si M 46 2 (nI (hd lf lw mo sp).2)) rfl rfl).to rfl, hC.to (fun k a b => by rw [si_1, if_neg (by omega)]) rfl, ?_, rfl, chance_run hM⟩
  unfold f_e_holdNow
  rw [h.csm hN, Option.bind_some, hold_sv (h.hdok _)]
theorem within_2 {x : Int32} {M : Mem} (h : ¬ f_w_within x 0 2 M = 0) : x = 0 ∨ x = 1 ∨ x = 2 := by
  obtain ⟨j, hj, rfl⟩ := within_n (n := 2) (by decide) h
  rcases (show j = 0 ∨ j = 1 ∨ j = 2 by omega) with rfl | rfl | rfl
  · exact Or.inl rfl
  · exact Or.inr (Or.inl rfl)
  · exact Or.inr (Or.inr rfl)
theorem o_39 (hN : 4000 ≤ N) : O_39 (Inv LX) (Inv LX) N := by
  intro M a b y w hM
  obtain ⟨c, nt, mo, dr, gn, sp, lm, lw, lk, lf, bh, bd, d, fa, H, eH, hH, hc, h, h1, hC, hold, h46, hI⟩ := ch_ctx hN hM
  unfold f_w_when
  rcases tocome h a b y with ⟨e1, e2⟩ | ⟨g, m, l, hg, m1, m6, hl, rfl, rfl, rfl, n1, n2⟩
  · exact ⟨-1, M, M, by rw [if_pos e1], by unfold f_m_when; rw [if_pos e2], hM⟩
  by_cases q : f_w_within w 0 2 M = 0
  · exact ⟨-1, M, M, by rw [if_neg n1, if_pos q], by unfold f_m_when; rw [if_neg n2, isIn_eq w _ _ M M, if_pos q], hM⟩
  rw [if_neg n1, if_neg q, hold, Option.bind_some]
  unfold f_c_startWith
  generalize hM1 : si M 46 2 (nI H) = M1 at h1 hC h46 hI
  have hg8 : g < 8 := by omega
  rw [Option.bind_some, Option.bind_some, c_best hN hC hH h46 hg8 m1 m6 hl, Option.bind_some]
  have n2' : ¬ f_m_isToCome (nI g) (nI m) (nI l) M1 = 0 := by rw [← hM1]; exact n2
  have q' : ¬ f_m_isIn w 0 2 M1 = 0 := q
  generalize hQ : (fun S => gt (d l) fa H g S m) = Q
  have Qe : ∀ S, Q S = gt (d l) fa H g S m := fun S => by rw [← hQ]
  have Ql : ∀ S, Q S ≤ 840000000000000 := fun S => by rw [Qe]; exact gt_lt m6 (ch_d hC m6 hl)
  have hbm := bm_ltm Q m1
  have h100 := h6 m6
  have hp : 0 < 100 ^ m := Nat.pow_pos (by decide)
  have rO : ∀ S M', S < 256 → Hm M1 M' → f_m_oddsBy N (nI g) (nI m) (nI l) (nI S) M' = some (lN (Q S), hm M1 (hd lf lw mo sp)) := fun S M' hS hH' => by
    rw [Qe, eH]
    exact r_oddsBy hN h1 hC hH' hg8 m6 hl hS
  have cP : ∀ S, S < 256 → f_c_part N (nI g) (nI m) (nI l) (nI S) M1 = some (lN (Q S)) := fun S hS => by
    rw [Qe]
    exact c_part hN hC hH h46 hg8 m6 hl hS
  have go : ∀ n i M', Hm M1 M' → i ≤ m → m < i + n → 1 ≤ i → f_m_when_30 N n (nI g) (nI m) (nI l) w (nI (bm Q i)) (nI i) M' = f_m_when_30 N 1 (nI g) (nI m) (nI l) w (nI (bm Q m)) (nI m) (if i = m then M' else hm M1 (hd lf lw mo sp)) := by
    intro n
    induction n with
    | zero => intro i M' _ a b; omega
    | succ n ih =>
      intro i M' hH' a b i1
      by_cases e : i = m
      · subst e
        rw [if_pos rfl, f_m_when_30, f_m_when_30, if_pos (nI_le (Nat.le_refl _) (by omega)), if_pos (nI_le (Nat.le_refl _) (by omega))]
      · have hb := bm_lt Q i
        have b1 := Ql (2 ^ i)
        have b2 := Ql (2 ^ bm Q i)
        rw [if_neg e, f_m_when_30, if_neg (nI_ge (by omega) (by omega)), one_shl (by omega), one_shl (by omega), rO _ _ (p2m (by omega)) hH', Option.bind_some, rO _ _ (p2m (by omega)) (Or.inr ⟨_, rfl⟩), Option.bind_some, nI_1]
        have := ih (i + 1) (hm M1 (hd lf lw mo sp)) (Or.inr ⟨_, rfl⟩) (by omega) (by omega) (by omega)
        rw [ite_self] at this
        rw [← this]
        show _ = f_m_when_30 N n _ _ _ _ (nI (if Q (2 ^ i) ≤ Q (2 ^ bm Q i) then bm Q i else i)) _ _
        by_cases z : Q (2 ^ i) ≤ Q (2 ^ bm Q i)
        · rw [if_pos ((lcle (by omega) (by omega)).mpr z), if_pos z]
        · rw [if_neg (fun e => z ((lcle (by omega) (by omega)).mp e)), if_neg z]
  have e1 : bm Q 1 = 0 := by
    show (if _ ≤ _ then 0 else 0) = 0
    split <;> rfl
  have g0 := go N 1 M1 (Or.inl rfl) m1 (by omega) (by omega)
  rw [e1] at g0
  have rE : f_m_when N (nI g) (nI m) (nI l) w M1 = f_m_when_30 N 1 (nI g) (nI m) (nI l) w (nI (bm Q m)) (nI m) (if 1 = m then M1 else hm M1 (hd lf lw mo sp)) := by
    unfold f_m_when
    rw [if_neg n2', if_neg q']
    exact g0
  have hHm : Hm M1 (if 1 = m then M1 else hm M1 (hd lf lw mo sp)) := by
    split
    · exact Or.inl rfl
    · exact Or.inr ⟨_, rfl⟩
  generalize (if 1 = m then M1 else hm M1 (hd lf lw mo sp)) = M' at rE hHm
  have hx : (lN (Q (2 ^ bm Q m))).toInt = (Q (2 ^ bm Q m) : Int) := pk_lT (by have := Ql (2 ^ bm Q m); omega)
  have hq := Ql (2 ^ bm Q m)
  have e840 : (840 : Int64) * lN (100 ^ m) = lN (840 * 100 ^ m) := lN_mul 840 (100 ^ m)
  rcases within_2 q with rfl | rfl | rfl
  · refine ⟨(nI (bm Q m)).toInt64, M1, M', ?_, ?_, hHm.inv LX_ok hI⟩
    · rw [if_pos (show (0 : Int32) = 0 from rfl)]
    · rw [rE, f_m_when_30, if_pos (nI_le (Nat.le_refl _) (by omega)), if_pos (show (0 : Int32) = 0 from rfl)]
  · obtain ⟨v, hv⟩ := low_all (x0 := lN (Q (2 ^ bm Q m))) (x4 := 0) (b := 840 * 100 ^ m) hN (by omega) (by omega) (by omega) (by omega)
    refine ⟨v, M1, hm M1 (hd lf lw mo sp), ?_, ?_, hI.wh LX_ok _⟩
    · rw [if_neg (show ¬ (1 : Int32) = 0 by decide), one_shl (by omega), cP _ (p2m (by omega)), Option.bind_some, c_hun hN (by omega), Option.bind_some, if_neg (show ¬ (1 : Int32) = 2 by decide), e840, (hv M1).1, Option.bind_some]
    · rw [rE, f_m_when_30, if_pos (nI_le (Nat.le_refl _) (by omega)), if_neg (show ¬ (1 : Int32) = 0 by decide), one_shl (by omega), rO _ _ (p2m (by omega)) hHm, Option.bind_some, r_hun hN (by omega), Option.bind_some, if_neg (show ¬ (1 : Int32) = 2 by decide), e840, (hv _).2, Option.bind_some]
  · obtain ⟨v, hv⟩ := low_all (x0 := lN (Q (2 ^ bm Q m))) (x4 := 1) (b := 840 * 100 ^ m) hN (by omega) (by omega) (by omega) (by omega)
    refine ⟨v, M1, hm M1 (hd lf lw mo sp), ?_, ?_, hI.wh LX_ok _⟩
    · rw [if_neg (show ¬ (2 : Int32) = 0 by decide), one_shl (by omega), cP _ (p2m (by omega)), Option.bind_some, c_hun hN (by omega), Option.bind_some, if_pos (show (2 : Int32) = 2 from rfl), e840, (hv M1).1, Option.bind_some]
    · rw [rE, f_m_when_30, if_pos (nI_le (Nat.le_refl _) (by omega)), if_neg (show ¬ (2 : Int32) = 0 by decide), one_shl (by omega), rO _ _ (p2m (by omega)) hHm, Option.bind_some, r_hun hN (by omega), Option.bind_some, if_pos (show (2 : Int32) = 2 from rfl), e840, (hv _).2, Option.bind_some]
/-! the best words -/
section BEST
variable {Mc Mr : Mem} {c nt mo dr gn sp : Nat} {lm lw lk lf bh bd : Nat → Nat} {d : Nat → Nat → Nat} {fa : Nat → Nat} {H g m l w : Nat}
theorem p2m' {m : Nat} (hm : m ≤ 6) : 2 ^ m ≤ 64 := Nat.pow_le_pow_right (show 0 < 2 by decide) hm
theorem c_bests (hN : 4000 ≤ N) (hC : Ch Mc Mr d fa) (hH : H < 256) (h46 : Mc.1 46 2 = nI H) (hg : g < 8) (hm : m ≤ 6) (hl : l < 2) (hw : w ≤ 6) : f_c_bestMoments N (nI g) (nI m) (nI w) (nI l) Mc = some (nI (bb (fun S => gt (d l) fa H g S m) w (2 ^ m))) := by
  have hp := p2m' hm
  have hp0 : 0 < 2 ^ m := Nat.two_pow_pos m
  unfold f_c_bestMoments
  rw [show f_c_part N (nI g) (nI m) (nI l) (0 : Int32) Mc = _ from c_part hN hC hH h46 hg hm hl (S := 0) (by omega), Option.bind_some]
  have t := run_loop (fun n (u : Int32 × Int64) i => f_c_bestMoments_17 N n (nI g) (nI m) (nI w) (nI l) u.1 u.2 i Mc) (fun i => (nI (bb (fun S => gt (d l) fa H g S m) w i), lN (gt (d l) fa H g (bb (fun S => gt (d l) fa H g S m) w i) m))) (some (nI (bb (fun S => gt (d l) fa H g S m) w (2 ^ m)))) (2 ^ m) (fun n => ?_) (fun n i hi => ?_) N 1 (by omega) (by omega)
  · have e1 : bb (fun S => gt (d l) fa H g S m) w 1 = 0 := by
      have := bb_ltm (fun S => gt (d l) fa H g S m) w (s := 1) (by omega)
      omega
    have t2 : f_c_bestMoments_17 N N (nI g) (nI m) (nI w) (nI l) (nI (bb (fun S => gt (d l) fa H g S m) w 1)) (lN (gt (d l) fa H g (bb (fun S => gt (d l) fa H g S m) w 1) m)) (nI 1) Mc = _ := t
    rw [e1] at t2
    exact t2
  · show f_c_bestMoments_17 N (n + 1) _ _ _ _ (nI _) (lN _) (nI (2 ^ m)) Mc = _
    rw [f_c_bestMoments_17, one_shl (by omega), if_pos (nI_le (Nat.le_refl _) (by omega))]
  · show f_c_bestMoments_17 N (n + 1) _ _ _ _ (nI (bb (fun S => gt (d l) fa H g S m) w i)) (lN (gt (d l) fa H g (bb (fun S => gt (d l) fa H g S m) w i) m)) (nI i) Mc = f_c_bestMoments_17 N n _ _ _ _ (nI (bb (fun S => gt (d l) fa H g S m) w (i + 1))) (lN (gt (d l) fa H g (bb (fun S => gt (d l) fa H g S m) w (i + 1)) m)) (nI (i + 1)) Mc
    have hb := bb_lt (fun S => gt (d l) fa H g S m) w i
    have b1 := gt_lt (fa := fa) (H := H) (g := g) (S := i) hm (ch_d hC hm hl)
    have b2 := gt_lt (fa := fa) (H := H) (g := g) (S := bb (fun S => gt (d l) fa H g S m) w i) hm (ch_d hC hm hl)
    have eb : bb (fun S => gt (d l) fa H g S m) w (i + 1) = if pc i ≤ w then (if gt (d l) fa H g (bb (fun S => gt (d l) fa H g S m) w i) m < gt (d l) fa H g i m then i else if gt (d l) fa H g i m = gt (d l) fa H g (bb (fun S => gt (d l) fa H g S m) w i) m then (if pc (bb (fun S => gt (d l) fa H g S m) w i) ≤ pc i then bb (fun S => gt (d l) fa H g S m) w i else i) else bb (fun S => gt (d l) fa H g S m) w i) else bb (fun S => gt (d l) fa H g S m) w i := rfl
    have p1 := pc_le i
    have p2 := pc_le (bb (fun S => gt (d l) fa H g S m) w i)
    rw [f_c_bestMoments_17, one_shl (by omega), if_neg (nI_ge hi (by omega)), c_pc (by omega), c_pc (by omega), c_part hN hC hH h46 hg hm hl (by omega), Option.bind_some, nI_1]
    by_cases q : pc i ≤ w
    · rw [if_pos q] at eb
      rw [if_pos (nI_le q (by omega))]
      by_cases z1 : gt (d l) fa H g (bb (fun S => gt (d l) fa H g S m) w i) m < gt (d l) fa H g i m
      · rw [if_pos z1] at eb
        rw [if_pos ((lcgt (by omega) (by omega)).mpr z1), eb]
      · rw [if_neg z1] at eb
        rw [if_neg (fun e => z1 ((lcgt (by omega) (by omega)).mp e))]
        by_cases z2 : gt (d l) fa H g i m = gt (d l) fa H g (bb (fun S => gt (d l) fa H g S m) w i) m
        · rw [if_pos z2] at eb
          rw [if_pos ((lceq (by omega) (by omega)).mpr z2)]
          by_cases z3 : pc (bb (fun S => gt (d l) fa H g S m) w i) ≤ pc i
          · rw [if_pos z3] at eb
            rw [if_pos (nI_le z3 (by omega)), eb]
          · rw [if_neg z3] at eb
            rw [if_neg (nI_ge (by omega) (by omega)), eb]
        · rw [if_neg z2] at eb
          rw [if_neg (fun e => z2 ((lceq (by omega) (by omega)).mp e)), eb]
    · rw [if_neg q] at eb
      rw [if_neg (nI_ge (by omega) (by omega)), eb]
theorem r_bests {M' : Mem} (hN : 4000 ≤ N) (h : Cx Mc Mr c nt mo dr gn sp lm lw lk lf bh bd) (hC : Ch Mc Mr d fa) (hH' : Hm Mr M') (hg : g < 8) (hm' : m ≤ 6) (hl : l < 2) (hw : w ≤ 6) : ∃ M2, f_m_bestWords N (nI g) (nI m) (nI l) (nI w) M' = some (nI (bb (fun S => gt (d l) fa (hd lf lw mo sp).2 g S m) w (2 ^ m)), M2) ∧ Hm Mr M2 := by
  have hp := p2m' hm'
  have hp0 : 0 < 2 ^ m := Nat.two_pow_pos m
  unfold f_m_bestWords
  generalize hQ : (fun S => gt (d l) fa (hd lf lw mo sp).2 g S m) = Q
  have Qe : ∀ S, Q S = gt (d l) fa (hd lf lw mo sp).2 g S m := fun S => by rw [← hQ]
  have Ql : ∀ S, Q S ≤ 840000000000000 := fun S => by rw [Qe]; exact gt_lt hm' (ch_d hC hm' hl)
  have rO : ∀ S M', S < 256 → Hm Mr M' → f_m_oddsBy N (nI g) (nI m) (nI l) (nI S) M' = some (lN (Q S), hm Mr (hd lf lw mo sp)) := fun S M' hS hH' => by
    rw [Qe]
    exact r_oddsBy hN h hC hH' hg hm' hl hS
  have go : ∀ n i M', Hm Mr M' → 1 ≤ i → i ≤ 2 ^ m → 2 ^ m < i + n → ∃ M2, f_m_bestWords_6 N n (nI g) (nI m) (nI l) (nI w) (nI (bb Q w i)) (nI i) M' = some (nI (bb Q w (2 ^ m)), M2) ∧ Hm Mr M2 := by
    intro n
    induction n with
    | zero => intro i M' _ _ a b; omega
    | succ n ih =>
      intro i M' hH' i1 a b
      rw [f_m_bestWords_6, one_shl (by omega)]
      by_cases e : i = 2 ^ m
      · rw [if_pos (nI_le (by omega) (by omega)), e]
        exact ⟨M', rfl, hH'⟩
      · have hb := bb_lt Q w i
        have b1 := Ql i
        have b2 := Ql (bb Q w i)
        have p1 := pc_le i
        have p2 := pc_le (bb Q w i)
        have z0 : (0 : Int64).toInt = 0 := by decide
        have ls := lsub (a := Q i) (b := Q (bb Q w i)) (by omega) (by omega)
        have eb : bb Q w (i + 1) = if pc i ≤ w then (if Q (bb Q w i) < Q i then i else if Q i = Q (bb Q w i) then (if pc (bb Q w i) ≤ pc i then bb Q w i else i) else bb Q w i) else bb Q w i := rfl
        rw [if_neg (nI_ge (by omega) (by omega)), r_pc (by omega) hN, Option.bind_some, nI_1]
        by_cases q : pc i ≤ w
        · rw [if_pos q] at eb
          rw [if_pos (nI_le q (by omega)), rO _ _ (by omega) hH', Option.bind_some, rO _ _ (by omega) (Or.inr ⟨_, rfl⟩), Option.bind_some, r_pc (by omega) hN, Option.bind_some, r_pc (by omega) hN, Option.bind_some]
          have nx := ih (i + 1) (hm Mr (hd lf lw mo sp)) (Or.inr ⟨_, rfl⟩) (by omega) (by omega) (by omega)
          by_cases z1 : Q (bb Q w i) < Q i
          · rw [if_pos z1] at eb
            rw [if_pos (by rw [lg_cmp_gt, Int64.lt_iff_toInt_lt, ls, z0]; omega)]
            rw [eb] at nx
            exact nx
          · rw [if_neg z1] at eb
            rw [if_neg (by rw [lg_cmp_gt, Int64.lt_iff_toInt_lt, ls, z0]; omega)]
            by_cases z2 : Q i = Q (bb Q w i)
            · rw [if_pos z2] at eb
              rw [if_pos (by rw [lg_cmp_eq, ← Int64.toInt_inj, ls, z0]; omega)]
              by_cases z3 : pc (bb Q w i) ≤ pc i
              · rw [if_pos z3] at eb
                rw [if_pos (nI_le z3 (by omega)), ← eb]
                exact nx
              · rw [if_neg z3] at eb
                rw [if_neg (nI_ge (by omega) (by omega))]
                rw [eb] at nx
                exact nx
            · rw [if_neg z2] at eb
              rw [if_neg (by rw [lg_cmp_eq, ← Int64.toInt_inj, ls, z0]; omega), ← eb]
              exact nx
        · rw [if_neg q] at eb
          rw [if_neg (nI_ge (by omega) (by omega)), ← eb]
          exact ih (i + 1) M' hH' (by omega) (by omega) (by omega)
  have e1 : bb Q w 1 = 0 := by
    have := bb_ltm Q w (s := 1) (by omega)
    omega
  have g0 := go N 1 M' hH' (by omega) (by omega) (by omega)
  rw [e1] at g0
  exact g0
end BEST
theorem o_40 (hN : 4000 ≤ N) : O_40 (Inv LX) (Inv LX) N := by
  intro M a b w y x hM
  obtain ⟨c, nt, mo, dr, gn, sp, lm, lw, lk, lf, bh, bd, d, fa, H, eH, hH, hc, h, h1, hC, hold, h46, hI⟩ := ch_ctx hN hM
  unfold f_w_words
  rcases tocome h a b y with ⟨e1, e2⟩ | ⟨g, m, l, hg, m1, m6, hl, rfl, rfl, rfl, n1, n2⟩
  · exact ⟨-1, M, M, by rw [if_pos e1], by unfold f_m_words; rw [if_pos e2], hM⟩
  by_cases q : f_w_within w 0 6 M = 0
  · exact ⟨-1, M, M, by rw [if_neg n1, if_pos q], by unfold f_m_words; rw [if_neg n2, isIn_eq w _ _ M M, if_pos q], hM⟩
  by_cases r : f_w_within x 0 2 M = 0
  · exact ⟨-1, M, M, by rw [if_neg n1, if_neg q, if_pos r], by unfold f_m_words; rw [if_neg n2, isIn_eq w _ _ M M, if_neg q, isIn_eq x _ _ M M, if_pos r], hM⟩
  rw [if_neg n1, if_neg q, if_neg r, hold, Option.bind_some]
  obtain ⟨k, hk, rfl⟩ := within_n (n := 6) (by decide) q
  unfold f_c_startWith
  generalize hM1 : si M 46 2 (nI H) = M1 at h1 hC h46 hI
  have hg8 : g < 8 := by omega
  have hp := p2m' m6
  rw [Option.bind_some, Option.bind_some, c_bests hN hC hH h46 hg8 m6 hl hk, Option.bind_some]
  have n2' : ¬ f_m_isToCome (nI g) (nI m) (nI l) M1 = 0 := by rw [← hM1]; exact n2
  have q' : ¬ f_m_isIn (nI k) 0 6 M1 = 0 := q
  have r' : ¬ f_m_isIn x 0 2 M1 = 0 := r
  obtain ⟨M2, s1, s2⟩ := r_bests hN h1 hC (M' := M1) (Or.inl rfl) hg8 m6 hl hk
  rw [← eH] at s1
  have hB := bb_lt (fun S => gt (d l) fa H g S m) k (2 ^ m)
  generalize hBe : bb (fun S => gt (d l) fa H g S m) k (2 ^ m) = B at s1 hB
  have cP := c_part hN hC hH h46 hg8 m6 hl (S := B) (by omega)
  have rO := r_oddsBy hN h1 hC s2 hg8 m6 hl (S := B) (by omega)
  rw [← eH] at rO
  have hq := gt_lt (fa := fa) (H := H) (g := g) (S := B) m6 (ch_d hC m6 hl)
  have h100 := h6 m6
  have hp0 : 0 < 100 ^ m := Nat.pow_pos (by decide)
  have hx : (lN (gt (d l) fa H g B m)).toInt = (gt (d l) fa H g B m : Int) := pk_lT (by omega)
  have e840 : (840 : Int64) * lN (100 ^ m) = lN (840 * 100 ^ m) := lN_mul 840 (100 ^ m)
  rcases within_2 r with rfl | rfl | rfl
  · refine ⟨(nI B).toInt64, M1, M2, ?_, ?_, s2.inv LX_ok hI⟩
    · rw [if_pos (show (0 : Int32) = 0 from rfl)]
    · unfold f_m_words
      rw [if_neg n2', if_neg q', if_neg r', s1, Option.bind_some, if_pos (show (0 : Int32) = 0 from rfl)]
  · obtain ⟨v, hv⟩ := low_all (x0 := lN (gt (d l) fa H g B m)) (x4 := 0) (b := 840 * 100 ^ m) hN (by omega) (by omega) (by omega) (by omega)
    refine ⟨v, M1, hm M1 (hd lf lw mo sp), ?_, ?_, hI.wh LX_ok _⟩
    · rw [if_neg (show ¬ (1 : Int32) = 0 by decide), cP, Option.bind_some, c_hun hN (by omega), Option.bind_some, if_neg (show ¬ (1 : Int32) = 2 by decide), e840, (hv M1).1, Option.bind_some]
    · unfold f_m_words
      rw [if_neg n2', if_neg q', if_neg r', s1, Option.bind_some, if_neg (show ¬ (1 : Int32) = 0 by decide), rO, Option.bind_some, r_hun hN (by omega), Option.bind_some, if_neg (show ¬ (1 : Int32) = 2 by decide), e840, (hv _).2, Option.bind_some]
  · obtain ⟨v, hv⟩ := low_all (x0 := lN (gt (d l) fa H g B m)) (x4 := 1) (b := 840 * 100 ^ m) hN (by omega) (by omega) (by omega) (by omega)
    refine ⟨v, M1, hm M1 (hd lf lw mo sp), ?_, ?_, hI.wh LX_ok _⟩
    · rw [if_neg (show ¬ (2 : Int32) = 0 by decide), cP, Option.bind_some, c_hun hN (by omega), Option.bind_some, if_pos (show (2 : Int32) = 2 from rfl), e840, (hv M1).1, Option.bind_some]
    · unfold f_m_words
      rw [if_neg n2', if_neg q', if_neg r', s1, Option.bind_some, if_neg (show ¬ (2 : Int32) = 0 by decide), rO, Option.bind_some, r_hun hN (by omega), Option.bind_some, if_pos (show (2 : Int32) = 2 from rfl), e840, (hv _).2, Option.bind_some]
/-! how few -/
def mnw (Q : Nat → Nat) (W : Nat) : Nat → Nat
  | 0 => 99
  | s + 1 => if W ≤ Q s then min (mnw Q W s) (pc s) else mnw Q W s
theorem mnw_le {Q : Nat → Nat} {W w : Nat} (hw : w < 99) : ∀ {s : Nat}, mnw Q W s ≤ w ↔ ∃ u, u < s ∧ pc u ≤ w ∧ W ≤ Q u
  | 0 => by
    show 99 ≤ w ↔ _
    constructor
    · intro h; omega
    · rintro ⟨u, hu, -⟩; omega
  | s + 1 => by
    have ih := mnw_le (Q := Q) (W := W) hw (s := s)
    show (if W ≤ Q s then min (mnw Q W s) (pc s) else mnw Q W s) ≤ w ↔ _
    constructor
    · intro h
      split at h
      · rename_i e
        by_cases z : mnw Q W s ≤ w
        · obtain ⟨u, u1, u2⟩ := ih.mp z
          exact ⟨u, by omega, u2⟩
        · exact ⟨s, by omega, by omega, e⟩
      · obtain ⟨u, u1, u2⟩ := ih.mp h
        exact ⟨u, by omega, u2⟩
    · rintro ⟨u, u1, u2, u3⟩
      by_cases e : u = s
      · subst e
        rw [if_pos u3]
        omega
      · have := ih.mpr ⟨u, by omega, u2, u3⟩
        split <;> omega
theorem mnw_99 {Q : Nat → Nat} {W : Nat} : ∀ s, mnw Q W s = 99 ∨ mnw Q W s ≤ 8
  | 0 => Or.inl rfl
  | s + 1 => by
    have ih := mnw_99 (Q := Q) (W := W) s
    have := pc_le s
    show (if W ≤ Q s then min (mnw Q W s) (pc s) else mnw Q W s) = 99 ∨ (if W ≤ Q s then min (mnw Q W s) (pc s) else mnw Q W s) ≤ 8
    split
    · right; omega
    · exact ih
theorem pc6 : ∀ s, s < 64 → pc s ≤ 6 := by decide +kernel
theorem mnw_6 {Q : Nat → Nat} {W : Nat} : ∀ {s : Nat}, s ≤ 64 → mnw Q W s = 99 ∨ mnw Q W s ≤ 6
  | 0, _ => Or.inl rfl
  | s + 1, h => by
    have ih := mnw_6 (Q := Q) (W := W) (s := s) (by omega)
    have := pc6 s (by omega)
    show (if W ≤ Q s then min (mnw Q W s) (pc s) else mnw Q W s) = 99 ∨ (if W ≤ Q s then min (mnw Q W s) (pc s) else mnw Q W s) ≤ 6
    split
    · right; omega
    · exact ih
def encM (k : Nat) : Int32 := if k = 99 then -1 else nI k
theorem o_41 (hN : 4000 ≤ N) : O_41 (Inv LX) (Inv LX) N := by
  intro M a b y x hM
  obtain ⟨c, nt, mo, dr, gn, sp, lm, lw, lk, lf, bh, bd, d, fa, H, eH, hH, hc, h, h1, hC, hold, h46, hI⟩ := ch_ctx hN hM
  unfold f_w_fewest
  rcases tocome h a b y with ⟨e1, e2⟩ | ⟨g, m, l, hg, m1, m6, hl, rfl, rfl, rfl, n1, n2⟩
  · exact ⟨-1, M, M, by rw [if_pos e1], by unfold f_m_fewest; rw [if_pos e2], hM⟩
  by_cases q : f_w_within x 1 100 M = 0
  · exact ⟨-1, M, M, by rw [if_neg n1, if_pos q], by unfold f_m_fewest; rw [if_neg n2, isIn_eq x _ _ M M, if_pos q], hM⟩
  rw [if_neg n1, if_neg q, hold, Option.bind_some]
  obtain ⟨k, k1, k2, rfl⟩ := within_1 (n := 100) (by decide) q
  unfold f_c_startWith
  generalize hM1 : si M 46 2 (nI H) = M1 at h1 hC h46 hI
  have hg8 : g < 8 := by omega
  have hp := p2m' m6
  have hp1 : 0 < 2 ^ m := Nat.two_pow_pos m
  have h100 := h6 m6
  have hp0 : 0 < 100 ^ m := Nat.pow_pos (by decide)
  have n2' : ¬ f_m_isToCome (nI g) (nI m) (nI l) M1 = 0 := by rw [← hM1]; exact n2
  have q' : ¬ f_m_isIn (nI k) 1 100 M1 = 0 := q
  have e840 : (840 : Int64) * lN (100 ^ m) = lN (840 * 100 ^ m) := lN_mul 840 (100 ^ m)
  obtain ⟨W, hW⟩ : ∃ W, 840 * 100 ^ m / 100 * k = W := ⟨_, rfl⟩
  have W100 : k * 840 * 100 ^ m = 100 * W := by
    obtain ⟨m', rfl⟩ : ∃ m', m = m' + 1 := ⟨m - 1, by omega⟩
    have e : 840 * 100 ^ (m' + 1) / 100 = 840 * 100 ^ m' := by
      rw [Nat.pow_succ, ← Nat.mul_assoc, Nat.mul_div_cancel _ (by decide)]
    rw [← hW, e, Nat.pow_succ]
    ac_rfl
  have Wb : W ≤ 840000000000000 := by
    have : k * (840 * 100 ^ m) ≤ 100 * (840 * 100 ^ m) := Nat.mul_le_mul_right _ k2
    rw [← Nat.mul_assoc] at this
    omega
  have eW : lN (840 * 100 ^ m) / (100 : Int64) * Int32.toInt64 (nI k) = lN W := by
    rw [show (100 : Int64) = lN 100 from rfl, pk_lDiv (by omega) (by omega) (by omega), nI_l (by omega), lN_mul, hW]
  rw [Option.bind_some, Option.bind_some, c_hun hN (by omega), Option.bind_some, e840, eW]
  generalize hQ : (fun S => gt (d l) fa H g S m) = Q
  have Qe : ∀ S, Q S = gt (d l) fa H g S m := fun S => by rw [← hQ]
  have Ql : ∀ S, Q S ≤ 840000000000000 := fun S => by rw [Qe]; exact gt_lt m6 (ch_d hC m6 hl)
  have cP : ∀ S, S < 256 → f_c_part N (nI g) (nI m) (nI l) (nI S) M1 = some (lN (Q S)) := fun S hS => by
    rw [Qe]
    exact c_part hN hC hH h46 hg8 m6 hl hS
  have cE : f_c_fewestFor N (nI g) (nI m) (nI l) (lN W) M1 = some (encM (mnw Q W (2 ^ m))) := by
    unfold f_c_fewestFor
    refine run_loop (fun n a i => f_c_fewestFor_6 N n (nI g) (nI m) (nI l) (lN W) a i M1) (fun i => encM (mnw Q W i)) _ (2 ^ m) (fun n => ?_) (fun n i hi => ?_) N 0 (by omega) (by omega)
    · show f_c_fewestFor_6 N (n + 1) _ _ _ _ _ (nI (2 ^ m)) M1 = _
      rw [f_c_fewestFor_6, one_shl (by omega), if_pos (nI_le (Nat.le_refl _) (by omega))]
    · show f_c_fewestFor_6 N (n + 1) _ _ _ _ (encM (mnw Q W i)) (nI i) M1 = f_c_fewestFor_6 N n _ _ _ _ (encM (if W ≤ Q i then min (mnw Q W i) (pc i) else mnw Q W i)) (nI (i + 1)) M1
      have p1 := pc_le i
      have b1 := Ql i
      rw [f_c_fewestFor_6, one_shl (by omega), if_neg (nI_ge hi (by omega)), c_pc (by omega), nI_1]
      unfold f_c_fewestFor_34
      rw [cP i (by omega), Option.bind_some, nI_1]
      rcases mnw_99 (Q := Q) (W := W) i with z | z
      · have ee : encM (mnw Q W i) = -1 := by unfold encM; rw [if_pos z]
        rw [ee, if_pos (show (-1 : Int32) = -1 from rfl)]
        by_cases t : W ≤ Q i
        · rw [if_neg (fun e => by have := (lclt (by omega) (by omega)).mp e; omega), if_pos t]
          congr 1
          unfold encM
          rw [if_neg (by omega)]
          congr 1
          omega
        · rw [if_pos ((lclt (by omega) (by omega)).mpr (by omega)), if_neg t, ee]
      · have ee : encM (mnw Q W i) = nI (mnw Q W i) := by unfold encM; rw [if_neg (by omega)]
        rw [ee, if_neg (nI_ne_m1 (by omega))]
        by_cases s : mnw Q W i ≤ pc i
        · rw [if_pos (nI_le s (by omega))]
          have : (if W ≤ Q i then min (mnw Q W i) (pc i) else mnw Q W i) = mnw Q W i := by split <;> omega
          rw [this, ee]
        · rw [if_neg (nI_ge (by omega) (by omega))]
          by_cases t : W ≤ Q i
          · rw [if_neg (fun e => by have := (lclt (by omega) (by omega)).mp e; omega), if_pos t]
            congr 1
            unfold encM
            rw [if_neg (by omega)]
            congr 1
            omega
          · rw [if_pos ((lclt (by omega) (by omega)).mpr (by omega)), if_neg t, ee]
  rw [cE, Option.bind_some]
  have go : ∀ n w M', Hm M1 M' → w ≤ 7 → 7 < w + n → (∀ w', w' < w → ¬ mnw Q W (2 ^ m) ≤ w') → ∃ M2, f_m_fewest_26 N n (nI g) (nI m) (nI l) (nI k) (nI w) M' = some (encM (mnw Q W (2 ^ m)), M2) ∧ Hm M1 M2 := by
    intro n
    induction n with
    | zero => intro w M' _ a b; omega
    | succ n ih =>
      intro w M' hH' a b hlow
      rw [f_m_fewest_26]
      by_cases e : w = 7
      · subst e
        have z : mnw Q W (2 ^ m) = 99 := by
          rcases mnw_6 (Q := Q) (W := W) hp with z | z
          · exact z
          · exact absurd z (hlow 6 (by omega))
        have ee : encM (mnw Q W (2 ^ m)) = -1 := by unfold encM; rw [if_pos z]
        exact ⟨M', by rw [if_pos (show (7 : Int32) ≤ nI 7 by decide), ee], hH'⟩
      · obtain ⟨M2, s1, s2⟩ := r_bests (w := w) hN h1 hC hH' hg8 m6 hl (by omega)
        rw [← eH, hQ] at s1
        have hB := bb_ltm Q w (s := 2 ^ m) hp1
        have rO := r_oddsBy hN h1 hC s2 hg8 m6 hl (S := bb Q w (2 ^ m)) (by omega)
        rw [← eH, ← Qe] at rO
        have b1 := Ql (bb Q w (2 ^ m))
        have e1 : (100 : Int64) * lN (Q (bb Q w (2 ^ m))) = lN (100 * Q (bb Q w (2 ^ m))) := lN_mul 100 _
        have e2 : Int32.toInt64 (nI k) * (840 : Int64) * lN (100 ^ m) = lN (100 * W) := by
          rw [nI_l (by omega), show (840 : Int64) = lN 840 from rfl, lN_mul, lN_mul, W100]
        have key : mnw Q W (2 ^ m) ≤ w ↔ W ≤ Q (bb Q w (2 ^ m)) := by
          rw [mnw_le (by omega)]
          constructor
          · rintro ⟨u, u1, u2, u3⟩
            exact Nat.le_trans u3 (bb_max Q w u1 u2)
          · intro e
            exact ⟨_, hB, bb_pc Q w _, e⟩
        rw [if_neg (show ¬ (7 : Int32) ≤ nI w from nI_ge (b := 7) (by omega) (by decide)), s1, Option.bind_some, rO, Option.bind_some, r_hun hN (by omega), Option.bind_some, e1, e2]
        by_cases z : mnw Q W (2 ^ m) ≤ w
        · have zq := key.mp z
          have ew : mnw Q W (2 ^ m) = w := by
            by_cases w0 : w = 0
            · omega
            · have := hlow (w - 1) (by omega)
              omega
          have ee : encM (mnw Q W (2 ^ m)) = nI w := by unfold encM; rw [if_neg (by omega), ew]
          exact ⟨_, by rw [if_neg (fun e => by have := (lclt (by omega) (by omega)).mp e; omega), ee], Or.inr ⟨_, rfl⟩⟩
        · have zq : ¬ W ≤ Q (bb Q w (2 ^ m)) := fun e => z (key.mpr e)
          rw [if_pos ((lclt (by omega) (by omega)).mpr (by omega)), nI_1]
          refine ih (w + 1) _ (Or.inr ⟨_, rfl⟩) (by omega) (by omega) (fun w' hw' => ?_)
          by_cases e3 : w' = w
          · rw [e3]; exact z
          · exact hlow w' (by omega)
  obtain ⟨M2, s1, s2⟩ := go N 0 M1 (Or.inl rfl) (by omega) (by omega) (fun w' hw' => by omega)
  refine ⟨encM (mnw Q W (2 ^ m)), M1, M2, rfl, ?_, s2.inv LX_ok hI⟩
  unfold f_m_fewest
  rw [if_neg n2', if_neg q']
  exact s1
end CALLS
