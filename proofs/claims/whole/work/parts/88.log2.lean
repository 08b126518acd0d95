/-! What is asked of the log. -/
def Hm (M M' : Mem) : Prop := M' = M ∨ ∃ u, M' = hm M u
theorem Hm.wh {M M' : Mem} (h : Hm M M') {u : Nat × Nat} : hm M' u = hm M u := by
  rcases h with rfl | ⟨v, rfl⟩
  · rfl
  · exact hm_hm M v u
theorem Hm.k {M M' : Mem} (h : Hm M M') {k : Nat} (hk : k ≠ 129) : M'.1 k = M.1 k := by
  rcases h with rfl | ⟨v, rfl⟩
  · rfl
  · exact hm_k M v hk
theorem Hm.cx {M M' Mc : Mem} (hh : Hm M M') {c nt mo dr gn sp : Nat} {lm lw lk lf bh bd : Nat → Nat} (h : Cx Mc M c nt mo dr gn sp lm lw lk lf bh bd) : Cx Mc M' c nt mo dr gn sp lm lw lk lf bh bd := h.to (hh.k (by decide))
theorem Hm.inv {X : (Nat → Nat → Int32) → Nat → Prop} (hX : XC X) {M M' : Mem} (hh : Hm M M') (h : Inv X M) : Inv X M' := by
  rcases hh with rfl | ⟨v, rfl⟩
  · exact h
  · exact h.wh hX v
section OPS2
variable {X : (Nat → Nat → Int32) → Nat → Prop} {N : Nat}
theorem o_29 (_hX : XC X) (hN : 4000 ≤ N) : O_29 (Inv X) (Inv X) N := by
  intro M a b hM
  obtain ⟨c, nt, mo, dr, gn, sp, lm, lw, lk, lf, bh, bd, h⟩ := hM.cx
  have hs := h.sp40
  have hc := h.c8
  unfold f_w_told f_m_told
  rw [isIn_eq b _ _ M M]
  rcases h.gcase a with ⟨e1, e2⟩ | ⟨g, hg, rfl, n1, n2⟩
  · exact ⟨-1, by rw [if_pos e1], by rw [if_pos e2], hM⟩
  rw [if_neg n1, if_neg n2]
  by_cases h2 : f_w_within b 0 3 M = 0
  · exact ⟨-1, by rw [if_pos h2], by rw [if_pos h2], hM⟩
  obtain ⟨k, hk, rfl⟩ := within_n (n := 3) (by decide) h2
  refine ⟨_, by rw [if_neg h2, h.count hN (by omega) (by omega), Option.bind_some], ?_, hM⟩
  rw [if_neg h2]
  refine run_loop (fun n a i => f_m_told_24 N n (nI g) (nI k) a i M) (fun i => nI (ct (fun i => decide (lw i = g) && decide (lk i = k)) i)) _ sp (fun n => ?_) (fun n i hi => ?_) N 0 (by omega) (by omega)
  · show f_m_told_24 N (n + 1) _ _ _ _ M = _
    rw [f_m_told_24, if_pos h.resp]
  · obtain ⟨q1, q2, q3, q4⟩ := h.L.lt h.c8 hi
    show f_m_told_24 N (n + 1) _ _ _ _ M = f_m_told_24 N n _ _ (nI (ct (fun i => decide (lw i = g) && decide (lk i = k)) i + if (decide (lw i = g) && decide (lk i = k)) = true then 1 else 0)) _ M
    rw [f_m_told_24, if_neg (h.rnsp hi), r_who h.L h.c8 hs hi, Option.bind_some, r_kind h.L h.c8 hs hi, Option.bind_some, nI_1, nI_1, Int32.add_zero]
    by_cases a : lw i = g
    · rw [if_pos ((nI_eq (by omega) (by omega)).mpr a)]
      by_cases b : lk i = k
      · rw [if_pos ((nI_eq (by omega) (by omega)).mpr b), if_pos (by simp [a, b])]
      · rw [if_neg (fun q => b ((nI_eq (by omega) (by omega)).mp q)), if_neg (by simp [b])] <;> rfl
    · rw [if_neg (fun q => a ((nI_eq (by omega) (by omega)).mp q)), if_neg (by simp [a])] <;> rfl
/-- whose word it would be: both build the same set -/
theorem o_24 (hX : XC X) (hN : 4000 ≤ N) : O_24 (Inv X) (Inv X) N := by
  intro M a b hM
  obtain ⟨c, nt, mo, dr, gn, sp, lm, lw, lk, lf, bh, bd, h⟩ := hM.cx
  have hc := h.c8
  unfold f_w_whispered f_m_whispered
  rw [isIn_eq a _ _ M M]
  by_cases h1 : f_w_within a 0 999 M = 0
  · exact ⟨-1, M, by rw [if_pos h1], by rw [if_pos h1], hM⟩
  rw [if_neg h1, if_neg h1]
  obtain ⟨f, hf, hf2, rfl⟩ := within999 h1
  rcases h.scase b with ⟨e1, e2⟩ | ⟨s, hs, rfl, n1, n2⟩
  · exact ⟨-1, M, by rw [if_pos e1], by rw [if_pos e2], hM⟩
  rw [if_neg n1, if_neg n2, h.cs hN, Option.bind_some]
  have hs2 : s < 256 := Nat.lt_of_lt_of_le hs (p2_le hc)
  have hjl : ∀ g, (jn (hd lf lw 5001 sp) f (bw g)).2 < 256 := fun g => (jn_ok (h.hdok _) hf2 (bw_lt _)).2
  have key1 : f_w_whispered_47 N N (nI f - 1) (nI s) (sv (hd lf lw 5001 sp)) 0 0 M = some (nI (bset (fun g => decide ((jn (hd lf lw 5001 sp) f (bw g)).2 = s)) c)) := by
    refine run_loop (fun n a i => f_w_whispered_47 N n (nI f - 1) (nI s) (sv (hd lf lw 5001 sp)) a i M) (fun i => nI (bset (fun g => decide ((jn (hd lf lw 5001 sp) f (bw g)).2 = s)) i)) _ c (fun n => ?_) (fun n i hi => ?_) N 0 (by omega) (by omega)
    · show f_w_whispered_47 N (n + 1) _ _ _ _ _ M = _
      rw [f_w_whispered_47, if_pos h.ecn]
    · show f_w_whispered_47 N (n + 1) _ _ _ _ _ M = f_w_whispered_47 N n _ _ _ (nI (bset (fun g => decide ((jn (hd lf lw 5001 sp) f (bw g)).2 = s)) i ||| if (decide ((jn (hd lf lw 5001 sp) f (bw i)).2 = s)) = true then 2 ^ i else 0)) _ M
      have eb : nI (2 ^ i) = nI (bw i) := by unfold bw; rw [if_pos (by omega)]
      rw [f_w_whispered_47, if_neg (h.ncn hi), one_shl (by omega), eb, c_join (h.hdok _) hf2 (bw_lt _), hold_sv (jn_ok (h.hdok _) hf2 (bw_lt _)), ← eb, fa_or, nI_1]
      by_cases q : (jn (hd lf lw 5001 sp) f (bw i)).2 = s
      · rw [if_pos (by rw [q]), if_pos (by simp [q])]
      · rw [if_neg (fun e => q ((nI_eq (by have := hjl i; omega) (by omega)).mp e)), if_neg (by simp [q]), Nat.or_zero]
  have key2 : ∃ M2, f_m_whispered_26 N N (nI f - 1) (nI s) 0 0 M = some (nI (bset (fun g => decide ((jn (hd lf lw 5001 sp) f (bw g)).2 = s)) c), M2) ∧ Hm M M2 := by
    have gen : ∀ n i (M' : Mem), i ≤ c → c < i + n → Hm M M' → ∃ M2, f_m_whispered_26 N n (nI f - 1) (nI s) (nI (bset (fun g => decide ((jn (hd lf lw 5001 sp) f (bw g)).2 = s)) i)) (nI i) M' = some (nI (bset (fun g => decide ((jn (hd lf lw 5001 sp) f (bw g)).2 = s)) c), M2) ∧ Hm M M2 := by
      intro n
      induction n with
      | zero => intro i u h1 h2; omega
      | succ n ih =>
        intro i M' h1 h2 hH
        have h' := hH.cx h
        by_cases e : i = c
        · subst e
          exact ⟨M', by rw [f_m_whispered_26, if_pos h'.recn], hH⟩
        · have hi : i < c := by omega
          obtain ⟨M2, hu, hH2⟩ := ih (i + 1) (hm M (jn (hd lf lw 5001 sp) f (bw i))) (by omega) (by omega) (Or.inr ⟨_, rfl⟩)
          refine ⟨M2, ?_, hH2⟩
          rw [f_m_whispered_26, if_neg (h'.rncn hi), r_with h' hN (by omega) hf hf2, Option.bind_some, hH.wh, one_shl (by omega), fa_or, nI_1, ← hu]
          show _ = f_m_whispered_26 N n _ _ (nI (bset (fun g => decide ((jn (hd lf lw 5001 sp) f (bw g)).2 = s)) i ||| if (decide ((jn (hd lf lw 5001 sp) f (bw i)).2 = s)) = true then 2 ^ i else 0)) _ _
          by_cases q : (jn (hd lf lw 5001 sp) f (bw i)).2 = s
          · rw [if_pos (by rw [q]), if_pos (by simp [q])]
          · rw [if_neg (fun e => q ((nI_eq (by have := hjl i; omega) (by omega)).mp e)), if_neg (by simp [q]), Nat.or_zero, Int32.or_zero]
    exact gen N 0 M (by omega) (by omega) (Or.inl rfl)
  obtain ⟨M2, e2, hH⟩ := key2
  exact ⟨_, M2, key1, e2, hH.inv hX hM⟩
theorem r_with2 {M Mc : Mem} {c nt mo dr gn sp : Nat} {lm lw lk lf bh bd : Nat → Nat} (h : Cx Mc M c nt mo dr gn sp lm lw lk lf bh bd) (hN : 4000 ≤ N) {w f w2 f2 : Nat} (hw : w ≤ 8) (hf : 1 ≤ f) (hf2 : f ≤ 1000) (hw2 : w2 ≤ 8) (hg : 1 ≤ f2) (hg2 : f2 ≤ 1000) : f_m_holdWithTwo N (nI w) (nI f - 1) (nI w2) (nI f2 - 1) M = some (nI (jn (jn (hd lf lw 5001 sp) f (bw w)) f2 (bw w2)).2, hm M (jn (jn (hd lf lw 5001 sp) f (bw w)) f2 (bw w2))) := by
  unfold f_m_holdWithTwo
  rw [h.rs hN, Option.bind_some, if_pos (nI_pos' (by have := (h.hdok 5001).2; omega)), r_consider M (h.hdok _) hf2 hw, Option.bind_some, if_neg (by omega), r_consider M (jn_ok (h.hdok _) hf2 (bw_lt _)) hg2 hw2, Option.bind_some, if_neg (by omega), hm_29]
theorem o_25 (hX : XC X) (hN : 4000 ≤ N) : O_25 (Inv X) (Inv X) N := by
  intro M a b y d hM
  obtain ⟨c, nt, mo, dr, gn, sp, lm, lw, lk, lf, bh, bd, h⟩ := hM.cx
  have hc := h.c8
  unfold f_w_twoWhispered f_m_twoWhispered
  rw [isIn_eq a _ _ M M, isIn_eq b _ _ M M]
  by_cases h1 : f_w_within a 0 999 M = 0
  · exact ⟨-1, M, by rw [if_pos h1], by rw [if_pos h1], hM⟩
  rw [if_neg h1, if_neg h1]
  by_cases h2 : f_w_within b 0 999 M = 0
  · exact ⟨-1, M, by rw [if_pos h2], by rw [if_pos h2], hM⟩
  rw [if_neg h2, if_neg h2]
  obtain ⟨f, hf, hf2, rfl⟩ := within999 h1
  obtain ⟨f', hg, hg2, rfl⟩ := within999 h2
  rcases h.scase y with ⟨e1, e2⟩ | ⟨s, hs, rfl, n1, n2⟩
  · exact ⟨-1, M, by rw [if_pos e1], by rw [if_pos e2], hM⟩
  rw [if_neg n1, if_neg n2, h.cs hN, Option.bind_some]
  have hs2 : s < 256 := Nat.lt_of_lt_of_le hs (p2_le hc)
  have hJ : ∀ g k, (jn (jn (hd lf lw 5001 sp) f (bw g)) f' (bw k)).2 < 256 := fun g k => (jn_ok (jn_ok (h.hdok _) hf2 (bw_lt _)) hg2 (bw_lt _)).2
  have eb : ∀ i, i < 8 → nI (2 ^ i) = nI (bw i) := fun i hi => by unfold bw; rw [if_pos hi]
  have cj : ∀ g k, g < 8 → k < 8 → f_w_holders (f_w_joined (f_w_joined (sv (hd lf lw 5001 sp)) (nI f - 1) (1 <<< (nI g &&& 31)) M) (nI f' - 1) (1 <<< (nI k &&& 31)) M) M = nI (jn (jn (hd lf lw 5001 sp) f (bw g)) f' (bw k)).2 := by
    intro g k hg' hk
    rw [one_shl (by omega), one_shl (by omega), eb g hg', eb k hk, c_join (h.hdok _) hf2 (bw_lt _), c_join (jn_ok (h.hdok _) hf2 (bw_lt _)) hg2 (bw_lt _), hold_sv (jn_ok (jn_ok (h.hdok _) hf2 (bw_lt _)) hg2 (bw_lt _))]
  have outer : ∀ n g k M', Hm M M' → g ≤ c → c < g + n → ∃ v M2, f_w_twoWhispered_59 N n (nI f - 1) (nI f' - 1) (nI s) d (sv (hd lf lw 5001 sp)) (nI k) (nI g) M = some v ∧ f_m_twoWhispered_44 N n (nI f - 1) (nI f' - 1) (nI s) d (nI k) (nI g) M' = some (v, M2) ∧ Hm M M2 := by
    intro n
    induction n with
    | zero => intro g k M' hH h1 h2; omega
    | succ n ih =>
      intro g k M' hH h1 h2
      rw [f_w_twoWhispered_59, f_m_twoWhispered_44]
      by_cases e : g = c
      · subst e
        rw [if_pos h.ecn, if_pos (hH.cx h).recn]
        by_cases q : d = -1
        · exact ⟨nI k, M', by rw [if_pos q], by rw [if_pos q], hH⟩
        · exact ⟨-1, M', by rw [if_neg q], by rw [if_neg q], hH⟩
      · have hgc : g < c := by omega
        rw [if_neg (h.ncn hgc), if_neg ((hH.cx h).rncn hgc), nI_1]
        have inner : ∀ m j k M', Hm M M' → j ≤ c → c < j + m → ∃ v M2, f_w_twoWhispered_80 N (f_w_twoWhispered_59 N n) m (nI f - 1) (nI f' - 1) (nI s) d (sv (hd lf lw 5001 sp)) (nI k) (nI g) (nI j) M = some v ∧ f_m_twoWhispered_61 N (f_m_twoWhispered_44 N n) m (nI f - 1) (nI f' - 1) (nI s) d (nI k) (nI g) (nI j) M' = some (v, M2) ∧ Hm M M2 := by
          intro m
          induction m with
          | zero => intro j k M' hH h1 h2; omega
          | succ m ihm =>
            intro j k M' hH hj1 hj2
            have h' := hH.cx h
            rw [f_w_twoWhispered_80, f_m_twoWhispered_61]
            by_cases e : j = c
            · subst e
              rw [if_pos h.ecn, if_pos h'.recn, nI_1]
              exact ih (g + 1) k M' hH (by omega) (by omega)
            · have hjc : j < c := by omega
              have hu : Hm M (hm M (jn (jn (hd lf lw 5001 sp) f (bw g)) f' (bw j))) := Or.inr ⟨_, rfl⟩
              have hu2 : Hm M (hm M (jn (jn (hd lf lw 5001 sp) f (bw j)) f' (bw g))) := Or.inr ⟨_, rfl⟩
              rw [if_neg (h.ncn hjc), if_neg (h'.rncn hjc), cj g j (by omega) (by omega), cj j g (by omega) (by omega), r_with2 h' hN (by omega) hf hf2 (by omega) hg hg2, Option.bind_some, hH.wh, r_with2 (hu.cx h) hN (by omega) hf hf2 (by omega) hg hg2, Option.bind_some, hm_hm, nI_1, nI_1]
              by_cases q : (jn (jn (hd lf lw 5001 sp) f (bw g)) f' (bw j)).2 = s
              · have q' : nI (jn (jn (hd lf lw 5001 sp) f (bw g)) f' (bw j)).2 = nI s := by rw [q]
                rw [if_pos q', if_pos q']
                by_cases r : nI k = d
                · exact ⟨_, _, by rw [if_pos r], by rw [if_pos r], hu⟩
                · rw [if_neg r, if_neg r]
                  exact ihm (j + 1) (k + 1) _ hu (by omega) (by omega)
              · have q' : ¬ nI (jn (jn (hd lf lw 5001 sp) f (bw g)) f' (bw j)).2 = nI s := fun e => q ((nI_eq (by have := hJ g j; omega) (by omega)).mp e)
                rw [if_neg q', if_neg q']
                by_cases q2 : (jn (jn (hd lf lw 5001 sp) f (bw j)) f' (bw g)).2 = s
                · have q2' : nI (jn (jn (hd lf lw 5001 sp) f (bw j)) f' (bw g)).2 = nI s := by rw [q2]
                  rw [if_pos q2', if_pos q2']
                  by_cases r : nI k = d
                  · exact ⟨_, _, by rw [if_pos r], by rw [if_pos r], hu2⟩
                  · rw [if_neg r, if_neg r]
                    exact ihm (j + 1) (k + 1) _ hu2 (by omega) (by omega)
                · have q2' : ¬ nI (jn (jn (hd lf lw 5001 sp) f (bw j)) f' (bw g)).2 = nI s := fun e => q2 ((nI_eq (by have := hJ j g; omega) (by omega)).mp e)
                  rw [if_neg q2', if_neg q2']
                  exact ihm (j + 1) k _ hu2 (by omega) (by omega)
        exact inner N (g + 1) k M' hH (by omega) (by omega)
  obtain ⟨v, M2, a1, a2, a3⟩ := outer N 0 0 M (Or.inl rfl) (by omega) (by omega)
  by_cases hd1 : -1 ≤ d
  · exact ⟨v, M2, a1, by rw [if_pos hd1]; exact a2, a3.inv hX hM⟩
  · refine ⟨-1, M, ?_, by rw [if_neg hd1], hM⟩
    have dn : ∀ k : Nat, k < 1000 → nI k ≠ d := by
      rintro k hk rfl
      exact hd1 (Int32.le_of_lt (m1_lt k (by omega)))
    have dm : ¬ d = -1 := fun q => hd1 (by rw [q]; exact Int32.le_refl _)
    have out2 : ∀ n g k, g ≤ c → c < g + n → k + 8 * (c - g) < 1000 → f_w_twoWhispered_59 N n (nI f - 1) (nI f' - 1) (nI s) d (sv (hd lf lw 5001 sp)) (nI k) (nI g) M = some (-1) := by
      intro n
      induction n with
      | zero => intro g k h1 h2; omega
      | succ n ih =>
        intro g k h1 h2 hk
        rw [f_w_twoWhispered_59]
        by_cases e : g = c
        · subst e
          rw [if_pos h.ecn, if_neg dm]
        · have hgc : g < c := by omega
          rw [if_neg (h.ncn hgc), nI_1]
          have inner : ∀ m j k, j ≤ c → c < j + m → k + (c - j) + 8 * (c - (g + 1)) < 1000 → f_w_twoWhispered_80 N (f_w_twoWhispered_59 N n) m (nI f - 1) (nI f' - 1) (nI s) d (sv (hd lf lw 5001 sp)) (nI k) (nI g) (nI j) M = some (-1) := by
            intro m
            induction m with
            | zero => intro j k h1 h2; omega
            | succ m ihm =>
              intro j k hj1 hj2 hk
              rw [f_w_twoWhispered_80]
              by_cases e : j = c
              · subst e
                rw [if_pos h.ecn, nI_1]
                exact ih (g + 1) k (by omega) (by omega) (by omega)
              · rw [if_neg (h.ncn (by omega)), nI_1, nI_1, if_neg (dn k (by omega)), ihm (j + 1) (k + 1) (by omega) (by omega) (by omega), ihm (j + 1) k (by omega) (by omega) (by omega)]
                split
                · rfl
                · split <;> rfl
          exact inner N (g + 1) k (by omega) (by omega) (by omega)
    exact out2 N 0 0 (by omega) (by omega) (by omega)
/-- who is to be provoked: the log without one's later words -/
def hx (lf lw lm : Nat → Nat) (g m : Nat) : Nat → Nat × Nat
  | 0 => (0, 0)
  | n + 1 => if lf n = 0 ∨ (lw n = g ∧ m ≤ lm n) then hx lf lw lm g m n else jn (hx lf lw lm g m n) (lf n) (bw (lw n))
theorem hx_ok {lf lw lm : Nat → Nat} {g m : Nat} : ∀ {n : Nat}, (∀ i, i < n → lf i ≤ 1000) → okS (hx lf lw lm g m n)
  | 0, _ => ⟨(show 0 ≤ 1000 by decide), (show 0 < 256 by decide)⟩
  | n + 1, h => by
    unfold hx
    split
    · exact hx_ok (fun i hi => h i (by omega))
    · exact jn_ok (hx_ok (fun i hi => h i (by omega))) (h n (by omega)) (bw_lt _)
theorem c_without {M Mr : Mem} {c nt mo dr gn sp : Nat} {lm lw lk lf bh bd : Nat → Nat} (h : Cx M Mr c nt mo dr gn sp lm lw lk lf bh bd) (hN : 4000 ≤ N) {g m : Nat} (hg : g < 100) (hm : m < 1000) : f_e_standingWithout N (nI g) (nI m) M = some (sv (hx lf lw lm g m sp)) := by
  have hs := h.sp40
  rw [f_e_standingWithout]
  refine run_loop (fun n a i => f_e_standingWithout_5 N n (nI g) (nI m) a i M) (fun i => sv (hx lf lw lm g m i)) _ sp (fun n => ?_) (fun n i hi => ?_) N 0 (by omega) (by omega)
  · show f_e_standingWithout_5 N (n + 1) _ _ _ _ M = _
    rw [f_e_standingWithout_5, if_pos h.esp]
  · obtain ⟨q1, q2, q3, q4⟩ := h.L.lt h.c8 hi
    have ok : okS (hx lf lw lm g m i) := hx_ok (fun j hj => by have := h.lf199 (show j < sp by omega); omega)
    show f_e_standingWithout_5 N (n + 1) _ _ _ _ M = f_e_standingWithout_5 N n _ _ (sv (if lf i = 0 ∨ (lw i = g ∧ m ≤ lm i) then hx lf lw lm g m i else jn (hx lf lw lm g m i) (lf i) (bw (lw i)))) _ M
    rw [f_e_standingWithout_5, if_neg (h.nsp hi), e_entry M (by omega), Option.bind_some, e_who h.L h.c8 hi, e_mom h.L h.c8 hi, e_fal h.L h.c8 hi]
    have k52 : ∀ s0 : Int32, f_e_standingWithout_52 N (f_e_standingWithout_5 N n) (nI g) (nI m) (sv (hx lf lw lm g m i)) (nI i) (M.1 12 (6 + i)) (nI (lf i) - 1) s0 M = if lf i = 0 then f_e_standingWithout_5 N n (nI g) (nI m) (sv (hx lf lw lm g m i)) (nI (i + 1)) M else if s0 = 0 then f_e_standingWithout_5 N n (nI g) (nI m) (sv (hx lf lw lm g m i)) (nI (i + 1)) M else f_e_standingWithout_5 N n (nI g) (nI m) (sv (jn (hx lf lw lm g m i) (lf i) (bw (lw i)))) (nI (i + 1)) M := by
      intro s0
      rw [f_e_standingWithout_52, e_who h.L h.c8 hi, c_bit (by omega), c_join ok (by omega) (bw_lt _), nI_1]
      by_cases h0 : lf i = 0
      · rw [if_pos h0, if_pos ((m1_eq (by omega)).mpr h0)]
      · rw [if_neg h0, if_neg (fun q => h0 ((m1_eq (by omega)).mp q))]
    rw [k52 0, k52 1, if_pos rfl, if_neg (show ¬ (1 : Int32) = 0 by decide)]
    by_cases h0 : lf i = 0
    · rw [if_pos h0, if_pos h0, if_pos (Or.inl h0)]
      split
      · split <;> rfl
      · rfl
    · rw [if_neg h0, if_neg h0]
      by_cases a : lw i = g
      · rw [if_pos ((nI_eq (by omega) (by omega)).mpr a)]
        by_cases b : m ≤ lm i
        · rw [if_pos (nI_le b (by omega)), if_pos (Or.inr ⟨a, b⟩)]
        · rw [if_neg (nI_ge (by omega) (by omega)), if_neg (by omega)]
      · rw [if_neg (fun q => a ((nI_eq (by omega) (by omega)).mp q)), if_neg (by omega)]
theorem o_34 (hX : XC X) (hN : 4000 ≤ N) : O_34 (Inv X) (Inv X) N := by
  intro M a b hM
  obtain ⟨c, nt, mo, dr, gn, sp, lm, lw, lk, lf, bh, bd, h⟩ := hM.cx
  have hs := h.sp40
  have hc := h.c8
  unfold f_w_provoked f_m_provoked
  rw [isIn_eq b _ _ M M]
  rcases h.gcase a with ⟨e1, e2⟩ | ⟨y, hy, rfl, n1, n2⟩
  · exact ⟨-1, M, by rw [if_pos e1], by rw [if_pos e2], hM⟩
  rw [if_neg n1, if_neg n2]
  by_cases h2 : f_w_within b 0 99 M = 0
  · exact ⟨-1, M, by rw [if_pos h2], by rw [if_pos h2], hM⟩
  obtain ⟨m, hm1, rfl⟩ := within_n (n := 99) (by decide) h2
  rw [if_neg h2, if_neg h2]
  have ok : ∀ g i, i ≤ sp → okS (hx lf lw lm g m i) := fun g i hi => hx_ok (fun j hj => by have := h.lf199 (show j < sp by omega); omega)
  have outer : ∀ n g M', Hm M M' → g ≤ c → c < g + n → ∃ v M2, f_w_provoked_28 N n (nI y) (nI m) (nI g) M = some v ∧ f_m_provoked_22 N n (nI y) (nI m) (nI g) M' = some (v, M2) ∧ Hm M M2 := by
    intro n
    induction n with
    | zero => intro g M' hH h1 h2; omega
    | succ n ih =>
      intro g M' hH h1 h2
      rw [f_w_provoked_28, f_m_provoked_22]
      by_cases e : g = c
      · subst e
        exact ⟨-1, M', by rw [if_pos h.ecn], by rw [if_pos (hH.cx h).recn], hH⟩
      · have hgc : g < c := by omega
        rw [if_neg (h.ncn hgc), if_neg ((hH.cx h).rncn hgc), nI_1]
        by_cases q : g = y
        · subst q
          rw [if_pos rfl, if_pos rfl]
          exact ih (g + 1) M' hH (by omega) (by omega)
        · have q' : ¬ nI g = nI y := fun e => q ((nI_eq (by omega) (by omega)).mp e)
          rw [if_neg q', if_neg q', c_without h hN (by omega) (by omega), Option.bind_some, hold_sv (ok g sp (Nat.le_refl _)), one_shl (by omega), r_start, Option.bind_some, hH.wh]
          have inner : ∀ k i, i ≤ sp → sp < i + k → f_m_provoked_47 N (f_m_provoked_22 N n) k (nI y) (nI m) (nI g) (nI i) (hm M (hx lf lw lm g m i)) = f_m_provoked_47 N (f_m_provoked_22 N n) 1 (nI y) (nI m) (nI g) (nI sp) (hm M (hx lf lw lm g m sp)) := by
            intro k
            induction k with
            | zero => intro i h1 h2; omega
            | succ k ihk =>
              intro i hi1 hi2
              by_cases e : i = sp
              · subst e
                rw [f_m_provoked_47, f_m_provoked_47, if_pos (h.wh _).resp, if_pos (h.wh _).resp]
              · have hi : i < sp := by omega
                have h' := h.wh (hx lf lw lm g m i)
                obtain ⟨q1, q2, q3, q4⟩ := h.L.lt h.c8 hi
                rw [← ihk (i + 1) (by omega) (by omega), f_m_provoked_47, if_neg (h'.rnsp hi), r_who h'.L hc hs hi, Option.bind_some, Option.bind_some, r_mom h'.L hc hs hi, Option.bind_some, r_fal h'.L hc hs hi, Option.bind_some, r_consider M (ok g i (by omega)) (by omega) (by omega), Option.bind_some, nI_1]
                show _ = f_m_provoked_47 N (f_m_provoked_22 N n) k _ _ _ _ (hm M (if lf i = 0 ∨ (lw i = g ∧ m ≤ lm i) then hx lf lw lm g m i else jn (hx lf lw lm g m i) (lf i) (bw (lw i))))
                by_cases a : lw i = g
                · rw [if_pos ((nI_eq (by omega) (by omega)).mpr a)]
                  by_cases b : m ≤ lm i
                  · rw [if_pos (nI_le b (by omega)), if_pos (Or.inr ⟨a, b⟩)]
                  · rw [if_neg (nI_ge (by omega) (by omega))]
                    by_cases h0 : lf i = 0
                    · rw [if_pos h0, if_pos (Or.inl h0)]
                    · rw [if_neg h0, if_neg (by omega)]
                · rw [if_neg (fun q => a ((nI_eq (by omega) (by omega)).mp q))]
                  by_cases h0 : lf i = 0
                  · rw [if_pos h0, if_pos (Or.inl h0)]
                  · rw [if_neg h0, if_neg (by omega)]
          have e0 := inner N 0 (by omega) (by omega)
          rw [show hx lf lw lm g m 0 = (0, 0) from rfl] at e0
          rw [show (0 : Int32) = nI 0 from rfl, e0, f_m_provoked_47, if_pos (h.wh _).resp, hm_29, one_shl (by omega), nI_1]
          by_cases r : nI (hx lf lw lm g m sp).2 = nI (2 ^ y)
          · exact ⟨nI g, _, by rw [if_pos r], by rw [if_pos r], Or.inr ⟨_, rfl⟩⟩
          · rw [if_neg r, if_neg r]
            exact ih (g + 1) _ (Or.inr ⟨_, rfl⟩) (by omega) (by omega)
  obtain ⟨v, M2, a1, a2, a3⟩ := outer N 0 M (Or.inl rfl) (by omega) (by omega)
  exact ⟨v, M2, a1, a2, a3.inv hX hM⟩
end OPS2
