/-! The invariant as a whole; what is asked of the log. -/
def KC : List Nat := [6, 7, 8, 9, 10, 12, 14] ++ (List.range 30).map (16 + ·) ++ [48, 49, 50, 53, 54, 55, 56, 57, 59, 61] ++ (List.range 30).map (63 + ·) ++ [95, 96, 97] ++ (List.range 16).map (113 + ·) ++ [130, 131, 132]
/-- what is said of the texts: of their own cells alone -/
def XC (X : (Nat → Nat → Int32) → Nat → Prop) : Prop := (∀ m m' t, (∀ k, 113 ≤ k → k ≤ 128 → m' k = m k) → m' 132 = m 132 → X m t → X m' t) ∧ ∀ m t u, u ≤ t → X m t → X m u
def Inv (X : (Nat → Nat → Int32) → Nat → Prop) (M : Mem) : Prop := ∃ c t ck tk, Tab M.1 0 (M.1 130) c t ∧ Tab M.1 47 (M.1 131) ck tk ∧ tk ≤ t ∧ Tp M.1 ∧ Fa M.1 ∧ X M.1 t
theorem KC_a (k : Nat) (h1 : 6 ≤ k) (h2 : k ≤ 50) (h3 : k ≠ 11) (h4 : k ≠ 13) (h5 : k ≠ 15) (h6 : k ≠ 46) (h7 : k ≠ 47) : k ∈ KC ∧ k + 47 ∈ KC := by
  have : ∀ k, k < 51 → (k < 6 ∨ k = 11 ∨ k = 13 ∨ k = 15 ∨ k = 46 ∨ k = 47) ∨ (k ∈ KC ∧ k + 47 ∈ KC) := by decide +kernel
  rcases this k (by omega) with q | q
  · omega
  · exact q
theorem KC_b (k : Nat) (h1 : 113 ≤ k) (h2 : k ≤ 128) : k ∈ KC := by
  have : ∀ j, j < 16 → 113 + j ∈ KC := by decide +kernel
  have := this (k - 113) (by omega)
  rwa [show 113 + (k - 113) = k by omega] at this
theorem Inv.cong {X : (Nat → Nat → Int32) → Nat → Prop} (hX : XC X) {M M' : Mem} (h : Inv X M) (hk : ∀ k ∈ KC, M'.1 k = M.1 k) (ht : Tp M'.1) (hf : Fa M'.1) : Inv X M' := by
  obtain ⟨c, t, ck, tk, h1, h2, h3, h4, h5, h6⟩ := h
  refine ⟨c, t, ck, tk, ?_, ?_, h3, ht, hf, ?_⟩
  · rw [hk 130 (by decide +kernel)]
    exact h1.cong (fun k a b c d e f g => hk k (KC_a k a b c d e f g).1)
  · rw [hk 131 (by decide +kernel)]
    exact h2.cong (fun k a b c d e f g => hk (k + 47) (KC_a k a b c d e f g).2)
  · exact hX.1 M.1 M'.1 t (fun k a b => hk k (KC_b k a b)) (hk 132 (by decide +kernel)) h6
theorem Inv.tp {X : (Nat → Nat → Int32) → Nat → Prop} {M : Mem} (h : Inv X M) : Tp M.1 := by
  obtain ⟨c, t, ck, tk, h1, h2, h3, h4, h5, h6⟩ := h
  exact h4
theorem Inv.fa {X : (Nat → Nat → Int32) → Nat → Prop} {M : Mem} (h : Inv X M) : Fa M.1 := by
  obtain ⟨c, t, ck, tk, h1, h2, h3, h4, h5, h6⟩ := h
  exact h5
/-- only cells that nobody asks for are changed, and of 129 not 4 5 6 -/
theorem Inv.fr {X : (Nat → Nat → Int32) → Nat → Prop} (hX : XC X) {M M' : Mem} {W : List Nat} (h : Inv X M) (hf : Fr W M M') (hW : ∀ k ∈ KC ++ [100, 101, 103, 133], k ∉ W) (h9 : M'.1 129 4 = M.1 129 4 ∧ M'.1 129 5 = M.1 129 5 ∧ M'.1 129 6 = M.1 129 6) : Inv X M' := by
  have e : ∀ k ∈ KC ++ [100, 101, 103, 133], M'.1 k = M.1 k := fun k hk => (hf k (hW k hk)).1
  refine h.cong hX (fun k hk => e k (List.mem_append_left _ hk)) (h.tp.cong ?_ h9.1 ?_ ?_) (h.fa.cong ?_ h9.2.1 h9.2.2)
  · rw [e 100 (by decide +kernel)]
  · exact e 101 (by decide +kernel)
  · exact e 133 (by decide +kernel)
  · exact e 103 (by decide +kernel)
theorem Inv.wh {X : (Nat → Nat → Int32) → Nat → Prop} (hX : XC X) {M : Mem} (h : Inv X M) (s : Nat × Nat) : Inv X (hm M s) := by
  refine h.fr (W := [129]) hX (fun k hk => ⟨hm_k M s (by simpa using hk), rfl⟩) (by decide +kernel) ⟨rfl, rfl, rfl⟩
/-- the evening of the table, of both sides -/
def Cx (Mc Mr : Mem) (c nt mo dr gn sp : Nat) (lm lw lk lf bh bd : Nat → Nat) : Prop := c ≤ 8 ∧ Mc.1 7 3 = nI c ∧ EvN (Mc.1 12) (cur (Mr.1 130)) c nt mo dr gn sp ∧ EvL (Mc.1 12) (cur (Mr.1 130)) c sp lm lw lk lf ∧ EvD (cur (Mr.1 130)) c gn sp lm lw lk ∧ EvB (Mc.1 12) (bk (Mr.1 130)) nt bh bd
theorem Inv.cx {X : (Nat → Nat → Int32) → Nat → Prop} {M : Mem} (h : Inv X M) : ∃ (c nt mo dr gn sp : Nat) (lm lw lk lf bh bd : Nat → Nat), Cx M M c nt mo dr gn sp lm lw lk lf bh bd := by
  obtain ⟨c, t, ck, tk, ⟨h1, h2, ⟨nt, mo, dr, gn, sp, lm, lw, lk, lf, bh, bd, a, b, d, e⟩, h4, h5⟩, -⟩ := h
  exact ⟨c, nt, mo, dr, gn, sp, lm, lw, lk, lf, bh, bd, h1.1, h1.2.1, a, b, d, e⟩
section CX
variable {M Mr Mc : Mem} {c nt mo dr gn sp : Nat} {lm lw lk lf bh bd : Nat → Nat}
theorem Cx.c8 (h : Cx Mc Mr c nt mo dr gn sp lm lw lk lf bh bd) : c ≤ 8 := h.1
theorem Cx.c7 (h : Cx M Mr c nt mo dr gn sp lm lw lk lf bh bd) : M.1 7 3 = nI c := h.2.1
theorem Cx.c130 (h : Cx Mc M c nt mo dr gn sp lm lw lk lf bh bd) : M.1 130 0 = nI c := h.2.2.1.1.1
theorem Cx.nt12 (h : Cx M Mr c nt mo dr gn sp lm lw lk lf bh bd) : M.1 12 0 = nI nt := h.2.2.1.2.1.1
theorem Cx.nt130 (h : Cx Mc M c nt mo dr gn sp lm lw lk lf bh bd) : M.1 130 1 = nI nt := h.2.2.1.2.1.2.1
theorem Cx.nt999 (h : Cx Mc Mr c nt mo dr gn sp lm lw lk lf bh bd) : nt ≤ 999 := h.2.2.1.2.1.2.2
theorem Cx.mo12 (h : Cx M Mr c nt mo dr gn sp lm lw lk lf bh bd) : M.1 12 1 = nI mo := h.2.2.1.2.2.1.1
theorem Cx.mo130 (h : Cx Mc M c nt mo dr gn sp lm lw lk lf bh bd) : M.1 130 2 = nI mo := h.2.2.1.2.2.1.2.1
theorem Cx.mo99 (h : Cx Mc Mr c nt mo dr gn sp lm lw lk lf bh bd) : mo ≤ 99 := h.2.2.1.2.2.1.2.2
theorem Cx.dr12 (h : Cx M Mr c nt mo dr gn sp lm lw lk lf bh bd) : M.1 12 2 = nI dr := h.2.2.1.2.2.2.1.1
theorem Cx.dr130 (h : Cx Mc M c nt mo dr gn sp lm lw lk lf bh bd) : M.1 130 4 = nI dr := h.2.2.1.2.2.2.1.2.1
theorem Cx.drl (h : Cx Mc Mr c nt mo dr gn sp lm lw lk lf bh bd) : dr < 30259 := h.2.2.1.2.2.2.1.2.2
theorem Cx.gn12 (h : Cx M Mr c nt mo dr gn sp lm lw lk lf bh bd) : M.1 12 3 = nI gn := h.2.2.1.2.2.2.2.1.1
theorem Cx.gnl (h : Cx Mc Mr c nt mo dr gn sp lm lw lk lf bh bd) : gn < 2 ^ c := h.2.2.1.2.2.2.2.1.2
theorem Cx.sp12 (h : Cx M Mr c nt mo dr gn sp lm lw lk lf bh bd) : M.1 12 4 = nI sp := h.2.2.1.2.2.2.2.2.1.1
theorem Cx.sp130 (h : Cx Mc M c nt mo dr gn sp lm lw lk lf bh bd) : M.1 130 8 = nI sp := h.2.2.1.2.2.2.2.2.1.2.1
theorem Cx.sp40 (h : Cx Mc Mr c nt mo dr gn sp lm lw lk lf bh bd) : sp ≤ 40 := h.2.2.1.2.2.2.2.2.1.2.2
theorem Cx.wr12 (h : Cx M Mr c nt mo dr gn sp lm lw lk lf bh bd) : M.1 12 5 = nI (min nt 20) := h.2.2.1.2.2.2.2.2.2.1
theorem Cx.wr130 (h : Cx Mc M c nt mo dr gn sp lm lw lk lf bh bd) : M.1 130 9 = nI nt := h.2.2.1.2.2.2.2.2.2.2
theorem Cx.L (h : Cx Mc Mr c nt mo dr gn sp lm lw lk lf bh bd) : EvL (Mc.1 12) (cur (Mr.1 130)) c sp lm lw lk lf := h.2.2.2.1
theorem Cx.D (h : Cx Mc Mr c nt mo dr gn sp lm lw lk lf bh bd) : EvD (cur (Mr.1 130)) c gn sp lm lw lk := h.2.2.2.2.1
theorem Cx.B (h : Cx Mc Mr c nt mo dr gn sp lm lw lk lf bh bd) : EvB (Mc.1 12) (bk (Mr.1 130)) nt bh bd := h.2.2.2.2.2
theorem Cx.lf199 (h : Cx Mc Mr c nt mo dr gn sp lm lw lk lf bh bd) {i : Nat} (hi : i < sp) : lf i ≤ 199 := (h.L.lt h.c8 hi).2.2.2
theorem Cx.wine (h : Cx Mc M c nt mo dr gn sp lm lw lk lf bh bd) : M.1 130 3 = nI (ct (fun i => decide (lk i = 2)) sp) := h.D.1
theorem Cx.hdok (h : Cx Mc Mr c nt mo dr gn sp lm lw lk lf bh bd) (lim : Nat) : okS (hd lf lw lim sp) := hd_ok (fun i hi => by have := h.lf199 hi; omega)
theorem Cx.wh (h : Cx Mc M c nt mo dr gn sp lm lw lk lf bh bd) (s : Nat × Nat) : Cx Mc (hm M s) c nt mo dr gn sp lm lw lk lf bh bd := by
  unfold Cx
  rw [hm_k M s (show 130 ≠ 129 by decide)]
  exact h
/-- the reference's part may lie in another memory -/
theorem Cx.to (h : Cx Mc M c nt mo dr gn sp lm lw lk lf bh bd) {M1 : Mem} (e : M1.1 130 = M.1 130) : Cx Mc M1 c nt mo dr gn sp lm lw lk lf bh bd := by
  unfold Cx
  rw [e]
  exact h
theorem Cx.toc (h : Cx Mc M c nt mo dr gn sp lm lw lk lf bh bd) {M1 : Mem} (e7 : M1.1 7 = Mc.1 7) (e12 : M1.1 12 = Mc.1 12) : Cx M1 M c nt mo dr gn sp lm lw lk lf bh bd := by
  unfold Cx
  rw [e7, e12]
  exact h
theorem hold_sv {s : Nat × Nat} (hs : okS s) (M : Mem) : f_w_holders (sv s) M = nI s.2 := by
  unfold f_w_holders sv
  rw [pkA (by have := hs.1; have := hs.2; omega) 8 (by decide)]
  congr 1
  have := hs.2
  omega
theorem late_sv {s : Nat × Nat} (hs : okS s) (M : Mem) : f_w_latestMoment (sv s) M = nI s.1 - 1 := by
  unfold f_w_latestMoment sv
  rw [pk_shrN (by have := hs.1; have := hs.2; omega) 8 8 (by decide)]
  congr 2
  have := hs.2
  omega
/-- what would hold, by its limit: 5001 stands for no limit -/
theorem Cx.cs (h : Cx M Mr c nt mo dr gn sp lm lw lk lf bh bd) {N : Nat} (hN : 4000 ≤ N) : f_e_standing N (1000000 : Int32) M = some (sv (hd lf lw 5001 sp)) := by
  have e := c_standing h.L h.c8 h.sp40 h.sp12 (lim := 1000000) (N := N) (by omega) (by have := h.sp40; omega)
  rw [hd_lim (b := 5001) (fun i hi => by have := h.lf199 hi; omega)] at e
  exact e
theorem Cx.csm (h : Cx M Mr c nt mo dr gn sp lm lw lk lf bh bd) {N : Nat} (hN : 4000 ≤ N) : f_e_standing N (f_e_moment M) M = some (sv (hd lf lw mo sp)) := by
  rw [show f_e_moment M = nI mo from h.mo12]
  exact c_standing h.L h.c8 h.sp40 h.sp12 (by have := h.mo99; omega) (by have := h.sp40; omega)
theorem Cx.rs (h : Cx Mc M c nt mo dr gn sp lm lw lk lf bh bd) {N : Nat} (hN : 4000 ≤ N) : f_m_wouldHold N M = some (nI (hd lf lw 5001 sp).2, hm M (hd lf lw 5001 sp)) := by
  unfold f_m_wouldHold
  rw [show (5000 : Int32) = nI 5001 - 1 by decide, r_holdBy h.L h.c8 h.sp40 h.sp130 (by omega) (by have := h.sp40; omega), Option.bind_some]
theorem Cx.rsm (h : Cx Mc M c nt mo dr gn sp lm lw lk lf bh bd) {N : Nat} (hN : 4000 ≤ N) : f_m_holdNow N M = some (nI (hd lf lw mo sp).2, hm M (hd lf lw mo sp)) := by
  unfold f_m_holdNow
  rw [show gi M 130 2 = nI mo from h.mo130, r_holdBy h.L h.c8 h.sp40 h.sp130 (by have := h.mo99; omega) (by have := h.sp40; omega), Option.bind_some]
/-- guests and sets, as both ask -/
theorem Cx.knows (h : Cx M Mr c nt mo dr gn sp lm lw lk lf bh bd) (x : Int32) : (¬ f_g_knows x M = 0) ↔ ∃ g, g < c ∧ x = nI g := by
  unfold f_g_knows
  have e : f_k_min0 (gi M 7 3) (8 : Int32) M = nI c := by
    unfold f_k_min0
    rw [show gi M 7 3 = nI c from h.c7, if_neg]
    exact nI_nlt (a := 8) (b := c) h.c8 (by decide)
  rw [e]
  exact below_iff M (by have := h.c8; omega)
theorem Cx.isG (h : Cx Mc M c nt mo dr gn sp lm lw lk lf bh bd) (x : Int32) : (¬ f_m_isGuest x M = 0) ↔ ∃ g, g < c ∧ x = nI g := by
  unfold f_m_isGuest
  rw [isIn_eq x _ _ M M, show gi M 130 0 = nI c from h.c130]
  exact below_iff M (by have := h.c8; omega)
theorem Cx.kA (h : Cx M Mr c nt mo dr gn sp lm lw lk lf bh bd) (x : Int32) : (¬ f_g_knowsAll x M = 0) ↔ ∃ s, s < 2 ^ c ∧ x = nI s := by
  unfold f_g_knowsAll f_g_everybody
  rw [show gi M 7 3 = nI c from h.c7, one_shl (by have := h.c8; omega)]
  exact below_iff M (by have := Nat.pow_le_pow_right (show 0 < 2 by decide) h.c8; omega)
theorem Cx.isS (h : Cx Mc M c nt mo dr gn sp lm lw lk lf bh bd) (x : Int32) : (¬ f_m_isSet x M = 0) ↔ ∃ s, s < 2 ^ c ∧ x = nI s := by
  unfold f_m_isSet
  rw [isIn_eq x _ _ M M, show gi M 130 0 = nI c from h.c130, one_shl (by have := h.c8; omega)]
  exact below_iff M (by have := Nat.pow_le_pow_right (show 0 < 2 by decide) h.c8; omega)
end CX
section OPS1
variable {X : (Nat → Nat → Int32) → Nat → Prop} {N : Nat}
theorem o_15 (hX : XC X) (hN : 4000 ≤ N) : O_15 (Inv X) (Inv X) N := by
  intro M a hM ha
  obtain ⟨c, nt, mo, dr, gn, sp, lm, lw, lk, lf, bh, bd, h⟩ := hM.cx
  rcases ha with rfl | rfl
  · refine ⟨nI (hd lf lw mo sp).2, hm M (hd lf lw mo sp), ?_, ?_, hM.wh hX _⟩
    · rw [f_w_holds, if_pos rfl, f_e_holdNow, h.csm hN, Option.bind_some, Option.bind_some, hold_sv (h.hdok _)]
    · rw [f_m_holds, if_pos rfl, h.rsm hN, Option.bind_some]
  · refine ⟨nI (hd lf lw 5001 sp).2, hm M (hd lf lw 5001 sp), ?_, ?_, hM.wh hX _⟩
    · rw [f_w_holds, if_neg (by decide), f_e_wouldHold, h.cs hN, Option.bind_some, Option.bind_some, hold_sv (h.hdok _)]
    · rw [f_m_holds, if_neg (by decide), h.rs hN, Option.bind_some]
theorem o_27 (hX : XC X) (hN : 4000 ≤ N) : O_27 (Inv X) (Inv X) N := by
  intro M hM
  obtain ⟨c, nt, mo, dr, gn, sp, lm, lw, lk, lf, bh, bd, h⟩ := hM.cx
  refine ⟨nI mo - (nI (hd lf lw mo sp).1 - 1), hm M (hd lf lw mo sp), ?_, ?_, hM.wh hX _⟩
  · rw [f_w_silence, h.csm hN, Option.bind_some, late_sv (h.hdok _), show f_e_moment M = nI mo from h.mo12]
  · rw [f_m_silence, h.rsm hN, Option.bind_some, if_pos (nI_pos' (by have := (h.hdok mo).2; omega)), hm_28]
    show some (((hm M _).1 130 2) - _, _) = _
    rw [(h.wh _).mo130]
theorem o_16 (_hX : XC X) (hN : 4000 ≤ N) : O_16 (Inv X) (Inv X) N := by
  intro M a b hM
  obtain ⟨c, nt, mo, dr, gn, sp, lm, lw, lk, lf, bh, bd, h⟩ := hM.cx
  have hs := h.sp40
  unfold f_w_log f_m_log0
  rw [show f_e_spoken M = nI sp from h.sp12, show gi M 130 8 = nI sp from h.sp130, isIn_eq a _ _ M M]
  by_cases h1 : a = -1
  · exact ⟨nI sp, by rw [if_pos h1], by rw [if_pos h1], hM⟩
  · rw [if_neg h1, if_neg h1]
    by_cases h2 : f_w_within a 0 (nI sp - 1) M = 0
    · exact ⟨-2, by rw [if_pos h2], by rw [if_pos h2], hM⟩
    · obtain ⟨i, hi, rfl⟩ := (below_iff M (by omega)).mp h2
      rw [if_neg h2, if_neg h2, e_entry M (by omega), Option.bind_some, e_mom h.L h.c8 hi, e_who h.L h.c8 hi, e_kind h.L h.c8 hi, e_fal h.L h.c8 hi, r_mom h.L h.c8 hs hi, r_who h.L h.c8 hs hi, r_kind h.L h.c8 hs hi, r_fal h.L h.c8 hs hi]
      by_cases b0 : b = 0
      · exact ⟨_, by rw [if_pos b0], by rw [if_pos b0]; rfl, hM⟩
      by_cases b1 : b = 1
      · exact ⟨_, by rw [if_neg b0, if_pos b1], by rw [if_neg b0, if_pos b1]; rfl, hM⟩
      by_cases b2 : b = 2
      · exact ⟨_, by rw [if_neg b0, if_neg b1, if_pos b2], by rw [if_neg b0, if_neg b1, if_pos b2]; rfl, hM⟩
      by_cases b3 : b = 3
      · exact ⟨_, by rw [if_neg b0, if_neg b1, if_neg b2, if_pos b3], by rw [if_neg b0, if_neg b1, if_neg b2, if_pos b3]; rfl, hM⟩
      · exact ⟨_, by rw [if_neg b0, if_neg b1, if_neg b2, if_neg b3], by rw [if_neg b0, if_neg b1, if_neg b2, if_neg b3], hM⟩
theorem within999 {x : Int32} {M : Mem} (h : ¬ f_w_within x 0 999 M = 0) : ∃ f, 1 ≤ f ∧ f ≤ 1000 ∧ x = nI f - 1 := by
  obtain ⟨j, hj, rfl⟩ := within_n (n := 999) (by decide) h
  exact ⟨j + 1, by omega, by omega, (nI_pred j).symm⟩
theorem r_with {M Mc : Mem} {c nt mo dr gn sp : Nat} {lm lw lk lf bh bd : Nat → Nat} (h : Cx Mc M c nt mo dr gn sp lm lw lk lf bh bd) (hN : 4000 ≤ N) {w f : Nat} (hw : w ≤ 8) (hf : 1 ≤ f) (hf2 : f ≤ 1000) : f_m_holdWith N (nI w) (nI f - 1) M = some (nI (jn (hd lf lw 5001 sp) f (bw w)).2, hm M (jn (hd lf lw 5001 sp) f (bw w))) := by
  unfold f_m_holdWith
  rw [h.rs hN, Option.bind_some, if_pos (nI_pos' (by have := (h.hdok 5001).2; omega)), r_consider M (h.hdok _) hf2 hw, Option.bind_some, if_neg (by omega), hm_29]
theorem o_26 (hX : XC X) (hN : 4000 ≤ N) : O_26 (Inv X) (Inv X) N := by
  intro M a hM
  obtain ⟨c, nt, mo, dr, gn, sp, lm, lw, lk, lf, bh, bd, h⟩ := hM.cx
  unfold f_w_ifAsked f_m_ifAsked
  rw [isIn_eq a _ _ M M]
  by_cases h1 : f_w_within a 0 999 M = 0
  · exact ⟨-1, M, by rw [if_pos h1], by rw [if_pos h1], hM⟩
  · obtain ⟨f, hf, hf2, rfl⟩ := within999 h1
    refine ⟨nI (jn (hd lf lw 5001 sp) f 0).2, hm M (jn (hd lf lw 5001 sp) f 0), ?_, ?_, hM.wh hX _⟩
    · rw [if_neg h1, h.cs hN, Option.bind_some, show (0 : Int32) = nI 0 from rfl, c_join (h.hdok _) hf2 (by omega), hold_sv (jn_ok (h.hdok _) hf2 (by omega))]
    · have := r_with h hN (w := 8) (by omega) hf hf2
      rw [if_neg h1, show (8 : Int32) = nI 8 from rfl, this, Option.bind_some]
      rfl
end OPS1
