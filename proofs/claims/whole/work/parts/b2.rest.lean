/-! Who held how long, what is to be unsaid, whose toast is next. -/
def mxL (lf lw : Nat → Nat) (g : Nat) : Nat → Nat
  | 0 => 0
  | n + 1 => if lw n = g then max (mxL lf lw g n) (lf n) else mxL lf lw g n
theorem mxL_le {lf lw : Nat → Nat} {g : Nat} : ∀ {n : Nat}, (∀ i, i < n → lf i ≤ 199) → mxL lf lw g n ≤ 199
  | 0, _ => Nat.zero_le _
  | n + 1, h => by
    have h1 := mxL_le (lf := lf) (lw := lw) (g := g) (n := n) (fun i hi => h i (by omega))
    have h2 := h n (by omega)
    show (if lw n = g then max (mxL lf lw g n) (lf n) else mxL lf lw g n) ≤ 199
    split <;> omega
section REST
variable {X : (Nat → Nat → Int32) → Nat → Prop} {N : Nat}
theorem o_35 (_hX : XC X) (hN : 4000 ≤ N) : O_35 (Inv X) (Inv X) N := by
  intro M a hM
  obtain ⟨c, nt, mo, dr, gn, sp, lm, lw, lk, lf, bh, bd, h⟩ := hM.cx
  have hs := h.sp40
  have hc := h.c8
  unfold f_w_unsaid f_m_unsaid
  rcases h.gcase a with ⟨e1, e2⟩ | ⟨g, hg, rfl, n1, n2⟩
  · exact ⟨-1, by rw [if_pos e1], by rw [if_pos e2], hM⟩
  rw [if_neg n1, if_neg n2]
  generalize hL : mxL lf lw g sp = L
  have L199 : L ≤ 199 := by rw [← hL]; exact mxL_le (fun i hi => h.lf199 hi)
  let p : Nat → Bool := fun i => decide (L < lf i) || (decide (lf i = L) && !decide (lw i = g) && !decide (lw i = 8))
  have cE : f_e_inTheWayOf N (nI g) M = some (if L = 0 then -1 else nI (ct p sp)) := by
    unfold f_e_inTheWayOf
    refine run_loop (fun n a i => f_e_inTheWayOf_4 N n (nI g) a i M) (fun i => nI (mxL lf lw g i) - 1) _ sp (fun n => ?_) (fun n i hi => ?_) N 0 (by omega) (by omega)
    · show f_e_inTheWayOf_4 N (n + 1) _ _ _ M = _
      rw [f_e_inTheWayOf_4, if_pos h.esp, hL]
      by_cases z : L = 0
      · rw [if_pos ((m1_eq (by omega)).mpr z), if_pos z]
      · rw [if_neg (fun q => z ((m1_eq (by omega)).mp q)), if_neg z]
        refine run_loop (fun n a i => f_e_inTheWayOf_55 N n (nI g) (nI L - 1) a i M) (fun i => nI (ct p i)) _ sp (fun n => ?_) (fun n i hi => ?_) N 0 (by omega) (by omega)
        · show f_e_inTheWayOf_55 N (n + 1) _ _ _ _ M = _
          rw [f_e_inTheWayOf_55, if_pos h.esp]
        · obtain ⟨q1, q2, q3, q4⟩ := h.L.lt h.c8 hi
          show f_e_inTheWayOf_55 N (n + 1) _ _ _ _ M = f_e_inTheWayOf_55 N n _ _ (nI (ct p i + if p i = true then 1 else 0)) _ M
          have e8 : (nI (lw i) = (8 : Int32)) ↔ lw i = 8 := nI_eq (b := 8) (by omega) (by decide)
          have eg : (nI (lw i) = nI g) ↔ lw i = g := nI_eq (by omega) (by omega)
          have ef : (nI (lf i) - 1 = nI L - 1) ↔ lf i = L := by
            constructor
            · intro e
              have := congrArg Int32.toInt e
              rw [m1_toInt (by omega), m1_toInt (by omega)] at this
              omega
            · intro e
              rw [e]
          rw [f_e_inTheWayOf_55, if_neg (h.nsp hi), e_entry M (by omega), Option.bind_some, e_who h.L h.c8 hi, e_fal h.L h.c8 hi]
          unfold f_e_inTheWayOf_108
          rw [nI_1, nI_1]
          by_cases a1 : L < lf i
          · have pp : p i = true := by show (decide (L < lf i) || _) = true; simp [a1]
            rw [if_neg (fun e => by have := ef.mp e; omega), if_pos ((m1_ltm (by omega) (by omega)).mpr a1), if_pos pp]
          · have nl : ¬ nI L - 1 < nI (lf i) - 1 := fun e => a1 ((m1_ltm (by omega) (by omega)).mp e)
            rw [if_neg nl, if_neg nl]
            by_cases a2 : lf i = L
            · rw [if_pos (ef.mpr a2)]
              by_cases a3 : lw i = g
              · have pp : ¬ p i = true := by show ¬ (decide (L < lf i) || (decide (lf i = L) && !decide (lw i = g) && !decide (lw i = 8))) = true; simp [a1, a3]
                rw [if_pos (eg.mpr a3), if_neg pp] <;> rfl
              · rw [if_neg (fun e => a3 (eg.mp e))]
                by_cases a4 : lw i = 8
                · have pp : ¬ p i = true := by show ¬ (decide (L < lf i) || (decide (lf i = L) && !decide (lw i = g) && !decide (lw i = 8))) = true; simp [a1, a4]
                  rw [if_pos (e8.mpr a4), if_neg pp] <;> rfl
                · have pp : p i = true := by show (decide (L < lf i) || (decide (lf i = L) && !decide (lw i = g) && !decide (lw i = 8))) = true; simp [a2, a3, a4]
                  rw [if_neg (fun e => a4 (e8.mp e)), if_pos pp]
            · have pp : ¬ p i = true := by show ¬ (decide (L < lf i) || (decide (lf i = L) && !decide (lw i = g) && !decide (lw i = 8))) = true; simp [a1, a2]
              rw [if_neg (fun e => a2 (ef.mp e)), if_neg pp] <;> rfl
    · obtain ⟨q1, q2, q3, q4⟩ := h.L.lt h.c8 hi
      have hmx : mxL lf lw g i ≤ 199 := mxL_le (fun j hj => h.lf199 (show j < sp by omega))
      show f_e_inTheWayOf_4 N (n + 1) _ _ _ M = f_e_inTheWayOf_4 N n _ (nI (if lw i = g then max (mxL lf lw g i) (lf i) else mxL lf lw g i) - 1) _ M
      rw [f_e_inTheWayOf_4, if_neg (h.nsp hi), e_entry M (by omega), Option.bind_some, Option.bind_some, e_who h.L h.c8 hi, e_fal h.L h.c8 hi, nI_1]
      by_cases a : lw i = g
      · rw [if_pos ((nI_eq (by omega) (by omega)).mpr a), if_pos a]
        unfold f_k_max0
        by_cases b : mxL lf lw g i < lf i
        · rw [if_pos ((m1_ltm (by omega) (by omega)).mpr b), Nat.max_eq_right (by omega)]
        · rw [if_neg (fun e => b ((m1_ltm (by omega) (by omega)).mp e)), Nat.max_eq_left (by omega)]
      · rw [if_neg (fun q => a ((nI_eq (by omega) (by omega)).mp q)), if_neg a]
  have rE : f_m_unsaid_14 N N (nI g) (-1) 0 M = some (if L = 0 then -1 else nI (ct p sp)) := by
    refine run_loop (fun n a i => f_m_unsaid_14 N n (nI g) a i M) (fun i => nI (mxL lf lw g i) - 1) _ sp (fun n => ?_) (fun n i hi => ?_) N 0 (by omega) (by omega)
    · show f_m_unsaid_14 N (n + 1) _ _ _ M = _
      rw [f_m_unsaid_14, if_pos h.resp, hL]
      by_cases z : L = 0
      · rw [if_pos ((m1_eq (by omega)).mpr z), if_pos z]
      · rw [if_neg (fun q => z ((m1_eq (by omega)).mp q)), if_neg z]
        refine run_loop (fun n a i => f_m_unsaid_67 N n (nI g) (nI L - 1) a i M) (fun i => nI (ct p i)) _ sp (fun n => ?_) (fun n i hi => ?_) N 0 (by omega) (by omega)
        · show f_m_unsaid_67 N (n + 1) _ _ _ _ M = _
          rw [f_m_unsaid_67, if_pos h.resp]
        · obtain ⟨q1, q2, q3, q4⟩ := h.L.lt h.c8 hi
          show f_m_unsaid_67 N (n + 1) _ _ _ _ M = f_m_unsaid_67 N n _ _ (nI (ct p i + if p i = true then 1 else 0)) _ M
          have e8 : (nI (lw i) = (8 : Int32)) ↔ lw i = 8 := nI_eq (b := 8) (by omega) (by decide)
          have eg : (nI (lw i) = nI g) ↔ lw i = g := nI_eq (by omega) (by omega)
          have ef : (nI (lf i) - 1 = nI L - 1) ↔ lf i = L := by
            constructor
            · intro e
              have := congrArg Int32.toInt e
              rw [m1_toInt (by omega), m1_toInt (by omega)] at this
              omega
            · intro e
              rw [e]
          rw [f_m_unsaid_67, if_neg (h.rnsp hi), r_fal h.L h.c8 hs hi, Option.bind_some, Option.bind_some, r_who h.L h.c8 hs hi, Option.bind_some, Option.bind_some, nI_1, nI_1, Int32.add_zero]
          by_cases a1 : L < lf i
          · have pp : p i = true := by show (decide (L < lf i) || _) = true; simp [a1]
            rw [if_pos ((m1_ltm (by omega) (by omega)).mpr a1), if_pos pp]
          · have nl : ¬ nI L - 1 < nI (lf i) - 1 := fun e => a1 ((m1_ltm (by omega) (by omega)).mp e)
            rw [if_neg nl]
            by_cases a2 : lf i = L
            · rw [if_pos (ef.mpr a2)]
              by_cases a3 : lw i = g
              · have pp : ¬ p i = true := by show ¬ (decide (L < lf i) || (decide (lf i = L) && !decide (lw i = g) && !decide (lw i = 8))) = true; simp [a1, a3]
                rw [if_pos (eg.mpr a3), if_neg pp] <;> rfl
              · rw [if_neg (fun e => a3 (eg.mp e))]
                by_cases a4 : lw i = 8
                · have pp : ¬ p i = true := by show ¬ (decide (L < lf i) || (decide (lf i = L) && !decide (lw i = g) && !decide (lw i = 8))) = true; simp [a1, a4]
                  rw [if_pos (e8.mpr a4), if_neg pp] <;> rfl
                · have pp : p i = true := by show (decide (L < lf i) || (decide (lf i = L) && !decide (lw i = g) && !decide (lw i = 8))) = true; simp [a2, a3, a4]
                  rw [if_neg (fun e => a4 (e8.mp e)), if_pos pp]
            · have pp : ¬ p i = true := by show ¬ (decide (L < lf i) || (decide (lf i = L) && !decide (lw i = g) && !decide (lw i = 8))) = true; simp [a1, a2]
              rw [if_neg (fun e => a2 (ef.mp e)), if_neg pp] <;> rfl
    · obtain ⟨q1, q2, q3, q4⟩ := h.L.lt h.c8 hi
      have hmx : mxL lf lw g i ≤ 199 := mxL_le (fun j hj => h.lf199 (show j < sp by omega))
      show f_m_unsaid_14 N (n + 1) _ _ _ M = f_m_unsaid_14 N n _ (nI (if lw i = g then max (mxL lf lw g i) (lf i) else mxL lf lw g i) - 1) _ M
      rw [f_m_unsaid_14, if_neg (h.rnsp hi), r_who h.L h.c8 hs hi, Option.bind_some, r_fal h.L h.c8 hs hi, Option.bind_some, Option.bind_some, nI_1]
      by_cases a : lw i = g
      · rw [if_pos ((nI_eq (by omega) (by omega)).mpr a), if_pos a]
        by_cases b : lf i ≤ mxL lf lw g i
        · rw [if_pos ((m1_lem (by omega) (by omega)).mpr b), Nat.max_eq_left (by omega)]
        · rw [if_neg (fun e => b ((m1_lem (by omega) (by omega)).mp e)), Nat.max_eq_right (by omega)]
      · rw [if_neg (fun q => a ((nI_eq (by omega) (by omega)).mp q)), if_neg a]
  exact ⟨_, by rw [cE, Option.bind_some], rE, hM⟩
end REST
/-! who falls in a moment -/
def orb (lf lw : Nat → Nat) (v : Nat) : Nat → Nat
  | 0 => 0
  | n + 1 => if lf n = v then orb lf lw v n ||| bw (lw n) else orb lf lw v n
def exb (lf : Nat → Nat) (v : Nat) : Nat → Bool
  | 0 => false
  | n + 1 => exb lf v n || decide (lf n = v)
theorem orb_lt (lf lw : Nat → Nat) (v : Nat) : ∀ n, orb lf lw v n < 256
  | 0 => by show 0 < 256; decide
  | n + 1 => by
    show (if lf n = v then orb lf lw v n ||| bw (lw n) else orb lf lw v n) < 256
    split
    · exact Nat.or_lt_two_pow (n := 8) (orb_lt lf lw v n) (bw_lt _)
    · exact orb_lt lf lw v n
theorem orb_0 {lf lw : Nat → Nat} {v : Nat} : ∀ {n : Nat}, exb lf v n = false → orb lf lw v n = 0
  | 0, _ => rfl
  | n + 1, h => by
    have h1 : (exb lf v n || decide (lf n = v)) = false := h
    rw [Bool.or_eq_false_iff, decide_eq_false_iff_not] at h1
    show (if lf n = v then _ else orb lf lw v n) = 0
    rw [if_neg h1.2, orb_0 h1.1]
theorem hd_le (lf lw : Nat → Nat) (lim : Nat) : ∀ n, (hd lf lw lim n).1 ≤ lim
  | 0 => Nat.zero_le _
  | n + 1 => by
    have ih := hd_le lf lw lim n
    show (if lf n = 0 ∨ lim < lf n then hd lf lw lim n else jn (hd lf lw lim n) (lf n) (bw (lw n))).1 ≤ lim
    split
    · exact ih
    · unfold jn
      split
      · show lf n ≤ lim
        omega
      · split
        · exact ih
        · exact ih
theorem hd_next (lf lw : Nat → Nat) (v : Nat) : ∀ n, hd lf lw (v + 1) n = if exb lf (v + 1) n = true then (v + 1, orb lf lw (v + 1) n) else hd lf lw v n
  | 0 => rfl
  | n + 1 => by
    have ih := hd_next lf lw v n
    have hl := hd_le lf lw v n
    show (if lf n = 0 ∨ v + 1 < lf n then hd lf lw (v + 1) n else jn (hd lf lw (v + 1) n) (lf n) (bw (lw n))) = if (exb lf (v + 1) n || decide (lf n = v + 1)) = true then (v + 1, if lf n = v + 1 then orb lf lw (v + 1) n ||| bw (lw n) else orb lf lw (v + 1) n) else (if lf n = 0 ∨ v < lf n then hd lf lw v n else jn (hd lf lw v n) (lf n) (bw (lw n)))
    rw [ih]
    by_cases e : lf n = v + 1
    · have dq : (exb lf (v + 1) n || decide (lf n = v + 1)) = true := by simp [e]
      rw [if_neg (show ¬ (lf n = 0 ∨ v + 1 < lf n) by omega), if_pos dq, if_pos e, e]
      by_cases x : exb lf (v + 1) n = true
      · rw [if_pos x]
        unfold jn
        rw [if_neg (by omega), if_pos rfl]
      · rw [if_neg x, orb_0 (by simpa using x), Nat.zero_or]
        unfold jn
        rw [if_pos (by omega)]
    · have eo : (exb lf (v + 1) n || decide (lf n = v + 1)) = exb lf (v + 1) n := by simp [e]
      rw [eo, if_neg e]
      by_cases z : lf n = 0 ∨ v + 1 < lf n
      · rw [if_pos z, if_pos (show lf n = 0 ∨ v < lf n by omega)]
      · rw [if_neg z, if_neg (show ¬ (lf n = 0 ∨ v < lf n) by omega)]
        by_cases x : exb lf (v + 1) n = true
        · rw [if_pos x, if_pos x]
          unfold jn
          rw [if_neg (show ¬ v + 1 < lf n by omega), if_neg (show ¬ v + 1 = lf n by omega)]
        · rw [if_neg x, if_neg x]
theorem hd_0 (lf lw : Nat → Nat) : ∀ n, hd lf lw 0 n = (0, 0)
  | 0 => rfl
  | n + 1 => by
    show (if lf n = 0 ∨ 0 < lf n then hd lf lw 0 n else _) = _
    rw [if_pos (by omega), hd_0 lf lw n]
def falF (M : Mem) (lf lw : Nat → Nat) (i : Nat) : Nat → Int32 := fun t => if t < 100 then (if exb lf (t + 1) i = true then nI (orb lf lw (t + 1) i) else -1) else M.1 13 t
section HELD
variable {X : (Nat → Nat → Int32) → Nat → Prop} {N : Nat}
theorem o_31 (hX : XC X) (hN : 4000 ≤ N) : O_31 (Inv X) (Inv X) N := by
  intro M a hM
  obtain ⟨c, nt, mo, dr, gn, sp, lm, lw, lk, lf, bh, bd, h⟩ := hM.cx
  have hs := h.sp40
  have hc := h.c8
  have hmo := h.mo99
  rcases h.gcase a with ⟨e1, e2⟩ | ⟨g, hg, rfl, n1, n2⟩
  · refine ⟨-1, M, M, ?_, ?_, hM⟩
    · unfold f_w_held
      rw [if_pos e1]
    · unfold f_m_held
      rw [if_pos e2]
  let p : Nat → Bool := fun t => (hd lf lw (t + 1) sp).2.testBit g
  have T : ∀ F : Nat → Int32, Cx (sr M 13 F) M c nt mo dr gn sp lm lw lk lf bh bd := fun F => h.toc rfl rfl
  have g13 : ∀ (F : Nat → Int32) (i : Nat), gi (sr M 13 F) 13 i = F i := fun F i => by rw [gi_sr, if_pos rfl]
  have fil : f_k_fill0_13 N (-1) M = some (sr M 13 (falF M lf lw 0)) := by
    unfold f_k_fill0_13
    have := run_loop (fun n a i => f_k_fill0_13_5 N n (-1) i 100 (sr M 13 a)) (fun i => fun t => if t < i then -1 else M.1 13 t) (some (sr M 13 (falF M lf lw 0))) 100 (fun n => ?_) (fun n i hi => ?_) N 0 (by omega) (by omega)
    · have t2 : f_k_fill0_13_5 N N (-1) (nI 0) 100 (sr M 13 (fun t => if t < 0 then -1 else M.1 13 t)) = _ := this
      have e0 : (fun t => if t < 0 then (-1 : Int32) else M.1 13 t) = M.1 13 := by
        funext t
        rw [if_neg (by omega)]
      rw [e0, sr_self] at t2
      exact t2
    · show f_k_fill0_13_5 N (n + 1) (-1) (nI 100) 100 (sr M 13 (fun t => if t < 100 then -1 else M.1 13 t)) = _
      rw [f_k_fill0_13_5, if_pos (show (100 : Int32) ≤ nI 100 by decide)]
      congr 2
    · show f_k_fill0_13_5 N (n + 1) (-1) (nI i) 100 (sr M 13 _) = f_k_fill0_13_5 N n (-1) (nI (i + 1)) 100 (sr M 13 _)
      rw [f_k_fill0_13_5, if_neg (show ¬ (100 : Int32) ≤ nI i from nI_ge (b := 100) hi (by decide)), if_pos (am_in_nI hi (by decide)), nI_clamp (by omega), si_of_sr, Option.bind_some, nI_1]
      congr 2
      funext t
      rw [upd_get]
      by_cases e : t = i
      · rw [if_pos e, if_pos (by omega)]
      · rw [if_neg e]
        by_cases q : t < i
        · rw [if_pos q, if_pos (by omega)]
        · rw [if_neg q, if_neg (by omega)]
  have l80 : f_e_momentsHeld_80 N N (nI (2 ^ g)) 0 0 0 (sr M 13 (falF M lf lw sp)) = some (nI (ct p mo), sr M 13 (falF M lf lw sp)) := by
    have t := run_loop (fun n (u : Int32 × Int32) i => f_e_momentsHeld_80 N n (nI (2 ^ g)) u.1 u.2 i (sr M 13 (falF M lf lw sp))) (fun i => (nI (hd lf lw i sp).2, nI (ct p i))) (some (nI (ct p mo), sr M 13 (falF M lf lw sp))) mo (fun n => ?_) (fun n i hi => ?_) N 0 (by omega) (by omega)
    · have t2 : f_e_momentsHeld_80 N N (nI (2 ^ g)) (nI (hd lf lw 0 sp).2) (nI (ct p 0)) (nI 0) (sr M 13 (falF M lf lw sp)) = _ := t
      rw [hd_0] at t2
      exact t2
    · show f_e_momentsHeld_80 N (n + 1) _ (nI _) (nI _) (nI mo) (sr M 13 (falF M lf lw sp)) = _
      rw [f_e_momentsHeld_80, show f_e_moment (sr M 13 (falF M lf lw sp)) = nI mo from h.mo12, if_pos (nI_le (Nat.le_refl _) (by omega))]
    · show f_e_momentsHeld_80 N (n + 1) _ (nI (hd lf lw i sp).2) (nI (ct p i)) (nI i) (sr M 13 (falF M lf lw sp)) = f_e_momentsHeld_80 N n _ (nI (hd lf lw (i + 1) sp).2) (nI (ct p i + if p i = true then 1 else 0)) (nI (i + 1)) (sr M 13 (falF M lf lw sp))
      rw [f_e_momentsHeld_80, show f_e_moment (sr M 13 (falF M lf lw sp)) = nI mo from h.mo12, if_neg (nI_ge hi (by omega)), if_neg (show ¬ (99 : Int32) < nI i from nI_nlt (a := 99) (by omega) (by omega)), if_pos (am_in_nI (by omega) (by decide)), if_pos (am_in_nI (by omega) (by decide)), nI_clamp (by omega), g13]
      have key : ∀ s, s = (hd lf lw (i + 1) sp).2 → f_e_momentsHeld_118 N (f_e_momentsHeld_80 N n) (nI (2 ^ g)) (nI (ct p i)) (nI i) (nI s) (sr M 13 (falF M lf lw sp)) = f_e_momentsHeld_80 N n (nI (2 ^ g)) (nI (hd lf lw (i + 1) sp).2) (nI (ct p i + if p i = true then 1 else 0)) (nI (i + 1)) (sr M 13 (falF M lf lw sp)) := by
        intro s e
        subst e
        have h256 := (h.hdok (i + 1)).2
        unfold f_e_momentsHeld_118
        rw [nI_1, nI_1, Int32.add_zero]
        by_cases q : (hd lf lw (i + 1) sp).2.testBit g = true
        · rw [if_neg (fun e => by have := (tbm h256 (by omega)).mp e; rw [q] at this; cases this), if_pos (show p i = true from q)]
        · rw [if_pos ((tbm h256 (by omega)).mpr (by simpa using q)), if_neg (show ¬ p i = true from q)] <;> rfl
      have hn := hd_next lf lw i sp
      unfold falF
      rw [if_pos (show i < 100 by omega)]
      by_cases x : exb lf (i + 1) sp = true
      · rw [if_pos x] at hn
        rw [if_pos x, if_neg (nI_ne_m1 (by have := orb_lt lf lw (i + 1) sp; omega))]
        exact key _ (by rw [hn])
      · rw [if_neg x] at hn
        rw [if_neg x, if_pos rfl]
        exact key _ (by rw [hn])
  have l10 : f_e_momentsHeld_10 N N (nI (2 ^ g)) 0 (sr M 13 (falF M lf lw 0)) = some (nI (ct p mo), sr M 13 (falF M lf lw sp)) := by
    refine run_loop (fun n a i => f_e_momentsHeld_10 N n (nI (2 ^ g)) i (sr M 13 a)) (fun i => falF M lf lw i) _ sp (fun n => ?_) (fun n i hi => ?_) N 0 (by omega) (by omega)
    · show f_e_momentsHeld_10 N (n + 1) _ (nI sp) (sr M 13 (falF M lf lw sp)) = _
      rw [f_e_momentsHeld_10, if_pos (T _).esp, l80]
    · obtain ⟨q1, q2, q3, q4⟩ := h.L.lt h.c8 hi
      have h' := T (falF M lf lw i)
      show f_e_momentsHeld_10 N (n + 1) _ (nI i) (sr M 13 (falF M lf lw i)) = f_e_momentsHeld_10 N n _ (nI (i + 1)) (sr M 13 (falF M lf lw (i + 1)))
      rw [f_e_momentsHeld_10, if_neg (h'.nsp hi), e_entry _ (by omega), Option.bind_some, e_fal h'.L h.c8 hi, e_who h'.L h.c8 hi, c_bit (by omega), nI_1]
      by_cases q : 1 ≤ lf i ∧ lf i ≤ 100
      · obtain ⟨v, hv⟩ : ∃ v, lf i = v + 1 := ⟨lf i - 1, by omega⟩
        rw [hv, nI_pred, if_neg (show ¬ f_w_within (nI v) 0 99 _ = 0 from within_yes _ (n := 99) (by omega) (by decide)), if_pos (am_in_nI (by omega) (by decide)), if_pos (am_in_nI (by omega) (by decide)), nI_clamp (by omega), g13, si_of_sr, Option.bind_some]
        congr 2
        funext t
        rw [upd_get]
        by_cases e : t = v
        · rw [if_pos e, e]
          unfold falF
          rw [if_pos (show v < 100 by omega), if_pos (show v < 100 by omega)]
          have ex : exb lf (v + 1) (i + 1) = true := by show (exb lf (v + 1) i || decide (lf i = v + 1)) = true; simp [hv]
          have eo : orb lf lw (v + 1) (i + 1) = orb lf lw (v + 1) i ||| bw (lw i) := by show (if lf i = v + 1 then _ else _) = _; rw [if_pos hv]
          rw [if_pos ex, eo]
          unfold f_k_max0
          by_cases x : exb lf (v + 1) i = true
          · rw [if_pos x, if_neg (nI_pos (by have := orb_lt lf lw (v + 1) i; omega)), fa_or]
          · rw [if_neg x, if_pos (by decide), show (0 : Int32) = nI 0 from rfl, fa_or, orb_0 (by simpa using x)]
        · rw [if_neg e]
          unfold falF
          by_cases t1 : t < 100
          · have ex : exb lf (t + 1) (i + 1) = exb lf (t + 1) i := by show (exb lf (t + 1) i || decide (lf i = t + 1)) = _; simp [hv, show ¬ v = t by omega]
            have eo : orb lf lw (t + 1) (i + 1) = orb lf lw (t + 1) i := by show (if lf i = t + 1 then _ else _) = _; rw [if_neg (by omega)]
            rw [if_pos t1, if_pos t1, ex, eo]
          · rw [if_neg t1, if_neg t1]
      · have ew : f_w_within (nI (lf i) - 1) 0 99 (sr M 13 (falF M lf lw i)) = 0 := by
          rw [within_iff]
          by_cases z : lf i = 0
          · exact Or.inl ((m1_neg (by omega)).mpr z)
          · right
            rw [Int32.lt_iff_toInt_lt, m1_toInt (by omega)]
            have : (99 : Int32).toInt = 99 := by decide
            omega
        rw [if_pos ew]
        congr 2
        funext t
        unfold falF
        by_cases t1 : t < 100
        · have ex : exb lf (t + 1) (i + 1) = exb lf (t + 1) i := by show (exb lf (t + 1) i || decide (lf i = t + 1)) = _; simp [show ¬ lf i = t + 1 by omega]
          have eo : orb lf lw (t + 1) (i + 1) = orb lf lw (t + 1) i := by show (if lf i = t + 1 then _ else _) = _; rw [if_neg (by omega)]
          rw [if_pos t1, if_pos t1, ex, eo]
        · rw [if_neg t1, if_neg t1]
  have cE : f_w_held N (nI g) M = some (nI (ct p mo), sr M 13 (falF M lf lw sp)) := by
    unfold f_w_held f_e_momentsHeld
    rw [if_neg n1, one_shl (by omega), fil, Option.bind_some, l10, Option.bind_some]
  have hM1 : Inv X (sr M 13 (falF M lf lw sp)) := hM.fr (W := [13]) hX (fun k hk => ⟨by rw [sr_1, if_neg (by simpa using hk)], rfl⟩) (by decide +kernel) ⟨rfl, rfl, rfl⟩
  have h1 : Cx (sr M 13 (falF M lf lw sp)) (sr M 13 (falF M lf lw sp)) c nt mo dr gn sp lm lw lk lf bh bd := (T _).to rfl
  generalize sr M 13 (falF M lf lw sp) = M1 at cE hM1 h1
  have go : ∀ n i M', Hm M1 M' → i ≤ mo → mo < i + n → ∃ M2, f_m_held_14 N n (nI g) (nI (ct p i)) (nI i) M' = some (nI (ct p mo), M2) ∧ Hm M1 M2 := by
    intro n
    induction n with
    | zero => intro i M' _ a b; omega
    | succ n ih =>
      intro i M' hH a b
      have h' := hH.cx h1
      rw [f_m_held_14, show gi M' 130 2 = nI mo from h'.mo130]
      by_cases e : i = mo
      · subst e
        exact ⟨M', by rw [if_pos (nI_le (Nat.le_refl _) (by omega))], hH⟩
      · have hb := r_holdBy (N := N) (lim := i + 1) h'.L h'.c8 h'.sp40 h'.sp130 (by omega) (by omega)
        rw [nI_pred] at hb
        have h256 := (h.hdok (i + 1)).2
        rw [if_neg (nI_ge (by omega) (by omega)), hb, Option.bind_some, tb h256 (by omega), nI_1, hH.wh]
        obtain ⟨M2, m1, m2⟩ := ih (i + 1) (hm M1 (hd lf lw (i + 1) sp)) (Or.inr ⟨_, rfl⟩) (by omega) (by omega)
        refine ⟨M2, ?_, m2⟩
        rw [← m1]
        show f_m_held_14 N n (nI g) (nI (ct p i) + (if p i = true then 1 else 0)) _ _ = f_m_held_14 N n (nI g) (nI (ct p i + if p i = true then 1 else 0)) _ _
        by_cases q : p i = true
        · rw [if_pos q, if_pos q, nI_1]
        · rw [if_neg q, if_neg q, Int32.add_zero] <;> rfl
  obtain ⟨M2, m1, m2⟩ := go N 0 M1 (Or.inl rfl) (by omega) (by omega)
  refine ⟨nI (ct p mo), M1, M2, cE, ?_, m2.inv hX hM1⟩
  unfold f_m_held
  rw [if_neg ((h1.isG _).mpr ⟨g, hg, rfl⟩)]
  exact m1
end HELD
/-! whose toast is next -/
section TOAST
variable {Mc Mr : Mem} {c nt mo dr gn sp : Nat} {lm lw lk lf bh bd : Nat → Nat} {N : Nat}
theorem nextBy_sim (hN : 4000 ≤ N) (h : Cx Mc Mr c nt mo dr gn sp lm lw lk lf bh bd) (hrk : ∀ g, g < c → Mc.1 8 g = Mr.1 130 (12 + 7 * g)) (hT : ∀ g, g < c → Mc.1 112 g = Mr.1 141 g) : ∃ v, f_w_nextByToasts N Mc = some v ∧ f_m_nextBy N Mr = some v ∧ ((v = -1 ∧ ∀ g, g < c → gn.testBit g = true) ∨ ∃ b, b < c ∧ v = nI b ∧ ¬ gn.testBit b = true) := by
  have hc := h.c8
  have go : ∀ n g b, g ≤ c → c < g + n → ((b = -1 ∧ ∀ g', g' < g → gn.testBit g' = true) ∨ ∃ b', b' < c ∧ b = nI b' ∧ ¬ gn.testBit b' = true) → ∃ v, f_w_nextByToasts_15 N n b (nI g) Mc = some v ∧ f_m_nextBy_4 N n b (nI g) Mr = some v ∧ ((v = -1 ∧ ∀ g, g < c → gn.testBit g = true) ∨ ∃ b, b < c ∧ v = nI b ∧ ¬ gn.testBit b = true) := by
    intro n
    induction n with
    | zero => intro g b h1 h2; omega
    | succ n ih =>
      intro g b h1 h2 hb
      rw [f_w_nextByToasts_15, f_m_nextBy_4]
      by_cases e : g = c
      · subst e
        exact ⟨b, by rw [if_pos h.ecn], by rw [if_pos h.recn], hb⟩
      · have hg : g < c := by omega
        have gin : am_in (nI g) 8 = true := am_in_nI (by omega) (by decide)
        have gcl : (nI g).toNatClampNeg = g := nI_clamp (by omega)
        rw [if_neg (h.ncn hg), if_neg (h.rncn hg), h.cis hg, h.ris hg, Option.bind_some, nI_1]
        by_cases q : gn.testBit g = true
        · rw [if_pos q, if_pos (show (0 : Int32) = 0 from rfl), if_pos (show (0 : Int32) = 0 from rfl)]
          refine ih (g + 1) b (by omega) (by omega) ?_
          rcases hb with ⟨b1, b2⟩ | b1
          · refine Or.inl ⟨b1, fun g' hg' => ?_⟩
            by_cases e2 : g' = g
            · rw [e2]; exact q
            · exact b2 g' (by omega)
          · exact Or.inr b1
        · rw [if_neg q, if_neg (show ¬ (1 : Int32) = 0 by decide), if_neg (show ¬ (1 : Int32) = 0 by decide)]
          have ihg := ih (g + 1) (nI g) (by omega) (by omega) (Or.inr ⟨g, hg, rfl, q⟩)
          rcases hb with ⟨rfl, b2⟩ | ⟨b', hb', rfl, hbt⟩
          · rw [if_pos (show (-1 : Int32) < 0 by decide), if_pos (show (-1 : Int32) = -1 from rfl)]
            exact ihg
          · have ihb := ih (g + 1) (nI b') (by omega) (by omega) (Or.inr ⟨b', hb', rfl, hbt⟩)
            have bin : am_in (nI b') 8 = true := am_in_nI (by omega) (by decide)
            have bcl : (nI b').toNatClampNeg = b' := nI_clamp (by omega)
            have G0 : ∀ j, j < c → f_m_get (nI j) (0 : Int32) Mr = some (Mc.1 8 j) := fun j hj => by
              have := r_get (g := j) (w := 0) (by omega) (by omega) Mr
              rw [show 12 + 7 * j + 0 = 12 + 7 * j from rfl, ← hrk j hj] at this
              exact this
            rw [if_neg (nI_pos (by omega)), if_neg (nI_ne_m1 (by omega)), if_pos gin, if_pos bin, if_pos gin, if_pos bin, if_pos gin, if_pos bin, if_pos gin, if_pos bin, if_pos gin, if_pos bin, gcl, bcl, G0 g hg, Option.bind_some, G0 b' hb', Option.bind_some, show gi Mr 141 g = gi Mc 112 g from (hT g hg).symm, show gi Mr 141 b' = gi Mc 112 b' from (hT b' hb').symm, show gi Mc 8 g = Mc.1 8 g from rfl, show gi Mc 8 b' = Mc.1 8 b' from rfl]
            by_cases z1 : gi Mc 112 g < gi Mc 112 b'
            · rw [if_pos z1, if_pos z1]
              exact ihg
            · rw [if_neg z1, if_neg z1]
              by_cases z2 : gi Mc 112 g = gi Mc 112 b'
              · rw [if_pos z2, if_pos z2]
                by_cases z3 : Mc.1 8 g ≤ Mc.1 8 b'
                · rw [if_pos z3, if_pos z3]
                  exact ihb
                · rw [if_neg z3, if_neg z3]
                  exact ihg
              · rw [if_neg z2, if_neg z2]
                exact ihb
  exact go N 0 (-1) (by omega) (by omega) (Or.inl ⟨rfl, fun g' hg' => by omega⟩)
theorem c_lay (hN : 4000 ≤ N) (h : Cx Mc Mr c nt mo dr gn sp lm lw lk lf bh bd) : ∃ M1, f_w_countToasts N Mc = some M1 ∧ (∀ q, q ≠ 112 → M1.1 q = Mc.1 q) ∧ M1.2 = Mc.2 ∧ ∀ g, g < 8 → M1.1 112 g = nI (ct (fun i => decide (lw i = g) && decide (lk i = 2)) sp) := by
  refine ⟨sr Mc 112 (fun j => if j < 8 then nI (ct (fun i => decide (lw i = j) && decide (lk i = 2)) sp) else Mc.1 112 j), ?_, fun q hq => by rw [sr_1, if_neg hq], rfl, fun g hg => by rw [sr_1, if_pos rfl, if_pos hg]⟩
  unfold f_w_countToasts
  have := run_loop (fun n a i => f_w_countToasts_2 N n i (sr Mc 112 a)) (fun i => fun j => if j < i then nI (ct (fun i => decide (lw i = j) && decide (lk i = 2)) sp) else Mc.1 112 j) (some (sr Mc 112 (fun j => if j < 8 then nI (ct (fun i => decide (lw i = j) && decide (lk i = 2)) sp) else Mc.1 112 j))) 8 (fun n => ?_) (fun n i hi => ?_) N 0 (by omega) (by omega)
  · have t2 : f_w_countToasts_2 N N (nI 0) (sr Mc 112 (fun j => if j < 0 then nI (ct (fun i => decide (lw i = j) && decide (lk i = 2)) sp) else Mc.1 112 j)) = _ := this
    have e0 : (fun j => if j < 0 then nI (ct (fun i => decide (lw i = j) && decide (lk i = 2)) sp) else Mc.1 112 j) = Mc.1 112 := by
      funext j
      rw [if_neg (by omega)]
    rw [e0, sr_self] at t2
    exact t2
  · show f_w_countToasts_2 N (n + 1) (nI 8) (sr Mc 112 _) = _
    rw [f_w_countToasts_2, if_pos (show (8 : Int32) ≤ nI 8 by decide)]
  · show f_w_countToasts_2 N (n + 1) (nI i) (sr Mc 112 _) = f_w_countToasts_2 N n (nI (i + 1)) (sr Mc 112 _)
    have h' : Cx (sr Mc 112 (fun j => if j < i then nI (ct (fun i => decide (lw i = j) && decide (lk i = 2)) sp) else Mc.1 112 j)) Mr c nt mo dr gn sp lm lw lk lf bh bd := h.toc rfl rfl
    have hcn := h'.count hN (g := i) (k := 2) (by omega) (by omega)
    rw [f_w_countToasts_2, if_neg (show ¬ (8 : Int32) ≤ nI i from nI_ge (b := 8) hi (by decide)), show f_e_countOf N (nI i) (2 : Int32) _ = _ from hcn, Option.bind_some, if_pos (am_in_nI hi (by decide)), nI_clamp (by omega), si_of_sr, Option.bind_some, nI_1]
    congr 2
    funext j
    rw [upd_get]
    by_cases e : j = i
    · rw [if_pos e, if_pos (by omega), e]
    · rw [if_neg e]
      by_cases q : j < i
      · rw [if_pos q, if_pos (by omega)]
      · rw [if_neg q, if_neg (by omega)]
theorem r_lay (hN : 4000 ≤ N) : f_m_layToasts N Mr = some (sr Mr 141 (fun j => if j < 8 then Mr.1 130 (17 + 7 * j) else Mr.1 141 j)) := by
  unfold f_m_layToasts
  have := run_loop (fun n a i => f_m_layToasts_2 N n i (sr Mr 141 a)) (fun i => fun j => if j < i then Mr.1 130 (17 + 7 * j) else Mr.1 141 j) (some (sr Mr 141 (fun j => if j < 8 then Mr.1 130 (17 + 7 * j) else Mr.1 141 j))) 8 (fun n => ?_) (fun n i hi => ?_) N 0 (by omega) (by omega)
  · have t2 : f_m_layToasts_2 N N (nI 0) (sr Mr 141 (fun j => if j < 0 then Mr.1 130 (17 + 7 * j) else Mr.1 141 j)) = _ := this
    have e0 : (fun j => if j < 0 then Mr.1 130 (17 + 7 * j) else Mr.1 141 j) = Mr.1 141 := by
      funext j
      rw [if_neg (by omega)]
    rw [e0, sr_self] at t2
    exact t2
  · show f_m_layToasts_2 N (n + 1) (nI 8) (sr Mr 141 _) = _
    rw [f_m_layToasts_2, if_pos (show (8 : Int32) ≤ nI 8 by decide)]
  · show f_m_layToasts_2 N (n + 1) (nI i) (sr Mr 141 _) = f_m_layToasts_2 N n (nI (i + 1)) (sr Mr 141 _)
    have G5 : f_m_get (nI i) (5 : Int32) (sr Mr 141 (fun j => if j < i then Mr.1 130 (17 + 7 * j) else Mr.1 141 j)) = some (Mr.1 130 (17 + 7 * i)) := by
      have := r_get (g := i) (w := 5) (by omega) (by omega) (sr Mr 141 (fun j => if j < i then Mr.1 130 (17 + 7 * j) else Mr.1 141 j))
      rw [show 12 + 7 * i + 5 = 17 + 7 * i by omega] at this
      exact this
    rw [f_m_layToasts_2, if_neg (show ¬ (8 : Int32) ≤ nI i from nI_ge (b := 8) hi (by decide)), G5, Option.bind_some, if_pos (am_in_nI hi (by decide)), nI_clamp (by omega), si_of_sr, Option.bind_some, nI_1]
    congr 2
    funext j
    rw [upd_get]
    by_cases e : j = i
    · rw [if_pos e, if_pos (by omega), e]
    · rw [if_neg e]
      by_cases q : j < i
      · rw [if_pos q, if_pos (by omega)]
      · rw [if_neg q, if_neg (by omega)]
/-- both lay the same, ready for the next -/
theorem lay2 (hN : 4000 ≤ N) {M : Mem} (hM : Inv LX M) : ∃ (c nt mo dr gn sp : Nat) (lm lw lk lf bh bd : Nat → Nat) (M1 : Mem), c ≤ 8 ∧ f_w_countToasts N M = some M1 ∧ f_m_layToasts N M1 = some (sr M1 141 (fun j => if j < 8 then M1.1 130 (17 + 7 * j) else M1.1 141 j)) ∧ Cx M M c nt mo dr gn sp lm lw lk lf bh bd ∧ Cx M1 (sr M1 141 (fun j => if j < 8 then M1.1 130 (17 + 7 * j) else M1.1 141 j)) c nt mo dr gn sp lm lw lk lf bh bd ∧ Cx M1 M1 c nt mo dr gn sp lm lw lk lf bh bd ∧ (∀ g, g < c → M1.1 8 g = M1.1 130 (12 + 7 * g)) ∧ (∀ g, g < c → M1.1 112 g = (sr M1 141 (fun j => if j < 8 then M1.1 130 (17 + 7 * j) else M1.1 141 j)).1 141 g) ∧ Inv LX M1 := by
  obtain ⟨c, t, S, -⟩ := hM.stp
  obtain ⟨nt, mo, dr, gn, sp, lm, lw, lk, lf, bh, bd, h⟩ := S.cx
  have hc := h.c8
  obtain ⟨M1, e1, e2, e3, e4⟩ := c_lay hN h
  have h1 : Cx M1 M1 c nt mo dr gn sp lm lw lk lf bh bd := (h.toc (e2 7 (by omega)) (e2 12 (by omega))).to (e2 130 (by omega))
  refine ⟨c, nt, mo, dr, gn, sp, lm, lw, lk, lf, bh, bd, M1, hc, e1, r_lay hN, h, h1.to rfl, h1, fun g hg => ?_, fun g hg => ?_, ?_⟩
  · obtain ⟨r, -, r2, r3⟩ := S.rk hg
    rw [e2 8 (by omega), e2 130 (by omega), r2, r3]
  · rw [sr_1, if_pos rfl, if_pos (by omega), e4 g (by omega), h1.g5 hg]
  · exact hM.fr (W := [112]) LX_ok (fun k hk => ⟨e2 k (by simpa using hk), by rw [e3]⟩) (by decide +kernel) ⟨by rw [e2 129 (by omega)], by rw [e2 129 (by omega)], by rw [e2 129 (by omega)]⟩
theorem o_36 (hN : 4000 ≤ N) : O_36 (Inv LX) (Inv LX) N := by
  intro M hM
  obtain ⟨c, nt, mo, dr, gn, sp, lm, lw, lk, lf, bh, bd, M1, hc, e1, e2, h, h1, h2, hrk, hT, hI⟩ := lay2 hN hM
  generalize hM2 : sr M1 141 (fun j => if j < 8 then M1.1 130 (17 + 7 * j) else M1.1 141 j) = M2 at e2 h1 hT
  obtain ⟨v, v1, v2, -⟩ := nextBy_sim hN h1 (fun g hg => by rw [← hM2]; exact hrk g hg) hT
  refine ⟨v, M1, M2, ?_, ?_, ?_⟩
  · unfold f_w_nextToast
    rw [e1, Option.bind_some, v1, Option.bind_some]
  · unfold f_m_nextToast
    rw [e2, Option.bind_some, v2, Option.bind_some]
  · exact hI.fr (W := [141]) LX_ok (fun k hk => ⟨by rw [← hM2, sr_1, if_neg (by simpa using hk)], by rw [← hM2]; rfl⟩) (by decide +kernel) ⟨by rw [← hM2]; rfl, by rw [← hM2]; rfl, by rw [← hM2]; rfl⟩
theorem round_go (hN : 4000 ≤ N) {i : Nat} (hi : i ≤ 100) (hc : c ≤ 8) (hth : ∃ g, g < c ∧ ¬ gn.testBit g = true) : ∀ (n k : Nat) (Mc Mr : Mem) (v0 : Int32), Cx Mc Mr c nt mo dr gn sp lm lw lk lf bh bd → (∀ g, g < c → Mc.1 8 g = Mr.1 130 (12 + 7 * g)) → (∀ g, g < c → Mc.1 112 g = Mr.1 141 g) → k ≤ i → i < k + n → f_m_nextBy N Mr = some v0 → ∃ v Mc' Mr', f_w_round_29 N n (nI i) (nI k) Mc = some (v, Mc') ∧ f_m_round_42 N n (nI i) v0 (nI k) Mr = some (v, Mr') ∧ (∀ q, q ≠ 112 → Mc'.1 q = Mc.1 q) ∧ (∀ q, q ≠ 141 → Mr'.1 q = Mr.1 q) ∧ Mc'.2 = Mc.2 ∧ Mr'.2 = Mr.2 := by
  intro n
  induction n with
  | zero => intro k Mc Mr v0 _ _ _ h1 h2; omega
  | succ n ih =>
    intro k Mc Mr v0 h hrk hT h1 h2 hv
    obtain ⟨v, v1, v2, v3⟩ := nextBy_sim hN h hrk hT
    rw [hv] at v2
    obtain rfl := Option.some.inj v2
    rw [f_w_round_29, f_m_round_42, v1, Option.bind_some]
    by_cases e : k = i
    · subst e
      have le : nI k ≤ nI k := Int32.le_refl _
      exact ⟨v0, Mc, Mr, by rw [if_pos le], by rw [if_pos le], fun _ _ => rfl, fun _ _ => rfl, rfl, rfl⟩
    · have nle : ¬ nI i ≤ nI k := nI_ge (by omega) (by omega)
      rcases v3 with ⟨-, z⟩ | ⟨b, hb, rfl, hbt⟩
      · obtain ⟨g, g1, g2⟩ := hth
        exact absurd (z g g1) g2
      · have bin : am_in (nI b) 8 = true := am_in_nI (by omega) (by decide)
        have bcl : (nI b).toNatClampNeg = b := nI_clamp (by omega)
        have h' : Cx (si Mc 112 b (gi Mc 112 b + 1)) (si Mr 141 b (gi Mr 141 b + 1)) c nt mo dr gn sp lm lw lk lf bh bd := (h.toc (M1 := si Mc 112 b (gi Mc 112 b + 1)) rfl rfl).to rfl
        have hT' : ∀ g, g < c → (si Mc 112 b (gi Mc 112 b + 1)).1 112 g = (si Mr 141 b (gi Mr 141 b + 1)).1 141 g := by
          intro g hg
          show upd (Mc.1 112) b (Mc.1 112 b + 1) g = upd (Mr.1 141) b (Mr.1 141 b + 1) g
          rw [upd_get, upd_get, hT b hb, hT g hg]
        obtain ⟨w, w1, w2, -⟩ := nextBy_sim hN h' hrk hT'
        obtain ⟨v, M3, M4, r1, r2, r3, r4, r5, r6⟩ := ih (k + 1) _ _ w h' hrk hT' (by omega) (by omega) w2
        refine ⟨v, M3, M4, ?_, ?_, fun q hq => ?_, fun q hq => ?_, by rw [r5]; rfl, by rw [r6]; rfl⟩
        · rw [if_neg nle, Option.bind_some, if_neg ((h.knows _).mpr ⟨b, hb, rfl⟩), if_pos bin, if_pos bin, bcl, Option.bind_some, nI_1, r1]
        · rw [if_neg nle, if_pos bin, if_pos bin, bcl, Option.bind_some, w2, Option.bind_some, nI_1, r2]
        · rw [r3 q hq, si_1, if_neg hq]
        · rw [r4 q hq, si_1, if_neg hq]
theorem o_33 (hN : 4000 ≤ N) : O_33 (Inv LX) (Inv LX) N := by
  intro M a b hM
  by_cases q1 : f_w_within a 1 20 M = 0
  · exact ⟨-1, M, M, by unfold f_w_round; rw [if_pos q1], by unfold f_m_round; rw [isIn_eq a _ _ M M, if_pos q1], hM⟩
  by_cases q2 : f_w_within b 0 (a - 1) M = 0
  · exact ⟨-1, M, M, by unfold f_w_round; rw [if_neg q1, if_pos q2], by unfold f_m_round; rw [isIn_eq a _ _ M M, isIn_eq b _ _ M M, if_neg q1, if_pos q2], hM⟩
  obtain ⟨n, n1, n2, rfl⟩ := within_1 (n := 20) (by decide) q1
  obtain ⟨i, hi, rfl⟩ := (below_iff M (by omega)).mp q2
  obtain ⟨c, nt, mo, dr, gn, sp, lm, lw, lk, lf, bh, bd, M1, hc, e1, e2, h, h1, h2, hrk, hT, hI⟩ := lay2 hN hM
  have q1' : ¬ f_m_isIn (nI n) 1 20 M1 = 0 := q1
  have q2' : ¬ f_m_isIn (nI i) 0 (nI n - 1) M1 = 0 := q2
  generalize hM2 : sr M1 141 (fun j => if j < 8 then M1.1 130 (17 + 7 * j) else M1.1 141 j) = M2 at e2 h1 hT
  have hrk2 : ∀ g, g < c → M1.1 8 g = M2.1 130 (12 + 7 * g) := fun g hg => by rw [← hM2]; exact hrk g hg
  obtain ⟨v, v1, v2, v3⟩ := nextBy_sim hN h1 hrk2 hT
  by_cases z : th c gn = 0
  · have zz : ∀ g, g < c → gn.testBit g = true := fun g hg => by
      have := th_tb (c := c) (gn := gn) (g := g)
      rw [z, Nat.zero_testBit] at this
      simpa [hg] using this.symm
    refine ⟨-1, M1, M1, ?_, ?_, hI⟩
    · unfold f_w_round
      rw [if_neg q1, if_neg q2, e1, Option.bind_some]
      obtain ⟨m, rfl⟩ : ∃ m, N = m + 1 := ⟨N - 1, by omega⟩
      have vm : v = -1 := by
        rcases v3 with ⟨e, -⟩ | ⟨b, hb, -, hbt⟩
        · exact e
        · exact absurd (zz b hb) hbt
      rw [f_w_round_29, v1, Option.bind_some, Option.bind_some, vm, if_pos (show f_g_knows (-1) M1 = 0 from Decidable.not_not.mp (fun e => by obtain ⟨g, hg, e2⟩ := (h2.knows _).mp e; exact nI_ne_m1 (by omega) e2.symm))]
      split <;> rfl
    · unfold f_m_round
      rw [if_neg q1', if_neg q2', h2.rthere hN, Option.bind_some, z, if_pos (show nI 0 = (0 : Int32) from rfl)]
  · have hth : ∃ g, g < c ∧ ¬ gn.testBit g = true := by
      apply Classical.byContradiction
      intro ne
      apply z
      apply Nat.eq_of_testBit_eq
      intro g
      rw [th_tb, Nat.zero_testBit]
      by_cases hg : g < c
      · have : gn.testBit g = true := Classical.byContradiction (fun e => ne ⟨g, hg, e⟩)
        simp [hg, this]
      · simp [hg, lt_tb h.gnl (show c ≤ g by omega)]
    obtain ⟨w, M3, M4, r1, r2, r3, r4, r5, r6⟩ := round_go hN (i := i) (by omega) hc hth N 0 M1 M2 v h1 hrk2 hT (by omega) (by omega) v2
    have hth0 : ¬ nI (th c gn) = 0 := nI_ne0 (by omega) (by have := h.thl; omega)
    have hI3 : Inv LX M3 := hI.fr (W := [112]) LX_ok (fun k hk => ⟨r3 k (by simpa using hk), by rw [r5]⟩) (by decide +kernel) ⟨by rw [r3 129 (by omega)], by rw [r3 129 (by omega)], by rw [r3 129 (by omega)]⟩
    have e130 : M3.1 130 = M1.1 130 := r3 130 (by omega)
    have h3 : Cx M1 M3 c nt mo dr gn sp lm lw lk lf bh bd := h2.to e130
    have q1'' : ¬ f_m_isIn (nI n) 1 20 M3 = 0 := q1
    have q2'' : ¬ f_m_isIn (nI i) 0 (nI n - 1) M3 = 0 := q2
    have e3 := r_lay (Mr := M3) hN
    generalize hM5 : sr M3 141 (fun j => if j < 8 then M3.1 130 (17 + 7 * j) else M3.1 141 j) = M5 at e3
    have h5 : Cx M1 M5 c nt mo dr gn sp lm lw lk lf bh bd := h3.to (by rw [← hM5]; rfl)
    have hrk5 : ∀ g, g < c → M1.1 8 g = M5.1 130 (12 + 7 * g) := fun g hg => by rw [← hM5, sr_1, if_neg (by omega), e130]; exact hrk g hg
    have hT5 : ∀ g, g < c → M1.1 112 g = M5.1 141 g := fun g hg => by
      rw [hT g hg, ← hM5, ← hM2, sr_1, if_pos rfl, if_pos (by omega), sr_1, if_pos rfl, if_pos (by omega), e130]
    obtain ⟨v', v1', v2', v3'⟩ := nextBy_sim hN h5 hrk5 hT5
    obtain ⟨w', M6, M7, s1, s2, s3, s4, s5, s6⟩ := round_go hN (i := i) (by omega) hc hth N 0 M1 M5 v' h5 hrk5 hT5 (by omega) (by omega) v2'
    rw [r1] at s1
    obtain ⟨rfl, rfl⟩ := Prod.mk.inj (Option.some.inj s1)
    refine ⟨w, M3, M7, ?_, ?_, ?_⟩
    · unfold f_w_round
      rw [if_neg q1, if_neg q2, e1, Option.bind_some]
      exact r1
    · unfold f_m_round
      rw [if_neg q1'', if_neg q2'', h3.rthere hN, Option.bind_some, if_neg hth0, e3, Option.bind_some, v2', Option.bind_some]
      exact s2
    · have e7 : ∀ q, q ≠ 141 → M7.1 q = M3.1 q := fun q hq => by rw [s4 q hq, ← hM5, sr_1, if_neg hq]
      exact hI3.fr (W := [141]) LX_ok (fun k hk => ⟨e7 k (by simpa using hk), by rw [s6, ← hM5]; rfl⟩) (by decide +kernel) ⟨by rw [e7 129 (by omega)], by rw [e7 129 (by omega)], by rw [e7 129 (by omega)]⟩
end TOAST
