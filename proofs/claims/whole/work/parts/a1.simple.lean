/-! What is told of the tape, of the ruling text, of what is to come; the image. -/
theorem Tab.copy {m m' : Nat → Nat → Int32} {o o' c t : Nat} {A : Nat → Int32} (h : Tab m o A c t) (e7 : m' (7 + o') 3 = m (7 + o) 3) (e8 : ∀ i, i < 8 → m' (8 + o') i = m (8 + o) i) (e9 : ∀ i, i < 8 → m' (9 + o') i = m (9 + o) i) (e10 : ∀ i, i < 8 → m' (10 + o') i = m (10 + o) i) (e6a : m' (6 + o') 4 = m (6 + o) 4) (e6b : m' (6 + o') 5 = m (6 + o) 5) (e12 : ∀ i, i < 66 → m' (12 + o') i = m (12 + o) i) (e14a : m' (14 + o') 1 = m (14 + o) 1) (e14b : m' (14 + o') 2 = m (14 + o) 2) (er : ∀ j, j < 30 → ∀ i, i < 66 → m' (16 + o' + j) i = m (16 + o + j) i) (e48 : ∀ i, i < 6 → m' (48 + o') i = m (48 + o) i) (e49 : ∀ i, i < 6 → m' (49 + o') i = m (49 + o) i) (e50 : ∀ i, i < 6 → m' (50 + o') i = m (50 + o) i) : Tab m' o' A c t := by
  obtain ⟨h1, h2, h3, h4, h5⟩ := h
  refine ⟨?_, ?_, ?_, ?_, ?_⟩
  · obtain ⟨p1, p2, p3, p4⟩ := h1
    refine ⟨p1, by rw [e7]; exact p2, p3, fun g hg => ?_⟩
    rw [e8 g (by omega), e9 g (by omega), e10 g (by omega)]
    exact p4 g hg
  · rw [e6a, e6b]
    exact h2
  · exact h3.cong e12 (fun _ _ => rfl) (fun _ _ => rfl)
  · rw [e14a, e14b]
    obtain ⟨k, n, a1, a2, a3, a4, a5, a6, a7⟩ := h4
    refine ⟨k, n, a1, a2, a3, a4, a5, fun j hj => ?_, a7⟩
    obtain ⟨cj, b1, b2⟩ := a6 j hj
    exact ⟨cj, b1, Ev.cong b2 (er _ (Nat.mod_lt _ (by omega))) (fun _ _ => rfl) (fun _ _ => rfl)⟩
  · intro u hu
    rw [e48 u hu, e49 u hu, e50 u hu]
    exact h5 u hu
theorem s_rows_o {M : Mem} {src dst n q : Nat} (h : ∀ j, j < n → q ≠ dst + j) : (f_s_rows M src dst n).1 q = M.1 q := by
  induction n with
  | zero => rfl
  | succ n ih =>
    show (sr (f_s_rows M src dst n) (dst + n) _).1 q = _
    rw [sr_1, if_neg (h n (by omega)), ih (fun j hj => h j (by omega))]
theorem s_rows_i {M : Mem} {src dst n j i : Nat} (hd : ∀ a b, a < n → b < n → src + a ≠ dst + b) (hj : j < n) (hi : i < 66) : (f_s_rows M src dst n).1 (dst + j) i = M.1 (src + j) i := by
  induction n with
  | zero => omega
  | succ n ih =>
    show (sr (f_s_rows M src dst n) (dst + n) _).1 (dst + j) i = _
    by_cases e : j = n
    · subst e
      rw [sr_1, if_pos rfl, pk_cpy_in (by omega) (by omega), s_rows_o (fun a ha => hd j a (by omega) (by omega)), show 0 + (i - 0) = i by omega]
    · rw [sr_1, if_neg (by omega), ih (fun a b ha hb => hd a b (by omega) (by omega)) (by omega)]
theorem cpy_i {f g : Nat → Int32} {n i : Nat} (h : i < n) : va_cpy f g 0 0 n i = f i := by
  rw [pk_cpy_in (by omega) (by omega), show 0 + (i - 0) = i by omega]
section IMAGE
variable {N : Nat}
set_option maxRecDepth 100000 in
theorem o_44 (hN : 4000 ≤ N) : O_44 (Inv LX) (Inv LX) N := by
  intro M hM
  obtain ⟨c, t, ck, tk, h1, h2, h3, h4, h5, h6⟩ := id hM
  obtain ⟨c', nt, mo, dr, gn, sp, lm, lw, lk, lf, bh, bd, h⟩ := hM.cx
  -- the class's copy
  obtain ⟨M1, e1, e2, e7, e8, e9, e10, e6a, e6b, e12, e14a, e14b, er, e48, e49, e50⟩ : ∃ M1, f_t_copyFrom_53_6 N M = some M1 ∧ (∀ q, (q ≤ 52 ∨ 98 ≤ q) → M1.1 q = M.1 q) ∧ M1.1 54 3 = M.1 7 3 ∧ (∀ i, i < 8 → M1.1 55 i = M.1 8 i) ∧ (∀ i, i < 8 → M1.1 56 i = M.1 9 i) ∧ (∀ i, i < 8 → M1.1 57 i = M.1 10 i) ∧ M1.1 53 4 = M.1 6 4 ∧ M1.1 53 5 = M.1 6 5 ∧ (∀ i, i < 66 → M1.1 59 i = M.1 12 i) ∧ M1.1 61 1 = M.1 14 1 ∧ M1.1 61 2 = M.1 14 2 ∧ (∀ j, j < 30 → ∀ i, i < 66 → M1.1 (63 + j) i = M.1 (16 + j) i) ∧ (∀ i, i < 6 → M1.1 95 i = M.1 48 i) ∧ (∀ i, i < 6 → M1.1 96 i = M.1 49 i) ∧ (∀ i, i < 6 → M1.1 97 i = M.1 50 i) := by
    unfold f_t_copyFrom_53_6 f_g_copyFrom_54_7 f_e_copyFrom_58_12 f_s_copyFrom_61_14 f_c_copyFrom_93_46
    simp only [Option.bind_some]
    generalize hG : si (sr (sr (sr M 55 _) 56 _) 57 _) 54 3 _ = G
    have G1 : ∀ q, q ≠ 54 → q ≠ 55 → q ≠ 56 → q ≠ 57 → G.1 q = M.1 q := fun q a b cc d => by rw [← hG, si_1, if_neg a, sr_1, if_neg d, sr_1, if_neg cc, sr_1, if_neg b]
    have G54 : G.1 54 3 = M.1 7 3 := by rw [← hG]; rfl
    have G55 : ∀ i, i < 8 → G.1 55 i = M.1 8 i := fun i hi => by rw [← hG]; exact cpy_i hi
    have G56 : ∀ i, i < 8 → G.1 56 i = M.1 9 i := fun i hi => by rw [← hG]; exact cpy_i hi
    have G57 : ∀ i, i < 8 → G.1 57 i = M.1 10 i := fun i hi => by rw [← hG]; exact cpy_i hi
    generalize hE : sr G 59 _ = E
    have E1 : ∀ q, q ≠ 59 → E.1 q = G.1 q := fun q a => by rw [← hE, sr_1, if_neg a]
    have E59 : ∀ i, i < 66 → E.1 59 i = M.1 12 i := fun i hi => by
      rw [← hE, sr_1, if_pos rfl, cpy_i hi, G1 12 (by omega) (by omega) (by omega) (by omega)]
    have R1 : ∀ q, q < 63 ∨ 93 ≤ q → (f_s_rows E 16 63 30).1 q = E.1 q := fun q hq => s_rows_o (fun j hj => by omega)
    have R2 : ∀ j, j < 30 → ∀ i, i < 66 → (f_s_rows E 16 63 30).1 (63 + j) i = M.1 (16 + j) i := fun j hj i hi => by
      rw [s_rows_i (fun a b ha hb => by omega) hj hi, E1 _ (by omega), G1 _ (by omega) (by omega) (by omega) (by omega)]
    generalize hR : f_s_rows E 16 63 30 = R at R1 R2
    have RM : ∀ q, q ≤ 52 ∨ 98 ≤ q ∨ q = 61 → R.1 q = M.1 q := fun q hq => by rw [R1 q (by omega), E1 q (by omega), G1 q (by omega) (by omega) (by omega) (by omega)]
    refine ⟨_, rfl, fun q hq => ?_, ?_, fun i hi => ?_, fun i hi => ?_, fun i hi => ?_, ?_, ?_, fun i hi => ?_, ?_, ?_, fun j hj i hi => ?_, fun i hi => ?_, fun i hi => ?_, fun i hi => ?_⟩
    · rw [si_1, if_neg (by omega), si_1, if_neg (by omega), sr_1, if_neg (by omega), sr_1, if_neg (by omega), sr_1, if_neg (by omega), si_1, if_neg (by omega), si_1, if_neg (by omega), RM q (by omega)]
    · rw [si_1, if_neg (by omega), si_1, if_neg (by omega), sr_1, if_neg (by omega), sr_1, if_neg (by omega), sr_1, if_neg (by omega), si_1, if_neg (by omega), si_1, if_neg (by omega), R1 _ (by omega), E1 _ (by omega), G54]
    · rw [si_1, if_neg (by omega), si_1, if_neg (by omega), sr_1, if_neg (by omega), sr_1, if_neg (by omega), sr_1, if_neg (by omega), si_1, if_neg (by omega), si_1, if_neg (by omega), R1 _ (by omega), E1 _ (by omega), G55 i hi]
    · rw [si_1, if_neg (by omega), si_1, if_neg (by omega), sr_1, if_neg (by omega), sr_1, if_neg (by omega), sr_1, if_neg (by omega), si_1, if_neg (by omega), si_1, if_neg (by omega), R1 _ (by omega), E1 _ (by omega), G56 i hi]
    · rw [si_1, if_neg (by omega), si_1, if_neg (by omega), sr_1, if_neg (by omega), sr_1, if_neg (by omega), sr_1, if_neg (by omega), si_1, if_neg (by omega), si_1, if_neg (by omega), R1 _ (by omega), E1 _ (by omega), G57 i hi]
    · show R.1 6 4 = _
      rw [RM 6 (by omega)]
    · show R.1 6 5 = _
      rw [RM 6 (by omega)]
    · rw [si_1, if_neg (by omega), si_1, if_neg (by omega), sr_1, if_neg (by omega), sr_1, if_neg (by omega), sr_1, if_neg (by omega), si_1, if_neg (by omega), si_1, if_neg (by omega), R1 _ (by omega), E59 i hi]
    · show R.1 14 1 = _
      rw [RM 14 (by omega)]
    · show R.1 14 2 = _
      rw [RM 14 (by omega)]
    · rw [si_1, if_neg (by omega), si_1, if_neg (by omega), sr_1, if_neg (by omega), sr_1, if_neg (by omega), sr_1, if_neg (by omega), si_1, if_neg (by omega), si_1, if_neg (by omega), R2 j hj i hi]
    · rw [si_1, if_neg (by omega), si_1, if_neg (by omega), sr_1, if_neg (by omega), sr_1, if_neg (by omega), sr_1, if_pos rfl, cpy_i hi, si_1, if_neg (by omega), si_1, if_neg (by omega), RM 48 (by omega)]
    · rw [si_1, if_neg (by omega), si_1, if_neg (by omega), sr_1, if_neg (by omega), sr_1, if_pos rfl, cpy_i hi, sr_1, if_neg (by omega), si_1, if_neg (by omega), si_1, if_neg (by omega), RM 49 (by omega)]
    · rw [si_1, if_neg (by omega), si_1, if_neg (by omega), sr_1, if_pos rfl, cpy_i hi, sr_1, if_neg (by omega), sr_1, if_neg (by omega), si_1, if_neg (by omega), si_1, if_neg (by omega), RM 50 (by omega)]
  refine ⟨nI nt, M1, sr M1 131 (fun j => if j < 3826 then M1.1 130 j else M1.1 131 j), ?_, ?_, c, t, c, t, ?_, ?_, Nat.le_refl _, ?_, ?_, ?_⟩
  · unfold f_w_image
    rw [e1, Option.bind_some]
    show some (M1.1 12 0, M1) = _
    rw [e2 12 (by omega), h.nt12]
  · unfold f_m_image
    rw [m_copy_a N (by omega), Option.bind_some]
    show some (M1.1 130 1, _) = _
    rw [e2 130 (by omega), h.nt130]
  · rw [sr_1, if_neg (by omega), e2 130 (by omega)]
    exact h1.cong (fun k a b _ _ _ _ _ => by rw [sr_1, if_neg (by omega), e2 _ (by omega)])
  · rw [sr_1, if_pos rfl]
    refine Tab.congA (A := M1.1 130) ?_ (fun i hi => by rw [if_pos hi])
    rw [e2 130 (by omega)]
    refine h1.copy ?_ ?_ ?_ ?_ ?_ ?_ ?_ ?_ ?_ ?_ ?_ ?_ ?_
    · exact e7
    · exact e8
    · exact e9
    · exact e10
    · exact e6a
    · exact e6b
    · exact e12
    · exact e14a
    · exact e14b
    · intro j hj i hi
      rw [show 16 + 47 + j = 63 + j by omega, sr_1, if_neg (by omega)]
      exact er j hj i hi
    · exact e48
    · exact e49
    · exact e50
  · exact h4.cong (by rw [sr_1, if_neg (by omega), e2 100 (by omega)]) (by rw [sr_1, if_neg (by omega), e2 129 (by omega)]) (by rw [sr_1, if_neg (by omega), e2 101 (by omega)]) (by rw [sr_1, if_neg (by omega), e2 133 (by omega)])
  · exact h5.cong (by rw [sr_1, if_neg (by omega), e2 103 (by omega)]) (by rw [sr_1, if_neg (by omega), e2 129 (by omega)]) (by rw [sr_1, if_neg (by omega), e2 129 (by omega)])
  · exact LX_ok.1 M.1 _ t (fun k a b => by rw [sr_1, if_neg (by omega), e2 k (by omega)]) (by rw [sr_1, if_neg (by omega), e2 132 (by omega)]) h6
set_option maxRecDepth 100000 in
theorem o_45 (hN : 4000 ≤ N) : O_45 (Inv LX) (Inv LX) N := by
  intro M hM
  obtain ⟨c, t, ck, tk, h1, h2, h3, h4, h5, h6⟩ := id hM
  obtain ⟨M1, e1, e2, e7, e8, e9, e10, e6a, e6b, e12, e14a, e14b, er, e48, e49, e50⟩ : ∃ M1, f_t_copyFrom_6_53 N M = some M1 ∧ (∀ q, (q ≤ 5 ∨ 51 ≤ q) → M1.1 q = M.1 q) ∧ M1.1 7 3 = M.1 54 3 ∧ (∀ i, i < 8 → M1.1 8 i = M.1 55 i) ∧ (∀ i, i < 8 → M1.1 9 i = M.1 56 i) ∧ (∀ i, i < 8 → M1.1 10 i = M.1 57 i) ∧ M1.1 6 4 = M.1 53 4 ∧ M1.1 6 5 = M.1 53 5 ∧ (∀ i, i < 66 → M1.1 12 i = M.1 59 i) ∧ M1.1 14 1 = M.1 61 1 ∧ M1.1 14 2 = M.1 61 2 ∧ (∀ j, j < 30 → ∀ i, i < 66 → M1.1 (16 + j) i = M.1 (63 + j) i) ∧ (∀ i, i < 6 → M1.1 48 i = M.1 95 i) ∧ (∀ i, i < 6 → M1.1 49 i = M.1 96 i) ∧ (∀ i, i < 6 → M1.1 50 i = M.1 97 i) := by
    unfold f_t_copyFrom_6_53 f_g_copyFrom_7_54 f_e_copyFrom_11_59 f_s_copyFrom_14_61 f_c_copyFrom_46_93
    simp only [Option.bind_some]
    generalize hG : si (sr (sr (sr M 8 _) 9 _) 10 _) 7 3 _ = G
    have G1 : ∀ q, q ≠ 7 → q ≠ 8 → q ≠ 9 → q ≠ 10 → G.1 q = M.1 q := fun q a b cc d => by rw [← hG, si_1, if_neg a, sr_1, if_neg d, sr_1, if_neg cc, sr_1, if_neg b]
    have G54 : G.1 7 3 = M.1 54 3 := by rw [← hG]; rfl
    have G55 : ∀ i, i < 8 → G.1 8 i = M.1 55 i := fun i hi => by rw [← hG]; exact cpy_i hi
    have G56 : ∀ i, i < 8 → G.1 9 i = M.1 56 i := fun i hi => by rw [← hG]; exact cpy_i hi
    have G57 : ∀ i, i < 8 → G.1 10 i = M.1 57 i := fun i hi => by rw [← hG]; exact cpy_i hi
    generalize hE : sr G 12 _ = E
    have E1 : ∀ q, q ≠ 12 → E.1 q = G.1 q := fun q a => by rw [← hE, sr_1, if_neg a]
    have E59 : ∀ i, i < 66 → E.1 12 i = M.1 59 i := fun i hi => by
      rw [← hE, sr_1, if_pos rfl, cpy_i hi, G1 59 (by omega) (by omega) (by omega) (by omega)]
    have R1 : ∀ q, q < 16 ∨ 46 ≤ q → (f_s_rows E 63 16 30).1 q = E.1 q := fun q hq => s_rows_o (fun j hj => by omega)
    have R2 : ∀ j, j < 30 → ∀ i, i < 66 → (f_s_rows E 63 16 30).1 (16 + j) i = M.1 (63 + j) i := fun j hj i hi => by
      rw [s_rows_i (fun a b ha hb => by omega) hj hi, E1 _ (by omega), G1 _ (by omega) (by omega) (by omega) (by omega)]
    generalize hR : f_s_rows E 63 16 30 = R at R1 R2
    have RM : ∀ q, q ≤ 5 ∨ 46 ≤ q ∨ q = 14 → R.1 q = M.1 q := fun q hq => by rw [R1 q (by omega), E1 q (by omega), G1 q (by omega) (by omega) (by omega) (by omega)]
    refine ⟨_, rfl, fun q hq => ?_, ?_, fun i hi => ?_, fun i hi => ?_, fun i hi => ?_, ?_, ?_, fun i hi => ?_, ?_, ?_, fun j hj i hi => ?_, fun i hi => ?_, fun i hi => ?_, fun i hi => ?_⟩
    · rw [si_1, if_neg (by omega), si_1, if_neg (by omega), sr_1, if_neg (by omega), sr_1, if_neg (by omega), sr_1, if_neg (by omega), si_1, if_neg (by omega), si_1, if_neg (by omega), RM q (by omega)]
    · rw [si_1, if_neg (by omega), si_1, if_neg (by omega), sr_1, if_neg (by omega), sr_1, if_neg (by omega), sr_1, if_neg (by omega), si_1, if_neg (by omega), si_1, if_neg (by omega), R1 _ (by omega), E1 _ (by omega), G54]
    · rw [si_1, if_neg (by omega), si_1, if_neg (by omega), sr_1, if_neg (by omega), sr_1, if_neg (by omega), sr_1, if_neg (by omega), si_1, if_neg (by omega), si_1, if_neg (by omega), R1 _ (by omega), E1 _ (by omega), G55 i hi]
    · rw [si_1, if_neg (by omega), si_1, if_neg (by omega), sr_1, if_neg (by omega), sr_1, if_neg (by omega), sr_1, if_neg (by omega), si_1, if_neg (by omega), si_1, if_neg (by omega), R1 _ (by omega), E1 _ (by omega), G56 i hi]
    · rw [si_1, if_neg (by omega), si_1, if_neg (by omega), sr_1, if_neg (by omega), sr_1, if_neg (by omega), sr_1, if_neg (by omega), si_1, if_neg (by omega), si_1, if_neg (by omega), R1 _ (by omega), E1 _ (by omega), G57 i hi]
    · show R.1 53 4 = _
      rw [RM 53 (by omega)]
    · show R.1 53 5 = _
      rw [RM 53 (by omega)]
    · rw [si_1, if_neg (by omega), si_1, if_neg (by omega), sr_1, if_neg (by omega), sr_1, if_neg (by omega), sr_1, if_neg (by omega), si_1, if_neg (by omega), si_1, if_neg (by omega), R1 _ (by omega), E59 i hi]
    · show R.1 61 1 = _
      rw [RM 61 (by omega)]
    · show R.1 61 2 = _
      rw [RM 61 (by omega)]
    · rw [si_1, if_neg (by omega), si_1, if_neg (by omega), sr_1, if_neg (by omega), sr_1, if_neg (by omega), sr_1, if_neg (by omega), si_1, if_neg (by omega), si_1, if_neg (by omega), R2 j hj i hi]
    · rw [si_1, if_neg (by omega), si_1, if_neg (by omega), sr_1, if_neg (by omega), sr_1, if_neg (by omega), sr_1, if_pos rfl, cpy_i hi, si_1, if_neg (by omega), si_1, if_neg (by omega), RM 95 (by omega)]
    · rw [si_1, if_neg (by omega), si_1, if_neg (by omega), sr_1, if_neg (by omega), sr_1, if_pos rfl, cpy_i hi, sr_1, if_neg (by omega), si_1, if_neg (by omega), si_1, if_neg (by omega), RM 96 (by omega)]
    · rw [si_1, if_neg (by omega), si_1, if_neg (by omega), sr_1, if_pos rfl, cpy_i hi, sr_1, if_neg (by omega), sr_1, if_neg (by omega), si_1, if_neg (by omega), si_1, if_neg (by omega), RM 97 (by omega)]
  have hT : Tab M1.1 0 (M.1 131) ck tk := by
    refine h2.copy e7 e8 e9 e10 e6a e6b e12 e14a e14b ?_ e48 e49 e50
    intro j hj i hi
    rw [show 16 + 47 + j = 63 + j by omega]
    exact er j hj i hi
  obtain ⟨nt, mo, dr, gn, sp, lm, lw, lk, lf, bh, bd, hN', -⟩ := hT.2.2.1
  have n12 : M1.1 12 0 = nI nt := hN'.2.1.1
  have n131 : M.1 131 1 = nI nt := hN'.2.1.2.1
  refine ⟨nI nt, M1, sr M1 130 (fun j => if j < 3826 then M1.1 131 j else M1.1 130 j), ?_, ?_, ck, tk, ck, tk, ?_, ?_, Nat.le_refl _, ?_, ?_, ?_⟩
  · unfold f_w_back
    rw [e1, Option.bind_some]
    show some (M1.1 12 0, M1) = _
    rw [n12]
  · unfold f_m_back
    rw [m_copy_b N (by omega), Option.bind_some, gi130, if_pos (by omega), e2 131 (by omega), n131]
  · rw [sr_1, if_pos rfl]
    refine Tab.congA (A := M1.1 131) ?_ (fun i hi => by rw [if_pos hi])
    rw [e2 131 (by omega)]
    exact hT.cong (fun k a b _ _ _ _ _ => by rw [sr_1, if_neg (by omega)])
  · rw [sr_1, if_neg (by omega), e2 131 (by omega)]
    exact h2.cong (fun k a b _ _ _ _ _ => by rw [sr_1, if_neg (by omega), e2 _ (by omega)])
  · exact h4.cong (by rw [sr_1, if_neg (by omega), e2 100 (by omega)]) (by rw [sr_1, if_neg (by omega), e2 129 (by omega)]) (by rw [sr_1, if_neg (by omega), e2 101 (by omega)]) (by rw [sr_1, if_neg (by omega), e2 133 (by omega)])
  · exact h5.cong (by rw [sr_1, if_neg (by omega), e2 103 (by omega)]) (by rw [sr_1, if_neg (by omega), e2 129 (by omega)]) (by rw [sr_1, if_neg (by omega), e2 129 (by omega)])
  · exact LX_ok.1 M.1 _ tk (fun k a b => by rw [sr_1, if_neg (by omega), e2 k (by omega)]) (by rw [sr_1, if_neg (by omega), e2 132 (by omega)]) (LX_ok.2 M.1 t tk h3 h6)
end IMAGE
/-- the table, when what is to come or the ruling text changes -/
theorem Tab.side {m m' : Nat → Nat → Int32} {A A' : Nat → Int32} {c t : Nat} (h : Tab m 0 A c t) (hm : ∀ k, 7 ≤ k → k ≤ 45 → m' k = m k) (hA : ∀ j, (j < 108 ∧ j ≠ 5 ∧ j ≠ 6) ∨ 126 ≤ j → A' j = A j) (hT : PT (m' 6 4) (m' 6 5) A' t) (hO : PO (m' 48) (m' 49) (m' 50) A' c) : Tab m' 0 A' c t := by
  obtain ⟨h1, h2, h3, h4, h5⟩ := h
  have e : ∀ k, 7 ≤ k → k ≤ 45 → m' (k + 0) = m (k + 0) := hm
  have hc := h1.1
  refine ⟨?_, hT, ?_, ?_, hO⟩
  · rw [e 7 (by omega) (by omega), e 8 (by omega) (by omega), e 9 (by omega) (by omega), e 10 (by omega) (by omega)]
    obtain ⟨p1, p2, p3, p4⟩ := h1
    refine ⟨p1, p2, by rw [hA 0 (by omega)]; exact p3, fun g hg => ?_⟩
    rw [hA _ (by omega), hA _ (by omega), hA _ (by omega)]
    exact p4 g hg
  · rw [e 12 (by omega) (by omega)]
    refine h3.cong (fun _ _ => rfl) (fun i hi => ?_) (fun i hi => hA _ (by omega))
    unfold cur
    split
    · exact hA _ (by omega)
    · split
      · exact hA _ (by omega)
      · split
        · exact hA _ (by omega)
        · split
          · exact hA _ (by omega)
          · exact hA _ (by omega)
  · rw [e 14 (by omega) (by omega)]
    obtain ⟨k, n, a1, a2, a3, a4, a5, a6, a7, a8⟩ := h4
    have es : ∀ j i, stp A' j i = stp A j i := fun j i => hA _ (by omega)
    refine ⟨k, n, a1, a2, a3, by rw [hA 7 (by omega)]; exact a4, a5, fun j hj => ?_, fun i j hi hj => ?_, fun j hj => ?_⟩
    · obtain ⟨cj, b1, b2⟩ := a6 j hj
      have q : (n + 30 - k + j) % 30 < 30 := Nat.mod_lt _ (by omega)
      refine ⟨cj, b1, ?_⟩
      show Ev (m' (16 + 0 + (n + 30 - k + j) % 30)) _ _ _
      rw [hm _ (by omega) (by omega)]
      exact Ev.cong b2 (fun _ _ => rfl) (fun i _ => es j i) (fun i _ => hA _ (by omega))
    · rw [es i 1, es j 1]
      exact a7 i j hi hj
    · rw [es j 1, hA 1 (by omega)]
      exact a8 j hj
/-- the rest of the invariant, when only cells of the table change -/
theorem Inv.side {M M2 : Mem} {c t ck tk : Nat} (h2 : Tab M.1 47 (M.1 131) ck tk) (h3 : tk ≤ t) (h4 : Tp M.1) (h5 : Fa M.1) (h6 : LX M.1 t) (hT : Tab M2.1 0 (M2.1 130) c t) (he : ∀ q, (53 ≤ q ∧ q ≤ 107) ∨ (113 ≤ q ∧ q ≠ 130) → M2.1 q = M.1 q) : Inv LX M2 := by
  refine ⟨c, t, ck, tk, hT, ?_, h3, ?_, ?_, ?_⟩
  · rw [he 131 (by omega)]
    exact h2.cong (fun k a b _ _ _ _ _ => he _ (by omega))
  · exact h4.cong (by rw [he 100 (by omega)]) (by rw [he 129 (by omega)]) (he 101 (by omega)) (he 133 (by omega))
  · exact h5.cong (he 103 (by omega)) (by rw [he 129 (by omega)]) (by rw [he 129 (by omega)])
  · exact LX_ok.1 M.1 _ t (fun k a b => he k (by omega)) (he 132 (by omega)) h6
section SIMPLE
variable {N : Nat}
theorem o_5 : O_5 (Inv LX) (Inv LX) N := by
  intro M a hM
  obtain ⟨c, t, ck, tk, h1, h2, h3, h4, h5, h6⟩ := id hM
  obtain ⟨t1, t2, t3, t4, t5⟩ := id h1.2.1
  have t2' : M.1 6 4 = nI t := t2
  unfold f_w_by
  rw [show gi M 6 4 = nI t from t2']
  by_cases q : f_w_within a (-1) (nI t - 1) M = 0
  · refine ⟨0, M, M, by rw [if_pos q], ?_, hM⟩
    unfold f_m_by
    rw [show gi M 130 5 = nI t from t3, isIn_eq a _ _ M M, if_pos q]
  · have ha : a = -1 ∨ ∃ u, u < t ∧ a = nI u := by
      rw [within_iff] at q
      by_cases z : a < 0
      · left
        have q1 : ¬ a < -1 := fun e => q (Or.inl e)
        apply Int32.toInt_inj.mp
        rw [Int32.lt_iff_toInt_lt] at z q1
        have s1 : (-1 : Int32).toInt = -1 := by decide
        have s0 : (0 : Int32).toInt = 0 := by decide
        omega
      · obtain ⟨j, hj, rfl⟩ := nI_of z
        refine Or.inr ⟨j, ?_, rfl⟩
        have q2 : ¬ nI t - 1 < nI j := fun e => q (Or.inr e)
        rw [Int32.lt_iff_toInt_lt, m1_toInt (by omega), nI_toInt hj] at q2
        omega
    refine ⟨1, si M 6 5 a, si (si M 6 5 a) 130 6 a, by rw [if_neg q, Option.bind_some], ?_, ?_⟩
    · unfold f_m_by
      rw [show gi (si M 6 5 a) 130 5 = nI t from t3, isIn_eq a _ _ (si M 6 5 a) M, if_neg q, Option.bind_some]
    · refine Inv.side (c := c) h2 h3 h4 h5 h6 ?_ (fun q hq => by rw [si_1, if_neg (by omega), si_1, if_neg (by omega)])
      refine h1.side (fun k a b => by rw [si_1, if_neg (by omega), si_1, if_neg (by omega)]) (fun j hj => ?_) ⟨t1, ?_, ?_, ?_, ?_⟩ ?_
      · rw [si_1, if_pos rfl, pk_un (by omega)]
        rfl
      · exact t2'
      · rw [si_1, if_pos rfl, pk_un (by omega)]
        exact t3
      · rfl
      · exact ha
      · intro u hu
        have e1 : (si (si M 6 5 a) 130 6 a).1 130 (108 + u) = M.1 130 (108 + u) := pk_un (f := M.1 130) (by omega)
        have e2 : (si (si M 6 5 a) 130 6 a).1 130 (114 + u) = M.1 130 (114 + u) := pk_un (f := M.1 130) (by omega)
        have e3 : (si (si M 6 5 a) 130 6 a).1 130 (120 + u) = M.1 130 (120 + u) := pk_un (f := M.1 130) (by omega)
        rw [e1, e2, e3]
        exact h1.2.2.2.2 u hu
theorem o_37 : O_37 (Inv LX) (Inv LX) N := by
  intro M a b d hM
  obtain ⟨c, t, ck, tk, h1, h2, h3, h4, h5, h6⟩ := id hM
  unfold f_w_odds
  by_cases q1 : f_w_within a 0 1 M = 0
  · exact ⟨0, M, M, by rw [if_pos q1], by unfold f_m_odds; rw [isIn_eq a _ _ M M, if_pos q1], hM⟩
  by_cases q2 : f_w_within b 0 5 M = 0
  · exact ⟨0, M, M, by rw [if_neg q1, if_pos q2], by unfold f_m_odds; rw [isIn_eq a _ _ M M, isIn_eq b _ _ M M, if_neg q1, if_pos q2], hM⟩
  by_cases q3 : f_w_within d 0 100 M = 0
  · exact ⟨0, M, M, by rw [if_neg q1, if_neg q2, if_pos q3], by unfold f_m_odds; rw [isIn_eq a _ _ M M, isIn_eq b _ _ M M, isIn_eq d _ _ M M, if_neg q1, if_neg q2, if_pos q3], hM⟩
  rw [if_neg q1, if_neg q2, if_neg q3]
  obtain ⟨l, hl, rfl⟩ := within_n (n := 1) (by decide) q1
  obtain ⟨m, hm, rfl⟩ := within_n (n := 5) (by decide) q2
  obtain ⟨p, hp, rfl⟩ := within_n (n := 100) (by decide) q3
  have hin : am_in (nI m) 6 = true := am_in_nI (by omega) (by decide)
  have hcl : (nI m).toNatClampNeg = m := nI_clamp (by omega)
  have ix : (108 : Int32) + (6 : Int32) * nI l + nI m = nI (108 + 6 * l + m) := by
    rw [show (108 : Int32) = nI 108 from rfl, show (6 : Int32) = nI 6 from rfl, nI_mul, nI_add, nI_add]
  have rE : ∀ M', f_m_odds (nI l) (nI m) (nI p) M' = some (1, si M' 130 (108 + 6 * l + m) (nI p)) := by
    intro M'
    unfold f_m_odds
    rw [isIn_eq _ _ _ M' M, isIn_eq _ _ _ M' M, isIn_eq _ _ _ M' M, if_neg q1, if_neg q2, if_neg q3, ix, if_pos (am_in_nI (by omega) (by decide)), nI_clamp (by omega), Option.bind_some]
  have fin : ∀ k, k = 48 + l → Inv LX (si (si M k m (nI p)) 130 (108 + 6 * l + m) (nI p)) := by
    intro k hk
    refine Inv.side (c := c) h2 h3 h4 h5 h6 ?_ (fun q hq => by rw [si_1, if_neg (by omega), si_1, if_neg (by omega)])
    refine h1.side (fun k a b => by rw [si_1, if_neg (by omega), si_1, if_neg (by omega)]) (fun j hj => ?_) ?_ ?_
    · rw [si_1, if_pos rfl, pk_un (by omega), si_1, if_neg (by omega)]
    · obtain ⟨t1, t2, t3, t4, t5⟩ := h1.2.1
      have e6 : (si (si M k m (nI p)) 130 (108 + 6 * l + m) (nI p)).1 6 = M.1 6 := by rw [si_1, if_neg (by omega), si_1, if_neg (by omega)]
      rw [e6]
      refine ⟨t1, t2, ?_, ?_, t5⟩
      · rw [si_1, if_pos rfl, pk_un (by omega), si_1, if_neg (by omega)]
        exact t3
      · rw [si_1, if_pos rfl, pk_un (by omega), si_1, if_neg (by omega)]
        exact t4
    · intro u hu
      obtain ⟨z1, z2, z3⟩ := h1.2.2.2.2 u hu
      rw [si_1 _ 130 _ _ 130, if_pos rfl, si_1 M k m _ 130, if_neg (by omega)]
      have e50 : (si (si M k m (nI p)) 130 (108 + 6 * l + m) (nI p)).1 50 = M.1 50 := by rw [si_1, if_neg (by omega), si_1, if_neg (by omega)]
      have eu : upd (M.1 130) (108 + 6 * l + m) (nI p) (120 + u) = M.1 130 (120 + u) := pk_un (by omega)
      rw [e50, eu]
      refine ⟨?_, ?_, z3⟩
      · by_cases e : l = 0 ∧ u = m
        · obtain ⟨rfl, rfl⟩ := e
          refine ⟨p, hp, ?_, ?_⟩
          · rw [si_1, if_neg (by omega), hk, si_1, if_pos rfl, pk_us]
          · rw [show 108 + 6 * 0 + u = 108 + u by omega, pk_us]
        · obtain ⟨r, r1, r2, r3⟩ := z1
          refine ⟨r, r1, ?_, ?_⟩
          · rw [si_1, if_neg (by omega), si_1]
            by_cases e2 : 48 = k
            · rw [if_pos e2, ← e2, pk_un (by omega)]
              exact r2
            · rw [if_neg e2]
              exact r2
          · rw [pk_un (by omega)]
            exact r3
      · by_cases e : l = 1 ∧ u = m
        · obtain ⟨rfl, rfl⟩ := e
          refine ⟨p, hp, ?_, ?_⟩
          · rw [si_1, if_neg (by omega), hk, si_1, if_pos rfl, pk_us]
          · rw [show 108 + 6 * 1 + u = 114 + u by omega, pk_us]
        · obtain ⟨r, r1, r2, r3⟩ := z2
          refine ⟨r, r1, ?_, ?_⟩
          · rw [si_1, if_neg (by omega), si_1]
            by_cases e2 : 49 = k
            · rw [if_pos e2, ← e2, pk_un (by omega)]
              exact r2
            · rw [if_neg e2]
              exact r2
          · rw [pk_un (by omega)]
            exact r3
  rcases (show l = 0 ∨ l = 1 by omega) with rfl | rfl
  · exact ⟨1, si M 48 m (nI p), _, by rw [if_pos (show nI 0 = (0 : Int32) from rfl), if_pos hin, hcl, Option.bind_some], rE _, fin 48 rfl⟩
  · exact ⟨1, si M 49 m (nI p), _, by rw [if_neg (by decide), if_pos (show nI 1 = (1 : Int32) from rfl), if_pos hin, hcl, Option.bind_some], rE _, fin 49 rfl⟩
theorem o_38 : O_38 (Inv LX) (Inv LX) N := by
  intro M a b hM
  obtain ⟨c, t, ck, tk, h1, h2, h3, h4, h5, h6⟩ := id hM
  have S : Sm M M c t := ⟨h1, LX_ok.1 M.1 _ t (fun k a b => by unfold mgf; rw [if_pos b]) (by unfold mgf; rw [if_neg (by omega)]) h6⟩
  obtain ⟨nt, mo, dr, gn, sp, lm, lw, lk, lf, bh, bd, h⟩ := S.cx
  have hc := h.c8
  unfold f_w_falls
  by_cases q1 : f_w_within a 0 5 M = 0
  · exact ⟨0, M, M, by rw [if_pos q1], by unfold f_m_falls; rw [isIn_eq a _ _ M M, if_pos q1], hM⟩
  rcases h.scase b with ⟨e1, e2⟩ | ⟨s, hs, rfl, n1, n2⟩
  · exact ⟨0, M, M, by rw [if_neg q1, if_pos e1], by unfold f_m_falls; rw [isIn_eq a _ _ M M, if_neg q1, if_pos e2], hM⟩
  rw [if_neg q1, if_neg n1]
  obtain ⟨m, hm, rfl⟩ := within_n (n := 5) (by decide) q1
  have ix : (120 : Int32) + nI m = nI (120 + m) := nI_add 120 m
  refine ⟨1, si M 50 m (nI s), si (si M 50 m (nI s)) 130 (120 + m) (nI s), by rw [if_pos (am_in_nI (by omega) (by decide)), nI_clamp (by omega), Option.bind_some], ?_, ?_⟩
  · unfold f_m_falls
    have n2' : ¬ f_m_isSet (nI s) (si M 50 m (nI s)) = 0 := n2
    rw [isIn_eq _ _ _ (si M 50 m (nI s)) M, if_neg q1, if_neg n2', ix, if_pos (am_in_nI (by omega) (by decide)), nI_clamp (by omega), Option.bind_some]
  · refine Inv.side (c := c) h2 h3 h4 h5 h6 ?_ (fun q hq => by rw [si_1, if_neg (by omega), si_1, if_neg (by omega)])
    refine h1.side (fun k a b => by rw [si_1, if_neg (by omega), si_1, if_neg (by omega)]) (fun j hj => ?_) ?_ ?_
    · rw [si_1, if_pos rfl, pk_un (by omega)]
      rfl
    · obtain ⟨t1, t2, t3, t4, t5⟩ := h1.2.1
      refine ⟨t1, t2, ?_, ?_, t5⟩
      · rw [si_1, if_pos rfl, pk_un (by omega)]
        exact t3
      · show M.1 6 5 = upd (M.1 130) (120 + m) (nI s) 6
        rw [pk_un (by omega)]
        exact t4
    · intro u hu
      obtain ⟨z1, z2, z3⟩ := h1.2.2.2.2 u hu
      rw [si_1 _ 130 _ _ 130, if_pos rfl, si_1 M 50 m _ 130, if_neg (by omega)]
      have ea : upd (M.1 130) (120 + m) (nI s) (108 + u) = M.1 130 (108 + u) := pk_un (by omega)
      have eb : upd (M.1 130) (120 + m) (nI s) (114 + u) = M.1 130 (114 + u) := pk_un (by omega)
      rw [ea, eb]
      refine ⟨z1, z2, ?_⟩
      by_cases e : u = m
      · subst e
        exact ⟨s, hs, by rw [si_1, if_neg (by omega), si_1, if_pos rfl, pk_us], pk_us⟩
      · obtain ⟨r, r1, r2, r3⟩ := z3
        exact ⟨r, r1, by rw [si_1, if_neg (by omega), si_1, if_pos rfl, pk_un e]; exact r2, by rw [pk_un (by omega)]; exact r3⟩
theorem o_46 (hN : 4000 ≤ N) : O_46 (Inv LX) (Inv LX) N := by
  intro M a hM
  obtain ⟨c, t, ck, tk, h1, h2, h3, h4, h5, h6⟩ := id hM
  have S : Sm M M c t := ⟨h1, LX_ok.1 M.1 _ t (fun k a b => by unfold mgf; rw [if_pos b]) (by unfold mgf; rw [if_neg (by omega)]) h6⟩
  obtain ⟨nt, mo, dr, gn, sp, lm, lw, lk, lf, bh, bd, h⟩ := S.cx
  obtain ⟨t1, t2, t3, t4, t5⟩ := id h1.2.1
  have t2' : M.1 6 4 = nI t := t2
  have t4' : M.1 6 5 = M.1 130 6 := t4
  obtain ⟨k, n, hk, hn, a1, a2, a3, -⟩ := h1.2.2.2.1
  have a1' : M.1 14 2 = nI k := a1
  obtain ⟨ln, l1, l2, l3, -⟩ := id h4
  unfold f_w_about f_m_about
  rw [isIn_eq a _ _ M M]
  by_cases q : f_w_within a 0 7 M = 0
  · have nb : ∀ j : Nat, j ≤ 7 → ∀ y : Int32, y = nI j → ¬ a = y := fun j hj y hy e => by
      rw [e, hy] at q
      exact within_yes M (n := 7) hj (by decide) q
    rw [if_pos q, if_neg (nb 0 (by omega) 0 rfl), if_neg (nb 1 (by omega) 1 rfl), if_neg (nb 2 (by omega) 2 rfl), if_neg (nb 3 (by omega) 3 rfl), if_neg (nb 4 (by omega) 4 rfl), if_neg (nb 5 (by omega) 5 rfl), if_neg (nb 6 (by omega) 6 rfl), if_neg (nb 7 (by omega) 7 rfl)]
    by_cases q8 : a = 8
    · exact ⟨nI (th c gn), by rw [if_pos q8, h.cthere], by rw [if_pos q8, h.rthere hN, Option.bind_some], hM⟩
    by_cases q9 : a = 9
    · exact ⟨nI ln, by rw [if_neg q8, if_pos q9]; exact congrArg some l2, by rw [if_neg q8, if_pos q9]; exact congrArg some l3, hM⟩
    · exact ⟨-2, by rw [if_neg q8, if_neg q9], by rw [if_neg q8, if_neg q9], hM⟩
  · rw [if_neg q]
    obtain ⟨w, hw, rfl⟩ := within_n (n := 7) (by decide) q
    rw [if_pos (am_in_nI (by omega) (by decide)), nI_clamp (by omega)]
    rcases (show w = 0 ∨ w = 1 ∨ w = 2 ∨ w = 3 ∨ w = 4 ∨ w = 5 ∨ w = 6 ∨ w = 7 by omega) with rfl | rfl | rfl | rfl | rfl | rfl | rfl | rfl
    · exact ⟨nI c, by rw [if_pos (show nI 0 = (0 : Int32) from rfl)]; exact congrArg some h.c7, congrArg some h.c130, hM⟩
    · exact ⟨nI nt, by rw [if_neg (by decide), if_pos (show nI 1 = (1 : Int32) from rfl)]; exact congrArg some h.nt12, congrArg some h.nt130, hM⟩
    · exact ⟨nI mo, by rw [if_neg (by decide), if_neg (by decide), if_pos (show nI 2 = (2 : Int32) from rfl)]; exact congrArg some h.mo12, congrArg some h.mo130, hM⟩
    · exact ⟨nI (ct (fun i => decide (lk i = 2)) sp), by rw [if_neg (by decide), if_neg (by decide), if_neg (by decide), if_pos (show nI 3 = (3 : Int32) from rfl), h.cwine hN, Option.bind_some], congrArg some h.wine, hM⟩
    · exact ⟨nI dr, by rw [if_neg (by decide), if_neg (by decide), if_neg (by decide), if_neg (by decide), if_pos (show nI 4 = (4 : Int32) from rfl)]; exact congrArg some h.dr12, congrArg some h.dr130, hM⟩
    · exact ⟨nI t, by rw [if_neg (by decide), if_neg (by decide), if_neg (by decide), if_neg (by decide), if_neg (by decide), if_pos (show nI 5 = (5 : Int32) from rfl)]; exact congrArg some t2', congrArg some t3, hM⟩
    · exact ⟨M.1 130 6, by rw [if_neg (by decide), if_neg (by decide), if_neg (by decide), if_neg (by decide), if_neg (by decide), if_neg (by decide), if_pos (show nI 6 = (6 : Int32) from rfl)]; exact congrArg some t4', rfl, hM⟩
    · exact ⟨nI k, by rw [if_neg (by decide), if_neg (by decide), if_neg (by decide), if_neg (by decide), if_neg (by decide), if_neg (by decide), if_neg (by decide), if_pos (show nI 7 = (7 : Int32) from rfl)]; exact congrArg some a1', congrArg some a2, hM⟩
theorem o_4 : O_4 (Inv LX) (Inv LX) N := by
  intro M a hM
  unfold f_w_fault f_m_fault
  by_cases q0 : a = 0
  · subst q0
    refine ⟨M.1 129 5, ?_, by rw [if_pos (show (0 : Int32) = 0 from rfl)]; rfl, hM⟩
    rcases hM.fa with ⟨f1, f2, f3⟩ | ⟨f1, f2, f3⟩
    · rw [if_pos (show gi M 103 0 = 0 from f1), f2]
    · rw [show gi M 103 0 = 1 from f1, if_neg (by decide), if_neg (show ¬ f_w_within 0 0 1 M = 0 from within_yes M (j := 0) (n := 1) (by omega) (by decide)), if_pos (show (0 : Int32) = 0 from rfl)]
      exact f2
  by_cases q1 : a = 1
  · subst q1
    refine ⟨M.1 129 6, ?_, by rw [if_neg q0, if_pos (show (1 : Int32) = 1 from rfl)]; rfl, hM⟩
    rcases hM.fa with ⟨f1, f2, f3⟩ | ⟨f1, f2, f3⟩
    · rw [if_pos (show gi M 103 0 = 0 from f1), f3]
    · rw [show gi M 103 0 = 1 from f1, if_neg (by decide), if_neg (show ¬ f_w_within 1 0 1 M = 0 from within_yes M (j := 1) (n := 1) (by omega) (by decide)), if_neg q0]
      exact f3
  · refine ⟨-1, ?_, by rw [if_neg q0, if_neg q1], hM⟩
    have nw : f_w_within a 0 1 M = 0 := within_no (n := 1) (by decide) (fun j hj e => by
      rcases (show j = 0 ∨ j = 1 by omega) with rfl | rfl
      · exact q0 e
      · exact q1 e)
    rw [if_pos nw]
    split <;> rfl
/-! the tape -/
def TB (Mc Mr : Mem) (n : Nat) : Prop := n ≤ 300 ∧ Mc.1 100 3 = nI n ∧ Mr.1 129 4 = nI n ∧ ∀ i, i < n → ∃ b, b < 256 ∧ Mc.1 101 i = nI b ∧ Mr.1 133 i = nI b
theorem take1 {Mc : Mem} {v x : Int32} {m n : Nat} (hn : n < 300) (h : Mc.1 100 3 = nI n) (hx : ¬ x < 0) : f_a_take_3 N (m + 1) v x Mc = f_a_take_3 N m v (x + (-8)) (si (si Mc 101 n ((v >>> (x &&& 31)) &&& 255)) 100 3 (nI (n + 1))) := by
  rw [f_a_take_3, if_neg hx, show gi Mc 100 3 = nI n from h, if_neg (show ¬ f_w_within (nI n) 0 299 Mc = 0 from within_yes Mc (n := 299) (by omega) (by decide)), if_pos (am_in_nI hn (by decide)), nI_clamp (by omega), Option.bind_some, show gi (si Mc 101 n ((v >>> (x &&& 31)) &&& 255)) 100 3 = nI n from h, nI_1, Option.bind_some]
theorem four1 {Mr : Mem} {v x : Int32} {m n : Nat} (hn : n < 300) (h : Mr.1 129 4 = nI n) (hx : ¬ x < 0) : f_m_four_3 N (m + 1) v x Mr = f_m_four_3 N m v (x + (-8)) (si (si Mr 133 n ((v >>> (x &&& 31)) &&& 255)) 129 4 (nI (n + 1))) := by
  rw [f_m_four_3, if_neg hx, show gi Mr 129 4 = nI n from h, if_pos (am_in_nI hn (by decide)), nI_clamp (by omega), Option.bind_some, show gi (si Mr 133 n ((v >>> (x &&& 31)) &&& 255)) 129 4 = nI n from h, nI_1, Option.bind_some]
theorem TB.one {Mc Mr : Mem} {n : Nat} (h : TB Mc Mr n) (hn : n < 300) (w : Int32) : TB (si (si Mc 101 n (w &&& 255)) 100 3 (nI (n + 1))) (si (si Mr 133 n (w &&& 255)) 129 4 (nI (n + 1))) (n + 1) := by
  obtain ⟨h1, h2, h3, h4⟩ := h
  refine ⟨by omega, rfl, rfl, fun i hi => ?_⟩
  show ∃ b, b < 256 ∧ upd (Mc.1 101) n (w &&& 255) i = nI b ∧ upd (Mr.1 133) n (w &&& 255) i = nI b
  by_cases e : i = n
  · subst e
    rw [pk_us, pk_us]
    obtain ⟨j, j1, j2⟩ := pk_andE w (m := 255) 8 (by decide)
    exact ⟨j, j1, j2, j2⟩
  · rw [pk_un e, pk_un e]
    exact h4 i (by omega)
/-- what a feed leaves as it was -/
def FC (M M' : Mem) : Prop := ∀ k, k ≠ 100 → k ≠ 101 → M'.1 k = M.1 k
def FR (M M' : Mem) : Prop := (∀ k, k ≠ 129 → k ≠ 133 → M'.1 k = M.1 k) ∧ ∀ i, i ≠ 4 → M'.1 129 i = M.1 129 i
theorem sim_take {Mc Mr : Mem} {n : Nat} (hN : 4000 ≤ N) (h : TB Mc Mr n) (hn : n + 4 ≤ 300) (v : Int32) : ∃ Mc' Mr', f_a_take N v Mc = some Mc' ∧ f_m_four N v Mr = some Mr' ∧ TB Mc' Mr' (n + 4) ∧ FC Mc Mc' ∧ FR Mr Mr' := by
  obtain ⟨m, rfl⟩ : ∃ m, N = m + 5 := ⟨N - 5, by omega⟩
  have t1 := h.one (by omega) (v >>> ((24 : Int32) &&& 31))
  have t2 := t1.one (by omega) (v >>> (((24 : Int32) + (-8)) &&& 31))
  have t3 := t2.one (by omega) (v >>> (((24 : Int32) + (-8) + (-8)) &&& 31))
  have t4 := t3.one (by omega) (v >>> (((24 : Int32) + (-8) + (-8) + (-8)) &&& 31))
  refine ⟨_, _, ?_, ?_, t4, ?_, ?_, ?_⟩
  · unfold f_a_take
    rw [take1 (by omega) h.2.1 (by decide), take1 (by omega) t1.2.1 (by decide), take1 (by omega) t2.2.1 (by decide), take1 (by omega) t3.2.1 (by decide), f_a_take_3, if_pos (by decide)]
  · unfold f_m_four
    rw [four1 (by omega) h.2.2.1 (by decide), four1 (by omega) t1.2.2.1 (by decide), four1 (by omega) t2.2.2.1 (by decide), four1 (by omega) t3.2.2.1 (by decide), f_m_four_3, if_pos (by decide)]
  · intro k h1 h2
    rw [si_1, if_neg h1, si_1, if_neg h2, si_1, if_neg h1, si_1, if_neg h2, si_1, if_neg h1, si_1, if_neg h2, si_1, if_neg h1, si_1, if_neg h2]
  · intro k h1 h2
    rw [si_1, if_neg h1, si_1, if_neg h2, si_1, if_neg h1, si_1, if_neg h2, si_1, if_neg h1, si_1, if_neg h2, si_1, if_neg h1, si_1, if_neg h2]
  · intro i hi
    rw [si_1, if_pos rfl, pk_un hi, si_1, if_neg (by omega), si_1, if_pos rfl, pk_un hi, si_1, if_neg (by omega), si_1, if_pos rfl, pk_un hi, si_1, if_neg (by omega), si_1, if_pos rfl, pk_un hi, si_1, if_neg (by omega)]
theorem FC.tr {M M1 M2 : Mem} (h : FC M M1) (g : FC M1 M2) : FC M M2 := fun k a b => (g k a b).trans (h k a b)
theorem FR.tr {M M1 M2 : Mem} (h : FR M M1) (g : FR M1 M2) : FR M M2 := ⟨fun k a b => (g.1 k a b).trans (h.1 k a b), fun i hi => (g.2 i hi).trans (h.2 i hi)⟩
theorem sim_feed {Mc Mr : Mem} {n : Nat} (hN : 4000 ≤ N) (h : TB Mc Mr n) (a b c d e : Int32) : ∃ v n' Mc' Mr', f_w_feed N a b c d e Mc = some (v, Mc') ∧ f_m_feed N a b c d e Mr = some (v, Mr') ∧ TB Mc' Mr' n' ∧ FC Mc Mc' ∧ FR Mr Mr' := by
  unfold f_w_feed f_a_hasRoom f_m_feed
  have h1 := h.1
  rw [show gi Mc 100 3 = nI n from h.2.1, show gi Mr 129 4 = nI n from h.2.2.1, ix7 n 20 20 rfl]
  by_cases q : n + 20 ≤ 300
  · obtain ⟨M1, R1, a1, b1, t1, c1, d1⟩ := sim_take hN h (by omega) a
    obtain ⟨M2, R2, a2, b2, t2, c2, d2⟩ := sim_take hN t1 (by omega) b
    obtain ⟨M3, R3, a3, b3, t3, c3, d3⟩ := sim_take hN t2 (by omega) c
    obtain ⟨M4, R4, a4, b4, t4, c4, d4⟩ := sim_take hN t3 (by omega) d
    obtain ⟨M5, R5, a5, b5, t5, c5, d5⟩ := sim_take hN t4 (by omega) e
    refine ⟨nI (n + 4 + 4 + 4 + 4 + 4), _, M5, R5, ?_, ?_, t5, (((c1.tr c2).tr c3).tr c4).tr c5, (((d1.tr d2).tr d3).tr d4).tr d5⟩
    · rw [if_neg (show ¬ (300 : Int32) < nI (n + 20) from nI_nlt (a := 300) (by omega) (by omega)), if_neg (show ¬ (1 : Int32) = 0 by decide), a1, Option.bind_some, a2, Option.bind_some, a3, Option.bind_some, a4, Option.bind_some, a5, Option.bind_some, show gi M5 100 3 = nI (n + 4 + 4 + 4 + 4 + 4) from t5.2.1]
    · rw [if_pos (show nI (n + 20) ≤ (300 : Int32) from nI_le (b := 300) (by omega) (by omega)), b1, Option.bind_some, b2, Option.bind_some, b3, Option.bind_some, b4, Option.bind_some, b5, Option.bind_some, show gi R5 129 4 = nI (n + 4 + 4 + 4 + 4 + 4) from t5.2.2.1]
  · refine ⟨-1, n, Mc, Mr, ?_, ?_, h, fun _ _ _ => rfl, fun _ _ _ => rfl, fun _ _ => rfl⟩
    · rw [if_pos (show (300 : Int32) < nI (n + 20) from nI_lt (a := 300) (by omega) (by omega)), if_pos (show (0 : Int32) = 0 from rfl)]
    · rw [if_neg (show ¬ nI (n + 20) ≤ (300 : Int32) from nI_ge (a := 300) (by omega) (by omega))]
/-- the rest of the invariant, when only the tape changes -/
theorem Inv.tape {M M1 M2 : Mem} {n : Nat} (hM : Inv LX M) (hT : TB M1 M2 n) (h1 : FC M M1) (h2 : FR M1 M2) : Inv LX M2 := by
  have e : ∀ k, k ≠ 100 → k ≠ 101 → k ≠ 129 → k ≠ 133 → M2.1 k = M.1 k := fun k a b c d => by rw [h2.1 k c d, h1 k a b]
  have e9 : ∀ i, i ≠ 4 → M2.1 129 i = M.1 129 i := fun i hi => by rw [h2.2 i hi, h1 129 (by omega) (by omega)]
  refine hM.cong LX_ok (fun k hk => ?_) ⟨n, hT.1, ?_, hT.2.2.1, fun i hi => ?_⟩ (hM.fa.cong (e 103 (by omega) (by omega) (by omega) (by omega)) (e9 5 (by omega)) (e9 6 (by omega)))
  · have : ∀ k ∈ KC, k ≠ 100 ∧ k ≠ 101 ∧ k ≠ 129 ∧ k ≠ 133 := by decide +kernel
    obtain ⟨q1, q2, q3, q4⟩ := this k hk
    exact e k q1 q2 q3 q4
  · rw [h2.1 100 (by omega) (by omega)]
    exact hT.2.1
  · rw [h2.1 101 (by omega) (by omega)]
    exact hT.2.2.2 i hi
theorem Inv.tb {M : Mem} (hM : Inv LX M) : ∃ n, TB M M n := by
  obtain ⟨n, h1, h2, h3, h4⟩ := hM.tp
  exact ⟨n, h1, h2, h3, h4⟩
theorem TB.mv {M M1 : Mem} {n : Nat} (h : TB M M n) (hc : FC M M1) : TB M M1 n := ⟨h.1, h.2.1, by rw [hc 129 (by omega) (by omega)]; exact h.2.2.1, fun i hi => by rw [hc 133 (by omega) (by omega)]; exact h.2.2.2 i hi⟩
theorem o_1 (hN : 4000 ≤ N) : O_1 (Inv LX) (Inv LX) N := by
  intro M a b c d e hM
  obtain ⟨n, hT⟩ := hM.tb
  obtain ⟨v, n1, M1, R1, e1, e2, e3, e4, e5⟩ := sim_feed hN hT a b c d e
  obtain ⟨v2, n2, M1', M2, g1, g2, g3, g4, g5⟩ := sim_feed hN (hT.mv e4) a b c d e
  rw [e1] at g1
  obtain ⟨rfl, rfl⟩ := Prod.mk.inj (Option.some.inj g1)
  exact ⟨v, M1, M2, e1, g2, hM.tape g3 e4 g5⟩
theorem o_2 : O_2 (Inv LX) (Inv LX) N := by
  intro M a hM
  obtain ⟨n, h1, h2, h3, h4⟩ := hM.tb
  unfold f_w_end
  rw [show gi M 100 3 = nI n from h2]
  by_cases q : f_w_within a 0 (nI n) M = 0
  · refine ⟨-1, M, M, by rw [if_pos q], ?_, hM⟩
    unfold f_m_end
    rw [show gi M 129 4 = nI n from h3, isIn_eq a _ _ M M, if_pos q]
  · obtain ⟨j, hj, rfl⟩ := within_n (by omega) q
    refine ⟨nI j, si M 100 3 (nI j), si (si M 100 3 (nI j)) 129 4 (nI j), by rw [if_neg q, Option.bind_some], ?_, ?_⟩
    · unfold f_m_end
      rw [show gi (si M 100 3 (nI j)) 129 4 = nI n from h3, isIn_eq _ _ _ (si M 100 3 (nI j)) M, if_neg q, Option.bind_some]
    · refine hM.tape (M1 := si M 100 3 (nI j)) (n := j) ⟨by omega, rfl, rfl, fun i hi => h4 i (by omega)⟩ (fun k a _ => by rw [si_1, if_neg a]) ⟨fun k a _ => by rw [si_1, if_neg a], fun i hi => ?_⟩
      rw [si_1, if_pos rfl, pk_un hi]
end SIMPLE
