/-! What is told and done: both sides, call by call. -/
theorem ix7 (i j : Nat) (x : Int32) (hx : x = nI j) : nI i + x = nI (i + j) := by rw [hx, nI_add]
section OPS3
variable {Mc Mr : Mem} {c nt mo dr gn sp t : Nat} {lm lw lk lf bh bd : Nat → Nat} {N : Nat}
/-- a guest is told -/
theorem sim_guest (S : Sm Mc Mr c t) (a b d : Int32) : ∃ v Mc' Mr' c', f_w_guest a b d Mc = some (v, Mc') ∧ f_m_guest a b d Mr = some (v, Mr') ∧ (v = -1 ∨ ∃ g, g < 8 ∧ v = nI g) ∧ Sm Mc' Mr' c' t ∧ CS Mc Mc' ∧ RS Mr Mr' := by
  obtain ⟨nt, mo, dr, gn, sp, lm, lw, lk, lf, bh, bd, h⟩ := S.cx
  have hc := h.c8
  unfold f_w_guest f_m_guest
  rw [isIn_eq a _ _ Mr Mc, isIn_eq b _ _ Mr Mc, isIn_eq d _ _ Mr Mc]
  by_cases h1 : f_w_within a 0 9 Mc = 0
  · exact ⟨-1, Mc, Mr, c, by rw [if_pos h1], by rw [if_pos h1], Or.inl rfl, S, CS.rf, RS.rf⟩
  by_cases h2 : f_w_within b 0 9 Mc = 0
  · exact ⟨-1, Mc, Mr, c, by rw [if_neg h1, if_pos h2], by rw [if_neg h1, if_pos h2], Or.inl rfl, S, CS.rf, RS.rf⟩
  by_cases h3 : f_w_within d (-1) 99 Mc = 0
  · exact ⟨-1, Mc, Mr, c, by rw [if_neg h1, if_neg h2, if_pos h3], by rw [if_neg h1, if_neg h2, if_pos h3], Or.inl rfl, S, CS.rf, RS.rf⟩
  rw [if_neg h1, if_neg h2, if_neg h3, if_neg h1, if_neg h2, if_neg h3, show gi Mr 130 0 = nI c from h.c130]
  obtain ⟨ra, hra, rfl⟩ := within_n (n := 9) (by decide) h1
  obtain ⟨rb, hrb, rfl⟩ := within_n (n := 9) (by decide) h2
  have hd : d = -1 ∨ ∃ r, r ≤ 99 ∧ d = nI r := by
    rw [within_iff] at h3
    by_cases q : d < 0
    · left
      have q1 : ¬ d < -1 := fun e => h3 (Or.inl e)
      apply Int32.toInt_inj.mp
      rw [Int32.lt_iff_toInt_lt] at q q1
      have s1 : (-1 : Int32).toInt = -1 := by decide
      have s0 : (0 : Int32).toInt = 0 := by decide
      omega
    · obtain ⟨j, hj, rfl⟩ := nI_of q
      refine Or.inr ⟨j, ?_, rfl⟩
      have q2 : ¬ (99 : Int32) < nI j := fun e => h3 (Or.inr e)
      rcases Nat.lt_or_ge 99 j with q3 | q3
      · exact absurd (show (99 : Int32) < nI j from nI_lt (a := 99) q3 hj) q2
      · exact q3
  unfold f_g_add
  rw [show gi Mc 7 3 = nI c from h.c7]
  by_cases q8 : c = 8
  · subst q8
    refine ⟨-1, Mc, Mr, 8, ?_, ?_, Or.inl rfl, S, CS.rf, RS.rf⟩
    · rw [if_pos (show f_w_within (nI 8) 0 7 Mc = 0 by rw [within_iff]; right; decide), Option.bind_some]
    · rw [if_pos (show nI 8 = (8 : Int32) from rfl)]
  · have hc8 : c < 8 := by omega
    have cn : ¬ nI c = (8 : Int32) := fun e => q8 ((nI_eq (b := 8) (by omega) (by decide)).mp e)
    have cin : am_in (nI c) 8 = true := am_in_nI hc8 (by decide)
    rw [if_neg (show ¬ f_w_within (nI c) 0 7 Mc = 0 from within_yes Mc (n := 7) (by omega) (by decide)), if_pos cin, Option.bind_some, if_neg cn, nI_clamp (by omega)]
    generalize hM' : si (si (si (si Mc 8 c (nI ra)) 9 c (nI rb)) 10 c d) 7 3 (nI (c + 1)) = Mc'
    have cE : (Option.bind (if am_in (gi (si Mc 8 c (nI ra)) 7 3) 8 = true then
        Option.bind (some (si (si Mc 8 c (nI ra)) 9 ((gi (si Mc 8 c (nI ra)) 7 3)).toNatClampNeg (nI rb))) fun q2 =>
        (if am_in (gi q2 7 3) 8 = true then
          Option.bind (some (si q2 10 ((gi q2 7 3)).toNatClampNeg d)) fun q3 =>
          Option.bind (some (si q3 7 3 ((gi q3 7 3) + (1 : Int32)))) fun q4 =>
          some (((gi q4 7 3) - (1 : Int32)), q4)
        else none)
      else none) fun q1 => some (q1.1, q1.2)) = some (nI c, Mc') := by
      have e1 : gi (si Mc 8 c (nI ra)) 7 3 = nI c := h.c7
      rw [e1, if_pos cin, Option.bind_some, nI_clamp (by omega)]
      have e2 : gi (si (si Mc 8 c (nI ra)) 9 c (nI rb)) 7 3 = nI c := h.c7
      rw [e2, if_pos cin, Option.bind_some, nI_clamp (by omega)]
      have e3 : gi (si (si (si Mc 8 c (nI ra)) 9 c (nI rb)) 10 c d) 7 3 = nI c := h.c7
      rw [e3, nI_1, hM', Option.bind_some, Option.bind_some]
      have e4 : gi Mc' 7 3 = nI (c + 1) := by rw [← hM']; rfl
      rw [e4, nI_pred]
    have em := rest_eq (M := Mr) rfl
    generalize hB : upd (upd (upd (upd (upd (upd (upd (upd (Mr.1 130) (12 + 7 * c + 0) (nI ra)) (12 + 7 * c + 1) (nI rb)) (12 + 7 * c + 2) d) (12 + 7 * c + 3) 1) (12 + 7 * c + 4) 0) (12 + 7 * c + 5) 0) (12 + 7 * c + 6) (-1)) 0 (nI (c + 1)) = B
    have rE : (Option.bind (f_m_set (nI c) (0 : Int32) (nI ra) Mr) fun q1 =>
          Option.bind (f_m_set (nI c) (1 : Int32) (nI rb) q1) fun q2 =>
          Option.bind (f_m_set (nI c) (2 : Int32) d q2) fun q3 =>
          Option.bind (f_m_sit (nI c) q3) fun q4 =>
          Option.bind (some (si q4 130 0 ((gi q4 130 0) + (1 : Int32)))) fun q5 =>
          some (nI c, q5)) = some (nI c, sr Mr 130 B) := by
      have s0 := sS (M := Mr) (F := Mr.1 130) (g := c) (x := 0) 0 (nI ra) rfl (by omega) (by omega)
      rw [sr_self] at s0
      rw [s0, Option.bind_some, sS (x := 1) 1 _ rfl (by omega) (by omega), Option.bind_some, sS (x := 2) 2 _ rfl (by omega) (by omega), Option.bind_some, sit_m (by omega), Option.bind_some, gi130, si130, pk_un (by omega), pk_un (by omega), pk_un (by omega), pk_un (by omega), pk_un (by omega), pk_un (by omega), pk_un (by omega), h.c130, nI_1, Option.bind_some, hB]
    have oB : ∀ j, j ≠ 0 → ¬ (12 + 7 * c ≤ j ∧ j < 19 + 7 * c) → B j = Mr.1 130 j := fun j q1 q2 => by
      rw [← hB, pk_un q1, pk_un (by omega), pk_un (by omega), pk_un (by omega), pk_un (by omega), pk_un (by omega), pk_un (by omega), pk_un (by omega)]
    have B0 : B 0 = nI (c + 1) := by rw [← hB, pk_us]
    have Ba : B (12 + 7 * c) = nI ra := by
      rw [← hB, pk_un (by omega), pk_un (by omega), pk_un (by omega), pk_un (by omega), pk_un (by omega), pk_un (by omega), pk_un (by omega)]
      exact pk_us
    have Bb : B (13 + 7 * c) = nI rb := by
      rw [← hB, pk_un (by omega), pk_un (by omega), pk_un (by omega), pk_un (by omega), pk_un (by omega), pk_un (by omega), show 13 + 7 * c = 12 + 7 * c + 1 by omega, pk_us]
    have Bd : B (14 + 7 * c) = d := by
      rw [← hB, pk_un (by omega), pk_un (by omega), pk_un (by omega), pk_un (by omega), pk_un (by omega), show 14 + 7 * c = 12 + 7 * c + 2 by omega, pk_us]
    have B3 : B (15 + 7 * c) = 1 := by
      rw [← hB, pk_un (by omega), pk_un (by omega), pk_un (by omega), pk_un (by omega), show 15 + 7 * c = 12 + 7 * c + 3 by omega, pk_us]
    have B4 : B (16 + 7 * c) = 0 := by
      rw [← hB, pk_un (by omega), pk_un (by omega), pk_un (by omega), show 16 + 7 * c = 12 + 7 * c + 4 by omega, pk_us]
    have B5 : B (17 + 7 * c) = 0 := by
      rw [← hB, pk_un (by omega), pk_un (by omega), show 17 + 7 * c = 12 + 7 * c + 5 by omega, pk_us]
    have B6 : B (18 + 7 * c) = -1 := by
      rw [← hB, pk_un (by omega), show 18 + 7 * c = 12 + 7 * c + 6 by omega, pk_us]
    have ok : ∀ q, q ≠ 7 → q ≠ 8 → q ≠ 9 → q ≠ 10 → Mc'.1 q = Mc.1 q := fun q a b cc dd => by
      rw [← hM', si_1, if_neg a, si_1, if_neg dd, si_1, if_neg cc, si_1, if_neg b]
    have o7 : Mc'.1 7 3 = nI (c + 1) := by rw [← hM']; rfl
    have o8 : Mc'.1 8 = upd (Mc.1 8) c (nI ra) := by rw [← hM']; rfl
    have o9 : Mc'.1 9 = upd (Mc.1 9) c (nI rb) := by rw [← hM']; rfl
    have o10 : Mc'.1 10 = upd (Mc.1 10) c d := by rw [← hM']; rfl
    have hcs : CS Mc Mc' := fun q hq => ok q (by omega) (by omega) (by omega) (by omega)
    have hrs : RS Mr (sr Mr 130 B) := ⟨fun q _ hq _ _ _ => by rw [sr_1, if_neg hq], rfl, rfl, rfl⟩
    refine ⟨nI c, Mc', sr Mr 130 B, c + 1, cE, rE, Or.inr ⟨c, hc8, rfl⟩, ⟨?_, LX_cs S.2 hcs hrs⟩, hcs, hrs⟩
    rw [sr_1, if_pos rfl]
    obtain ⟨h1', h2', h3', h4', h5'⟩ := id S.1
    have ok' : ∀ q, q ≠ 7 → q ≠ 8 → q ≠ 9 → q ≠ 10 → Mc'.1 (q + 0) = Mc.1 (q + 0) := fun q a b cc dd => ok _ (by omega) (by omega) (by omega) (by omega)
    have p2 : (2 : Nat) ^ c < 2 ^ (c + 1) := Nat.pow_lt_pow_right (by decide) (by omega)
    refine ⟨⟨by omega, o7, B0, fun g hg => ?_⟩, ?_, ?_, ?_, ?_⟩
    · show (∃ r, r ≤ 9 ∧ Mc'.1 8 g = nI r ∧ B (12 + 7 * g) = nI r) ∧ (∃ r, r ≤ 9 ∧ Mc'.1 9 g = nI r ∧ B (13 + 7 * g) = nI r) ∧ (Mc'.1 10 g = B (14 + 7 * g) ∧ (Mc'.1 10 g = -1 ∨ ∃ r, r ≤ 99 ∧ Mc'.1 10 g = nI r))
      rw [o8, o9, o10]
      by_cases e : g = c
      · subst e
        rw [pk_us, pk_us, pk_us, Ba, Bb, Bd]
        exact ⟨⟨ra, hra, rfl, rfl⟩, ⟨rb, hrb, rfl, rfl⟩, rfl, hd⟩
      · rw [pk_un e, pk_un e, pk_un e, oB _ (by omega) (by omega), oB _ (by omega) (by omega), oB _ (by omega) (by omega)]
        exact h1'.2.2.2 g (by omega)
    · rw [ok' 6 (by omega) (by omega) (by omega) (by omega)]
      obtain ⟨t1, t2, t3, t4, t5⟩ := h2'
      exact ⟨t1, t2, by rw [oB 5 (by omega) (by omega)]; exact t3, by rw [oB 6 (by omega) (by omega)]; exact t4, t5⟩
    · rw [ok' 12 (by omega) (by omega) (by omega) (by omega)]
      refine EA.ev (nt := nt) (mo := mo) (dr := dr) (gn := gn) (sp := sp) (lm := lm) (lw := lw) (lk := lk) (lf := lf) (bh := bh) (bd := bd) ?_
      refine EA.of (by omega) B0 h.nt12 (by rw [oB 1 (by omega) (by omega)]; exact h.nt130) h.nt999 h.mo12 (by rw [oB 2 (by omega) (by omega)]; exact h.mo130) h.mo99 h.dr12 (by rw [oB 4 (by omega) (by omega)]; exact h.dr130) h.drl h.gn12 (Nat.lt_trans h.gnl p2) h.sp12 (by rw [oB 8 (by omega) (by omega)]; exact h.sp130) h.sp40 h.wr12 (by rw [oB 9 (by omega) (by omega)]; exact h.wr130) (by rw [oB 3 (by omega) (by omega)]; exact h.wine) (fun i hi => ?_) (fun g hg => ?_) (fun j hj => ?_)
      · have hs := h.sp40
        obtain ⟨l1, l2, l3, l4, l5⟩ := h.L i hi
        refine ⟨l1, by rw [oB _ (by omega) (by omega)]; exact h.lA hi, l3, ?_, l5⟩
        rcases l4 with q | q
        · exact Or.inl (by omega)
        · exact Or.inr q
      · by_cases e : g = c
        · subst e
          have ne : ∀ i, i < sp → lw i ≠ g := fun i hi => by
            obtain ⟨-, -, -, l4, -⟩ := h.L i hi
            omega
          rw [B3, B4, B5, B6, lt_tb h.gnl (Nat.le_refl g), ct_false (fun i hi => by simp [ne i hi]), ct_false (fun i hi => by simp [ne i hi]), lastI_none ne]
          exact ⟨rfl, rfl, rfl, rfl⟩
        · rw [oB _ (by omega) (by omega), oB _ (by omega) (by omega), oB _ (by omega) (by omega), oB _ (by omega) (by omega)]
          exact ⟨h.g3 (by omega), h.g4 (by omega), h.g5 (by omega), h.g6 (by omega)⟩
      · obtain ⟨b1, b2, b3⟩ := h.B j hj
        exact ⟨b1, by rw [oB _ (by omega) (by omega)]; exact b2, b3⟩
    · rw [ok' 14 (by omega) (by omega) (by omega) (by omega)]
      obtain ⟨k, n, a1, a2, a3, a4, a5, a6, a7, a8⟩ := h4'
      have es : ∀ j i, stp B j i = stp (Mr.1 130) j i := fun j i => oB _ (by omega) (by omega)
      refine ⟨k, n, a1, a2, a3, by rw [oB 7 (by omega) (by omega)]; exact a4, a5, fun j hj => ?_, fun i j hi hj => ?_, fun j hj => ?_⟩
      · obtain ⟨cj, b1, b2⟩ := a6 j hj
        refine ⟨cj, by omega, ?_⟩
        have q : (n + 30 - k + j) % 30 < 30 := Nat.mod_lt _ (by omega)
        show Ev (Mc'.1 (16 + 0 + (n + 30 - k + j) % 30)) _ _ _
        rw [ok _ (by omega) (by omega) (by omega) (by omega)]
        exact Ev.cong b2 (fun _ _ => rfl) (fun i hi => es j i) (fun i _ => oB _ (by omega) (by omega))
      · rw [es i 1, es j 1]
        exact a7 i j hi hj
      · rw [es j 1, oB 1 (by omega) (by omega)]
        exact a8 j hj
    · rw [ok' 48 (by omega) (by omega) (by omega) (by omega), ok' 49 (by omega) (by omega) (by omega) (by omega), ok' 50 (by omega) (by omega) (by omega) (by omega)]
      intro u hu
      rw [oB _ (by omega) (by omega), oB _ (by omega) (by omega), oB _ (by omega) (by omega)]
      obtain ⟨z1, z2, s, z3, z4⟩ := h5' u hu
      exact ⟨z1, z2, s, by omega, z4⟩
theorem c_there (h : Cx Mc Mr c nt mo dr gn sp lm lw lk lf bh bd) {g : Nat} (hg : g < c) : (f_t_isThere (nI g) Mc = 0 ↔ gn.testBit g = true) ∧ ∃ v, f_m_isThere (nI g) Mr = some v ∧ (v = 0 ↔ gn.testBit g = true) := by
  rw [h.cis hg, h.ris hg]
  by_cases q : gn.testBit g = true
  · rw [if_pos q]
    exact ⟨⟨fun _ => q, fun _ => rfl⟩, 0, rfl, fun _ => q, fun _ => rfl⟩
  · rw [if_neg q]
    exact ⟨⟨fun e => absurd e (by decide), fun e => absurd e q⟩, 1, rfl, fun e => absurd e (by decide), fun e => absurd e q⟩
theorem c_full (h : Cx Mc Mr c nt mo dr gn sp lm lw lk lf bh bd) : (f_e_isFull Mc = 0 ↔ sp < 40) ∧ ((40 : Int32) ≤ gi Mr 130 8 ↔ ¬ sp < 40) ∧ (gi Mr 130 8 = (40 : Int32) ↔ ¬ sp < 40) := by
  have hs := h.sp40
  unfold f_e_isFull
  rw [show f_e_spoken Mc = nI sp from h.sp12, show gi Mr 130 8 = nI sp from h.sp130]
  refine ⟨?_, ?_, ?_⟩
  · by_cases q : sp < 40
    · rw [if_pos (show nI sp < (40 : Int32) from nI_lt (b := 40) q (by decide))]
      exact ⟨fun _ => q, fun _ => rfl⟩
    · rw [if_neg (show ¬ nI sp < (40 : Int32) from nI_nlt (b := 40) (by omega) (by omega))]
      exact ⟨fun e => absurd e (by decide), fun e => absurd e q⟩
  · exact (nI_leI (a := 40) (by decide) (by omega)).trans (by omega)
  · exact (nI_eq (b := 40) (by omega) (by decide)).trans (by omega)
theorem c_canSay (h : Cx Mc Mr c nt mo dr gn sp lm lw lk lf bh bd) {g : Nat} (hg : g < c) : ∃ v, f_m_canSay (nI g) Mr = some v ∧ (v = 0 ↔ (gn.testBit g = true ∨ ¬ sp < 40)) := by
  obtain ⟨-, v, e1, e2⟩ := c_there h hg
  obtain ⟨-, e3, -⟩ := c_full h
  unfold f_m_canSay
  rw [e1, Option.bind_some]
  by_cases q : gn.testBit g = true
  · rw [if_pos (e2.mpr q)]
    exact ⟨0, rfl, fun _ => Or.inl q, fun _ => rfl⟩
  · rw [if_neg (fun e => q (e2.mp e))]
    by_cases q2 : sp < 40
    · rw [if_neg (fun e => (e3.mp e) q2)]
      exact ⟨1, rfl, fun e => absurd e (by decide), fun e => by rcases e with e | e; exact absurd e q; exact absurd q2 e⟩
    · rw [if_pos (e3.mpr q2)]
      exact ⟨0, rfl, fun _ => Or.inr q2, fun _ => rfl⟩
theorem c_noThere (h : Cx Mc Mr c nt mo dr gn sp lm lw lk lf bh bd) {x : Int32} (e : f_g_knows x Mc = 0) : f_t_isThere x Mc = 0 := by
  unfold f_t_isThere
  rw [if_pos e]
theorem m2_ne {f : Nat} (hf : f ≤ 199) : ¬ nI f - 1 = (-2 : Int32) := by
  intro e
  have := congrArg Int32.toInt e
  rw [m1_toInt (by omega)] at this
  have s : (-2 : Int32).toInt = -2 := by decide
  omega
/-- a word, by a call of one's own -/
theorem sim_speak (hN : 4000 ≤ N) (S : Sm Mc Mr c t) (x : Int32) {k : Nat} (hk : k ≤ 3) : ∃ v Mc' Mr', f_w_speak N x (nI k) 1 Mc = some (v, Mc') ∧ f_m_say N x (nI k) Mr = some (v, Mr') ∧ Sm Mc' Mr' c t ∧ CS Mc Mc' ∧ RS Mr Mr' := by
  obtain ⟨nt, mo, dr, gn, sp, lm, lw, lk, lf, bh, bd, h⟩ := S.cx
  unfold f_w_speak f_m_say
  rcases h.gcase x with ⟨e1, e2⟩ | ⟨g, hg, rfl, n1, n2⟩
  · exact ⟨-2, Mc, Mr, by rw [if_pos (c_noThere h e1)], by rw [if_pos e2], S, CS.rf, RS.rf⟩
  rw [if_neg n2, isIn_eq _ _ _ Mr Mc, if_neg (show ¬ f_w_within (nI k) 0 3 Mc = 0 from within_yes Mc (n := 3) hk (by decide))]
  obtain ⟨w, w1, w2⟩ := c_canSay h hg
  obtain ⟨e3, -⟩ := c_there h hg
  obtain ⟨e4, -, -⟩ := c_full h
  rw [w1, Option.bind_some]
  by_cases q : gn.testBit g = true
  · exact ⟨-2, Mc, Mr, by rw [if_pos (e3.mpr q)], by rw [if_pos (w2.mpr (Or.inl q))], S, CS.rf, RS.rf⟩
  rw [if_neg (fun e => q (e3.mp e))]
  by_cases q2 : sp < 40
  · obtain ⟨M1, M2, k1, k2, k3, k4, k5, k6⟩ := sim_keep hN S h
    obtain ⟨f, M3, M4, s1, s2, s3, s4, s5, s6⟩ := sim_say hN k3 k6 q2 hg hk
    refine ⟨nI f - 1, M3, M4, ?_, ?_, s4, k4.tr s5, k5.tr s6⟩
    · rw [if_pos (e4.mpr q2), if_neg (show ¬ (1 : Int32) = 0 by decide), k1, Option.bind_some, s2]
    · rw [if_neg (fun e => by rcases w2.mp e with x | x; exact q x; exact x q2), k2, Option.bind_some, s3, Option.bind_some]
  · exact ⟨-2, Mc, Mr, by rw [if_neg (fun e => q2 (e4.mp e))], by rw [if_pos (w2.mpr (Or.inr q2))], S, CS.rf, RS.rf⟩
/-- a word in years of draws -/
theorem sim_drawSay (hN : 4000 ≤ N) (S : Sm Mc Mr c t) {g k : Nat} (hg : g < c) (hk : k ≤ 3) : ∃ v q Mc' Mr', f_w_speak N (nI g) (nI k) 0 Mc = some (v, Mc') ∧ f_m_canSay (nI g) Mr = some q ∧ (if q = 0 then some ((0 : Int32), Mr) else Option.bind (f_m_sayNow N (nI g) (nI k) Mr) fun q5 => some ((0 : Int32), q5.2)) = some (0, Mr') ∧ Sm Mc' Mr' c t ∧ CS Mc Mc' ∧ RS Mr Mr' := by
  obtain ⟨nt, mo, dr, gn, sp, lm, lw, lk, lf, bh, bd, h⟩ := S.cx
  obtain ⟨w, w1, w2⟩ := c_canSay h hg
  obtain ⟨e3, -⟩ := c_there h hg
  obtain ⟨e4, -, -⟩ := c_full h
  unfold f_w_speak
  by_cases q : gn.testBit g = true
  · exact ⟨-2, w, Mc, Mr, by rw [if_pos (e3.mpr q)], w1, by rw [if_pos (w2.mpr (Or.inl q))], S, CS.rf, RS.rf⟩
  rw [if_neg (fun e => q (e3.mp e))]
  by_cases q2 : sp < 40
  · obtain ⟨f, M3, M4, s1, s2, s3, s4, s5, s6⟩ := sim_say hN S h q2 hg hk
    exact ⟨nI f - 1, w, M3, M4, by rw [if_pos (e4.mpr q2), if_pos (show (0 : Int32) = 0 from rfl), s2], w1, by rw [if_neg (fun e => by rcases w2.mp e with x | x; exact q x; exact x q2), s3, Option.bind_some], s4, s5, s6⟩
  · exact ⟨-2, w, Mc, Mr, by rw [if_neg (fun e => q2 (e4.mp e))], w1, by rw [if_pos (w2.mpr (Or.inr q2))], S, CS.rf, RS.rf⟩
theorem sim_askop (hN : 4000 ≤ N) (S : Sm Mc Mr c t) : ∃ v Mc' Mr', f_w_ask Mc = some (v, Mc') ∧ f_m_ask N Mr = some (v, Mr') ∧ (v = 0 ∨ v = 1) ∧ Sm Mc' Mr' c t ∧ CS Mc Mc' ∧ RS Mr Mr' := by
  obtain ⟨nt, mo, dr, gn, sp, lm, lw, lk, lf, bh, bd, h⟩ := S.cx
  obtain ⟨e4, -, e5⟩ := c_full h
  unfold f_w_ask f_m_ask
  by_cases q2 : sp < 40
  · obtain ⟨M1, M2, k1, k2, k3, k4, k5, k6⟩ := sim_keep hN S h
    obtain ⟨M3, M4, s2, s3, s4, s5, s6⟩ := sim_ask k3 k6 q2
    exact ⟨1, M3, M4, by rw [if_pos (e4.mpr q2), k1, Option.bind_some, s2, Option.bind_some], by rw [if_neg (fun e => (e5.mp e) q2), k2, Option.bind_some, s3, Option.bind_some], Or.inr rfl, s4, k4.tr s5, k5.tr s6⟩
  · exact ⟨0, Mc, Mr, by rw [if_neg (fun e => q2 (e4.mp e))], by rw [if_pos (e5.mpr q2)], Or.inl rfl, S, CS.rf, RS.rf⟩
theorem sim_sendop (hN : 4000 ≤ N) (S : Sm Mc Mr c t) (x : Int32) : ∃ v Mc' Mr', f_w_send x Mc = some (v, Mc') ∧ f_m_send N x Mr = some (v, Mr') ∧ (v = 0 ∨ v = 1) ∧ Sm Mc' Mr' c t ∧ CS Mc Mc' ∧ RS Mr Mr' := by
  obtain ⟨nt, mo, dr, gn, sp, lm, lw, lk, lf, bh, bd, h⟩ := S.cx
  unfold f_w_send f_m_send
  rcases h.gcase x with ⟨e1, e2⟩ | ⟨g, hg, rfl, n1, n2⟩
  · exact ⟨0, Mc, Mr, by rw [if_pos (c_noThere h e1)], by rw [if_pos e2], Or.inl rfl, S, CS.rf, RS.rf⟩
  obtain ⟨e3, w, w1, w2⟩ := c_there h hg
  rw [if_neg n2, w1, Option.bind_some]
  by_cases q : gn.testBit g = true
  · exact ⟨0, Mc, Mr, by rw [if_pos (e3.mpr q)], by rw [if_pos (w2.mpr q)], Or.inl rfl, S, CS.rf, RS.rf⟩
  · obtain ⟨M1, M2, k1, k2, k3, k4, k5, k6⟩ := sim_keep hN S h
    obtain ⟨M3, M4, s2, s3, s4, s5, s6⟩ := sim_gone k3 k6 hg
    exact ⟨1, M3, M4, by rw [if_neg (fun e => q (e3.mp e)), k1, Option.bind_some, s2, Option.bind_some], by rw [if_neg (fun e => q (w2.mp e)), k2, Option.bind_some, s3, Option.bind_some], Or.inr rfl, s4, k4.tr s5, k5.tr s6⟩
theorem sim_dinop (hN : 4000 ≤ N) (S : Sm Mc Mr c t) : ∃ v Mc' Mr', f_w_dinner N Mc = some (v, Mc') ∧ f_m_dinner N Mr = some (v, Mr') ∧ (v = -1 ∨ ∃ H, H < 256 ∧ v = nI H) ∧ Sm Mc' Mr' c t ∧ CS Mc Mc' ∧ RS Mr Mr' := by
  obtain ⟨nt, mo, dr, gn, sp, lm, lw, lk, lf, bh, bd, h⟩ := S.cx
  have hn := h.nt999
  unfold f_w_dinner f_m_dinner
  rw [show f_e_night Mc = nI nt from h.nt12, show gi Mr 130 1 = nI nt from h.nt130]
  by_cases q : nt < 999
  · obtain ⟨M1, M2, k1, k2, k3, k4, k5, k6⟩ := sim_keep hN S h
    obtain ⟨H, M3, M4, s1, s2, s3, s4, s5, s6⟩ := sim_end hN k3 k6 q
    exact ⟨nI H, M3, M4, by rw [if_pos (show nI nt < (999 : Int32) from nI_lt (b := 999) q (by decide)), k1, Option.bind_some, s2, Option.bind_some], by rw [if_neg (show ¬ nI nt = (999 : Int32) from fun e => by have := (nI_eq (b := 999) (by omega) (by decide)).mp e; omega), k2, Option.bind_some, s3, Option.bind_some], Or.inr ⟨H, s1, rfl⟩, s4, k4.tr s5, k5.tr s6⟩
  · have e : nt = 999 := by omega
    subst e
    exact ⟨-1, Mc, Mr, by rw [if_neg (show ¬ nI 999 < (999 : Int32) by decide)], by rw [if_pos (show nI 999 = (999 : Int32) from rfl)], Or.inl rfl, S, CS.rf, RS.rf⟩
/-- moments pass -/
theorem sim_passgo (hN : 4000 ≤ N) {m : Nat} (hm : m ≤ 1000) : ∀ (n i : Nat) (Mc Mr : Mem), Sm Mc Mr c t → i ≤ m → m < i + n → ∃ v Mc' Mr', f_w_passAsCan_2 N n (nI m) (nI i) Mc = some (v, Mc') ∧ f_m_arePassed_2 N n (nI m) (nI i) Mr = some (v, Mr') ∧ (v = 0 ∨ v = 1) ∧ Sm Mc' Mr' c t ∧ CS Mc Mc' ∧ RS Mr Mr' ∧ ∀ mo, Mc.1 12 1 = nI mo → mo + (m - i) ≤ 99 → v = 1 := by
  intro n
  induction n with
  | zero => intro i Mc Mr _ h1 h2; omega
  | succ n ih =>
    intro i Mc Mr S h1 h2
    rw [f_w_passAsCan_2, f_m_arePassed_2]
    by_cases e : i = m
    · subst e
      have le : nI i ≤ nI i := Int32.le_refl _
      exact ⟨1, Mc, Mr, by rw [if_pos le], by rw [if_pos le], Or.inr rfl, S, CS.rf, RS.rf, fun _ _ _ => rfl⟩
    · have nle : ¬ nI m ≤ nI i := nI_ge (by omega) (by omega)
      rw [if_neg nle, if_neg nle]
      obtain ⟨nt, mo, dr, gn, sp, lm, lw, lk, lf, bh, bd, h⟩ := S.cx
      have hmo := h.mo99
      rw [show f_e_moment Mc = nI mo from h.mo12, show gi Mr 130 2 = nI mo from h.mo130]
      by_cases q : mo < 99
      · obtain ⟨M1, M2, k1, k2, k3, k4, k5, k6⟩ := sim_keep hN S h
        obtain ⟨M3, M4, s2, s3, s4, s5, s6, s7, s8⟩ := sim_pass hN k3 k6 q
        obtain ⟨v, M5, M6, v1, v2, v3, v4, v5, v6, v7⟩ := ih (i + 1) M3 M4 s4 (by omega) (by omega)
        refine ⟨v, M5, M6, ?_, ?_, v3, v4, (k4.tr s5).tr v5, (k5.tr s6).tr v6, fun mo' e1 e2 => ?_⟩
        · rw [if_pos (show nI mo < (99 : Int32) from nI_lt (b := 99) q (by decide)), k1, Option.bind_some, s2, Option.bind_some, nI_1, v1]
        · rw [if_neg (show ¬ nI mo = (99 : Int32) from fun e => by have := (nI_eq (b := 99) (by omega) (by decide)).mp e; omega), k2, Option.bind_some, s3, Option.bind_some, nI_1, v2]
        · have : mo' = mo := by
            rw [h.mo12] at e1
            exact (nI_inj (by omega) (by omega) e1).symm
          exact v7 (mo + 1) s7 (by omega)
      · have e99 : mo = 99 := by omega
        subst e99
        refine ⟨0, Mc, Mr, by rw [if_neg (show ¬ nI 99 < (99 : Int32) by decide)], by rw [if_pos (show nI 99 = (99 : Int32) from rfl)], Or.inl rfl, S, CS.rf, RS.rf, fun mo' e1 e2 => ?_⟩
        have : mo' = 99 := by
          rw [h.mo12] at e1
          exact (nI_inj (by omega) (by omega) e1).symm
        omega
theorem sim_passop (hN : 4000 ≤ N) (S : Sm Mc Mr c t) {m : Nat} (hm : m ≤ 1000) : ∃ v Mc' Mr', f_w_passAsCan N (nI m) Mc = some (v, Mc') ∧ f_m_arePassed N (nI m) Mr = some (v, Mr') ∧ (v = 0 ∨ v = 1) ∧ Sm Mc' Mr' c t ∧ CS Mc Mc' ∧ RS Mr Mr' ∧ ∀ mo, Mc.1 12 1 = nI mo → mo + m ≤ 99 → v = 1 := by
  obtain ⟨v, M5, M6, v1, v2, v3, v4, v5, v6, v7⟩ := sim_passgo (c := c) (t := t) hN hm N 0 Mc Mr S (by omega) (by omega)
  exact ⟨v, M5, M6, v1, v2, v3, v4, v5, v6, fun mo e1 e2 => v7 mo e1 (by omega)⟩
end OPS3
section TOP3
variable {N : Nat}
theorem o_0 : O_0 (Inv LX) (Inv LX) N := by
  intro M a b d hM
  exact two_run hM (cf := f_w_guest a b d) (rf := f_m_guest a b d) (fun c t Mr S => by
    obtain ⟨v, M1, M2, c', e1, e2, -, e3, e4, e5⟩ := sim_guest S a b d
    exact ⟨v, M1, M2, c', e1, e2, e3, e4, e5⟩)
theorem o_6 (hN : 4000 ≤ N) : O_6 (Inv LX) (Inv LX) N := by
  intro M a b hM
  refine two_run hM (cf := f_w_say N a b) (rf := f_m_say N a b) (fun c t Mr S => ?_)
  obtain ⟨nt, mo, dr, gn, sp, lm, lw, lk, lf, bh, bd, h⟩ := S.cx
  unfold f_w_say
  by_cases h1 : f_w_within b 0 3 M = 0
  · refine ⟨-2, M, Mr, c, by rw [if_pos h1], ?_, S, CS.rf, RS.rf⟩
    unfold f_m_say
    rw [isIn_eq b _ _ Mr M, if_pos h1]
    split <;> rfl
  · obtain ⟨k, hk, rfl⟩ := within_n (n := 3) (by decide) h1
    obtain ⟨v, M1, M2, e1, e2, e3, e4, e5⟩ := sim_speak hN S a hk
    exact ⟨v, M1, M2, c, by rw [if_neg h1, e1, Option.bind_some], e2, e3, e4, e5⟩
theorem o_7 (hN : 4000 ≤ N) : O_7 (Inv LX) (Inv LX) N := by
  intro M hM
  exact two_run hM (cf := f_w_ask) (rf := f_m_ask N) (fun c t Mr S => by
    obtain ⟨v, M1, M2, e1, e2, -, e3, e4, e5⟩ := sim_askop hN S
    exact ⟨v, M1, M2, c, e1, e2, e3, e4, e5⟩)
theorem o_8 (hN : 4000 ≤ N) : O_8 (Inv LX) (Inv LX) N := by
  intro M a hM
  refine two_run hM (cf := f_w_pass N a) (rf := f_m_pass N a) (fun c t Mr S => ?_)
  obtain ⟨nt, mo, dr, gn, sp, lm, lw, lk, lf, bh, bd, h⟩ := S.cx
  have hmo := h.mo99
  unfold f_w_pass f_m_pass
  rw [isIn_eq a _ _ Mr M]
  by_cases h1 : f_w_within a 1 60 M = 0
  · exact ⟨-1, M, Mr, c, by rw [if_pos h1], by rw [if_pos h1], S, CS.rf, RS.rf⟩
  · have ha : ∃ m, m ≤ 60 ∧ a = nI m := by
      rw [within_iff] at h1
      have q1 : ¬ a < 0 := fun e => h1 (Or.inl (by
        rw [Int32.lt_iff_toInt_lt] at *
        have s1 : (1 : Int32).toInt = 1 := by decide
        have s0 : (0 : Int32).toInt = 0 := by decide
        omega))
      obtain ⟨j, hj, rfl⟩ := nI_of q1
      refine ⟨j, ?_, rfl⟩
      rcases Nat.lt_or_ge 60 j with q3 | q3
      · exact absurd (Or.inr (show (60 : Int32) < nI j from nI_lt (a := 60) q3 hj)) h1
      · exact q3
    obtain ⟨m, hm, rfl⟩ := ha
    rw [if_neg h1, if_neg h1, show f_e_moment M = nI mo from h.mo12, show gi Mr 130 2 = nI mo from h.mo130, nI_add]
    by_cases q : mo + m ≤ 99
    · obtain ⟨v, M1, M2, e1, e2, -, e3, e4, e5, e6⟩ := sim_passop hN S (m := m) (by omega)
      have v1 := e6 mo h.mo12 q
      subst v1
      obtain ⟨nt', mo', dr', gn', sp', lm', lw', lk', lf', bh', bd', h'⟩ := e3.cx
      refine ⟨nI mo', M1, M2, c, ?_, ?_, e3, e4, e5⟩
      · rw [if_pos (show nI (mo + m) ≤ (99 : Int32) from nI_le (b := 99) q (by decide)), e1, Option.bind_some]
        show some (M1.1 12 1, M1) = _
        rw [h'.mo12]
      · rw [if_neg (show ¬ (99 : Int32) < nI (mo + m) from nI_nlt (a := 99) (by omega) (by omega)), e2, Option.bind_some, if_neg (show ¬ (1 : Int32) = 0 by decide)]
        show some (M2.1 130 2, M2) = _
        rw [h'.mo130]
    · exact ⟨-1, M, Mr, c, by rw [if_neg (show ¬ nI (mo + m) ≤ (99 : Int32) from nI_ge (a := 99) (by omega) (by omega))], by rw [if_pos (show (99 : Int32) < nI (mo + m) from nI_lt (a := 99) (by omega) (by omega))], S, CS.rf, RS.rf⟩
theorem o_9 (hN : 4000 ≤ N) : O_9 (Inv LX) (Inv LX) N := by
  intro M a hM
  exact two_run hM (cf := f_w_send a) (rf := f_m_send N a) (fun c t Mr S => by
    obtain ⟨v, M1, M2, e1, e2, -, e3, e4, e5⟩ := sim_sendop hN S a
    exact ⟨v, M1, M2, c, e1, e2, e3, e4, e5⟩)
theorem o_10 (hN : 4000 ≤ N) : O_10 (Inv LX) (Inv LX) N := by
  intro M hM
  exact two_run hM (cf := f_w_dinner N) (rf := f_m_dinner N) (fun c t Mr S => by
    obtain ⟨v, M1, M2, e1, e2, -, e3, e4, e5⟩ := sim_dinop hN S
    exact ⟨v, M1, M2, c, e1, e2, e3, e4, e5⟩)
theorem o_13 (hN : 4000 ≤ N) : O_13 (Inv LX) (Inv LX) N := by
  intro M hM
  exact two_run hM (cf := f_w_undo) (rf := f_m_undo N) (fun c t Mr S => sim_undo hN S)
end TOP3
