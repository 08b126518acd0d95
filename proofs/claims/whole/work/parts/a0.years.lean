/-! Years of draws; texts that are played; what is asked of a guest. -/
section YEARS
variable {Mc Mr : Mem} {c nt mo dr gn sp t : Nat} {lm lw lk lf bh bd : Nat → Nat} {N : Nat}
theorem sim_set (S : Sm Mc Mr c t) (h : Cx Mc Mr c nt mo dr gn sp lm lw lk lf bh bd) {d : Nat} (hd : d < 30259) : Sm (si Mc 12 2 (nI d)) (si Mr 130 4 (nI d)) c t ∧ CS Mc (si Mc 12 2 (nI d)) ∧ RS Mr (si Mr 130 4 (nI d)) := by
  have hc := h.c8
  have hE := (h.move (gn' := gn) (mo' := mo) (dr' := d) h.gnl h.mo99 hd (R' := upd (Mc.1 12) 2 (nI d)) (A' := upd (Mr.1 130) 4 (nI d)) (fun j _ h2 _ => by rw [pk_un h2]) (by rw [pk_un (by omega), h.mo12]) pk_us (by rw [pk_un (by omega), h.gn12]) (fun j _ h2 _ => by rw [pk_un h2]) (by rw [pk_un (by omega), h.mo130]) pk_us (fun g hg => by rw [pk_un (by omega), h.g3 hg])).ev
  have := S.even (M1 := Mc) (M2 := Mr) (fun _ _ _ _ => rfl) (fun _ _ _ _ _ => rfl) ⟨rfl, rfl, rfl⟩ hE (fun j hj => by
    rw [pk_un (by rcases hj with q | q | q | q | ⟨x, y, q1, q2, q3⟩ | q <;> omega)]) (fun i hi => by rw [pk_un (by omega)]) (by rw [pk_un (by omega)]; exact Nat.le_refl _)
  rw [← si_sr, ← si_sr] at this
  exact this
theorem rem7 (dr : Nat) (h : dr < 2 ^ 31) : nI dr - nI dr / (7 : Int32) * (7 : Int32) = nI (dr % 7) := pk_rem (d := 7) h (by decide) (by decide)
theorem sim_one (hN : 4000 ≤ N) (S : Sm Mc Mr c t) (hc0 : 0 < c) {x : Nat} (hx : x < 30259) : ∃ e Mc' Mr', f_w_drawOne N (nI x) Mc = some (e, Mc') ∧ f_m_happens N (nI x) Mr = some (e, Mr') ∧ (e = 0 ∨ e = 1) ∧ Sm Mc' Mr' c t ∧ CS Mc Mc' ∧ RS Mr Mr' := by
  obtain ⟨nt, mo, dr, gn, sp, lm, lw, lk, lf, bh, bd, h⟩ := S.cx
  have hc := h.c8
  have hmo := h.mo99
  have hnt := h.nt999
  obtain ⟨e4, e5, -⟩ := c_full h
  have h7 : x % 7 < 7 := Nat.mod_lt _ (by omega)
  have ge : ∀ k : Nat, k < 100 → ∀ y : Int32, y = nI k → ((nI (x % 7) = y) ↔ x % 7 = k) := fun k hk y hy => by rw [hy]; exact nI_eq (by omega) (by omega)
  unfold f_w_drawOne f_m_happens
  rw [rem7 x (by omega), show gi Mc 7 3 = nI c from h.c7, show gi Mr 130 0 = nI c from h.c130, if_neg (nI_ne0 hc0 (by omega)), if_neg (nI_ne0 hc0 (by omega))]
  by_cases q4 : x % 7 = 4
  · rw [if_pos (show (3 : Int32) < nI (x % 7) from nI_lt (a := 3) (by omega) (by omega)), if_pos ((ge 4 (by omega) 4 rfl).mpr q4), if_pos ((ge 4 (by omega) 4 rfl).mpr q4)]
    by_cases q : sp < 40
    · obtain ⟨M1, M2, s1, s2, s3, s4, s5⟩ := sim_ask S h q
      exact ⟨0, M1, M2, by rw [if_pos (e4.mpr q), s1, Option.bind_some], by rw [if_neg (fun e => (e5.mp e) q), s2, Option.bind_some], Or.inl rfl, s3, s4, s5⟩
    · exact ⟨0, Mc, Mr, by rw [if_neg (fun e => q (e4.mp e))], by rw [if_pos (e5.mpr q)], Or.inl rfl, S, CS.rf, RS.rf⟩
  rw [if_neg (fun e => q4 ((ge 4 (by omega) 4 rfl).mp e)), if_neg (fun e => q4 ((ge 4 (by omega) 4 rfl).mp e))]
  by_cases q5 : x % 7 = 5
  · rw [if_pos (show (3 : Int32) < nI (x % 7) from nI_lt (a := 3) (by omega) (by omega)), if_pos ((ge 5 (by omega) 5 rfl).mpr q5), if_pos ((ge 5 (by omega) 5 rfl).mpr q5), show f_e_moment Mc = nI mo from h.mo12, show gi Mr 130 2 = nI mo from h.mo130]
    by_cases q : mo < 99
    · obtain ⟨M1, M2, s1, s2, s3, s4, s5, -, -⟩ := sim_pass hN S h q
      have nl : ¬ (99 : Int32) ≤ nI mo := nI_ge (b := 99) q (by decide)
      exact ⟨0, M1, M2, by rw [if_neg nl, s1, Option.bind_some], by rw [if_neg nl, s2, Option.bind_some], Or.inl rfl, s3, s4, s5⟩
    · have nl : (99 : Int32) ≤ nI mo := nI_le (a := 99) (by omega) (by omega)
      exact ⟨0, Mc, Mr, by rw [if_pos nl], by rw [if_pos nl], Or.inl rfl, S, CS.rf, RS.rf⟩
  rw [if_neg (fun e => q5 ((ge 5 (by omega) 5 rfl).mp e)), if_neg (fun e => q5 ((ge 5 (by omega) 5 rfl).mp e))]
  by_cases q6 : x % 7 = 6
  · rw [if_pos (show (3 : Int32) < nI (x % 7) from nI_lt (a := 3) (by omega) (by omega)), if_pos ((ge 6 (by omega) 6 rfl).mpr q6), show f_e_night Mc = nI nt from h.nt12, show gi Mr 130 1 = nI nt from h.nt130]
    by_cases q : nt < 999
    · obtain ⟨H, M1, M2, s0, s1, s2, s3, s4, s5⟩ := sim_end hN S h q
      exact ⟨1, M1, M2, by rw [if_neg (show ¬ (999 : Int32) ≤ nI nt from nI_ge (b := 999) q (by decide)), s1, Option.bind_some], by rw [if_neg (show ¬ nI nt = (999 : Int32) from fun e => by have := (nI_eq (b := 999) (by omega) (by decide)).mp e; omega), s2, Option.bind_some, if_neg (nI_pos (by omega))], Or.inr rfl, s3, s4, s5⟩
    · have e : nt = 999 := by omega
      subst e
      exact ⟨0, Mc, Mr, by rw [if_pos (show (999 : Int32) ≤ nI 999 by decide)], by rw [if_pos (show nI 999 = (999 : Int32) from rfl)], Or.inl rfl, S, CS.rf, RS.rf⟩
  · have hk : x % 7 ≤ 3 := by omega
    have hg : x % c < c := Nat.mod_lt _ hc0
    rw [if_neg (show ¬ (3 : Int32) < nI (x % 7) from nI_nlt (a := 3) (by omega) (by omega)), if_neg (fun e => q6 ((ge 6 (by omega) 6 rfl).mp e)), if_neg (nI_nle hc0 (by omega)), pk_rem (by omega) hc0 (by omega)]
    obtain ⟨v, w, M1, M2, s1, s2, s3, s4, s5, s6⟩ := sim_drawSay hN S hg hk
    exact ⟨0, M1, M2, by rw [s1, Option.bind_some], by rw [s2, Option.bind_some]; exact s3, Or.inl rfl, s4, s5, s6⟩
theorem sim_yeargo (hN : 4000 ≤ N) (hc0 : 0 < c) {m : Nat} (hm : m ≤ 1000) : ∀ (n i e : Nat) (Mc Mr : Mem), Sm Mc Mr c t → i ≤ m → m < i + n → e ≤ i → ∃ v Mc' Mr', f_w_years_64 N n (nI m) (nI e) (nI i) Mc = some (v, Mc') ∧ f_m_years_53 N n (nI m) (nI e) (nI i) Mr = some (v, Mr') ∧ Sm Mc' Mr' c t ∧ CS Mc Mc' ∧ RS Mr Mr' := by
  intro n
  induction n with
  | zero => intro i e Mc Mr _ h1 h2; omega
  | succ n ih =>
    intro i e Mc Mr S h1 h2 h3
    rw [f_w_years_64, f_m_years_53]
    by_cases q : i = m
    · subst q
      have le : nI i ≤ nI i := Int32.le_refl _
      exact ⟨nI e, Mc, Mr, by rw [if_pos le], by rw [if_pos le], S, CS.rf, RS.rf⟩
    · have nle : ¬ nI m ≤ nI i := nI_ge (by omega) (by omega)
      obtain ⟨nt, mo, dr, gn, sp, lm, lw, lk, lf, bh, bd, h⟩ := S.cx
      rw [if_neg nle, if_neg nle, show f_e_draw Mc = nI dr from h.dr12, show gi Mr 130 4 = nI dr from h.dr130]
      obtain ⟨x, M1, M2, s1, s2, s3, s4, s5, s6⟩ := sim_one hN S hc0 h.drl
      obtain ⟨nt', mo', dr', gn', sp', lm', lw', lk', lf', bh', bd', h'⟩ := s4.cx
      have hd' := h'.drl
      have lt : (dr' * 269 + 163) % 30259 < 30259 := Nat.mod_lt _ (by omega)
      have ed : nI dr' * (269 : Int32) + (163 : Int32) - (nI dr' * (269 : Int32) + (163 : Int32)) / (30259 : Int32) * (30259 : Int32) = nI ((dr' * 269 + 163) % 30259) := by
        rw [show (269 : Int32) = nI 269 from rfl, show (163 : Int32) = nI 163 from rfl, show (30259 : Int32) = nI 30259 from rfl, nI_mul, nI_add, pk_rem (by omega) (by omega) (by omega)]
      obtain ⟨z1, z2, z3⟩ := sim_set s4 h' lt
      rw [s1, s2, Option.bind_some, Option.bind_some]
      unfold f_w_years_90 f_e_setDraw
      rw [show f_e_draw M1 = nI dr' from h'.dr12, show gi M2 130 4 = nI dr' from h'.dr130, ed, Option.bind_some, Option.bind_some, Option.bind_some, nI_1]
      rcases s3 with rfl | rfl
      · obtain ⟨v, M5, M6, v1, v2, v3, v4, v5⟩ := ih (i + 1) e _ _ z1 (by omega) (by omega) (by omega)
        exact ⟨v, M5, M6, by rw [if_pos (show (0 : Int32) = 0 from rfl), v1], by rw [Int32.add_zero]; exact v2, v3, (s5.tr z2).tr v4, (s6.tr z3).tr v5⟩
      · obtain ⟨v, M5, M6, v1, v2, v3, v4, v5⟩ := ih (i + 1) (e + 1) _ _ z1 (by omega) (by omega) (by omega)
        exact ⟨v, M5, M6, by rw [if_neg (show ¬ (1 : Int32) = 0 by decide), nI_1, v1], by rw [nI_1]; exact v2, v3, (s5.tr z2).tr v4, (s6.tr z3).tr v5⟩
theorem within_1 {x : Int32} {n : Nat} {M : Mem} (hn : n < 2 ^ 31) (h : ¬ f_w_within x 1 (nI n) M = 0) : ∃ j, 1 ≤ j ∧ j ≤ n ∧ x = nI j := by
  rw [within_iff] at h
  have q1 : ¬ x < 0 := fun e => h (Or.inl (by
    rw [Int32.lt_iff_toInt_lt] at *
    have s1 : (1 : Int32).toInt = 1 := by decide
    have s0 : (0 : Int32).toInt = 0 := by decide
    omega))
  obtain ⟨j, hj, rfl⟩ := nI_of q1
  refine ⟨j, ?_, ?_, rfl⟩
  · rcases Nat.lt_or_ge j 1 with q3 | q3
    · exact absurd (Or.inl (show nI j < (1 : Int32) from nI_lt (b := 1) q3 (by decide))) h
    · exact q3
  · rcases Nat.lt_or_ge n j with q3 | q3
    · exact absurd (Or.inr (nI_lt q3 hj)) h
    · exact q3
theorem o_12 (hN : 4000 ≤ N) : O_12 (Inv LX) (Inv LX) N := by
  intro M a b hM
  refine two_run hM (cf := f_w_years N a b) (rf := f_m_years N a b) (fun c t Mr S => ?_)
  obtain ⟨nt, mo, dr, gn, sp, lm, lw, lk, lf, bh, bd, h⟩ := S.cx
  have hc := h.c8
  unfold f_w_years f_m_years
  rw [isIn_eq a _ _ Mr M, isIn_eq b _ _ Mr M]
  by_cases h1 : f_w_within a 0 9999 M = 0
  · exact ⟨-1, M, Mr, c, by rw [if_pos h1], by rw [if_pos h1], S, CS.rf, RS.rf⟩
  by_cases h2 : f_w_within b 1 40 M = 0
  · exact ⟨-1, M, Mr, c, by rw [if_neg h1, if_pos h2], by rw [if_neg h1, if_pos h2], S, CS.rf, RS.rf⟩
  rw [if_neg h1, if_neg h2, if_neg h1, if_neg h2, show gi M 7 3 = nI c from h.c7, show gi Mr 130 0 = nI c from h.c130]
  obtain ⟨s, hs, rfl⟩ := within_n (n := 9999) (by decide) h1
  obtain ⟨m, hm1, hm2, rfl⟩ := within_1 (n := 40) (by decide) h2
  by_cases q : c = 0
  · subst q
    exact ⟨-1, M, Mr, 0, by rw [if_neg (show ¬ (0 : Int32) < nI 0 by decide)], by rw [if_pos (show nI 0 = (0 : Int32) from rfl)], S, CS.rf, RS.rf⟩
  · obtain ⟨M1, M2, k1, k2, k3, k4, k5, k6⟩ := sim_keep hN S h
    obtain ⟨z1, z2, z3⟩ := sim_set k3 k6 (d := s * 3 + 61) (by omega)
    obtain ⟨v, M5, M6, v1, v2, v3, v4, v5⟩ := sim_yeargo (c := c) (t := t) hN (by omega) (m := m) (by omega) N 0 0 _ _ z1 (by omega) (by omega) (by omega)
    have es : nI s * (3 : Int32) + (61 : Int32) = nI (s * 3 + 61) := by
      rw [show (3 : Int32) = nI 3 from rfl, show (61 : Int32) = nI 61 from rfl, nI_mul, nI_add]
    refine ⟨v, M5, M6, c, ?_, ?_, v3, (k4.tr z2).tr v4, (k5.tr z3).tr v5⟩
    · rw [if_pos (show (0 : Int32) < nI c from nI_lt (a := 0) (by omega) (by omega)), k1, Option.bind_some]
      unfold f_e_setDraw
      rw [es, Option.bind_some, Option.bind_some]
      exact v1
    · rw [if_neg (nI_ne0 (by omega) (by omega)), k2, Option.bind_some, es, Option.bind_some]
      exact v2
/-! texts that are played -/
theorem w_head {hd f g : Nat} (h1 : hd ≤ 23) (h2 : f ≤ 63) (h3 : g ≤ 9) (M : Mem) : f_p_headOf (nI (hd + 32 * f + 2048 * g)) M = nI hd ∧ f_p_firstOf (nI (hd + 32 * f + 2048 * g)) M = nI f ∧ f_p_secondOf (nI (hd + 32 * f + 2048 * g)) M = nI g := by
  unfold f_p_headOf f_p_firstOf f_p_secondOf
  refine ⟨?_, ?_, ?_⟩
  · rw [pkA (by omega) 5 (by decide)]
    congr 1
    omega
  · rw [pk_shrN (by omega) 5 5 (by decide), pkA (by have := Nat.div_le_self (hd + 32 * f + 2048 * g) (2 ^ 5); omega) 6 (by decide)]
    congr 1
    omega
  · rw [pk_shrN (by omega) 11 11 (by decide)]
    congr 1
    omega
theorem neH {a : Nat} (b : Nat) {y : Int32} (hy : y = nI b) (ha : a < 100) (hb : b < 100) (h : a ≠ b) : ¬ nI a = y := by
  rw [hy]
  exact fun e => h (nI_inj (by omega) (by omega) e)
theorem sim_perform (hN : 4000 ≤ N) (S : Sm Mc Mr c t) {u k hd f g : Nat} (hu : u < 4) (hk : k < 24) (h1 : 12 ≤ hd) (h2 : hd ≤ 23) (h3 : f ≤ 63) (h4 : g ≤ 9) (e1 : Mr.1 132 (705 * u + 1 + 4 * k) = nI (hd - 12)) (e2 : hd = 15 → Mr.1 132 (705 * u + 2 + 4 * k) = nI f ∧ Mr.1 132 (705 * u + 3 + 4 * k) = nI g) (e3 : 16 ≤ hd → hd ≠ 20 → hd ≠ 23 → Mr.1 132 (705 * u + 2 + 4 * k) = nI f) : ∃ v Mc' Mr' c', f_w_perform N (nI (hd + 32 * f + 2048 * g)) Mc = some (v, Mc') ∧ f_m_isPlayed N (nI (705 * u + 1 + 4 * k)) Mr = some (v, Mr') ∧ Sm Mc' Mr' c' t ∧ CS Mc Mc' ∧ RS Mr Mr' := by
  obtain ⟨w1, w2, w3⟩ := w_head h2 h3 h4 Mc
  have x1 : nI (705 * u + 1 + 4 * k) + (1 : Int32) = nI (705 * u + 2 + 4 * k) := by rw [nI_1]; congr 1; omega
  have x2 : nI (705 * u + 1 + 4 * k) + (2 : Int32) = nI (705 * u + 3 + 4 * k) := by rw [ix7 _ 2 2 rfl]; congr 1; omega
  have G : ∀ i, i < 2820 → am_in (nI i) 2820 = true ∧ (nI i).toNatClampNeg = i := fun i hi => ⟨am_in_nI hi (by decide), nI_clamp (by omega)⟩
  have g0 := G (705 * u + 1 + 4 * k) (by omega)
  have g1 := G (705 * u + 2 + 4 * k) (by omega)
  have g2 := G (705 * u + 3 + 4 * k) (by omega)
  unfold f_w_perform f_m_isPlayed
  rw [w1, w2, w3, x1, x2, if_pos g1.1, if_pos g0.1, g0.2, g1.2, g2.2, show gi Mr 132 (705 * u + 1 + 4 * k) = nI (hd - 12) from e1]
  by_cases q15 : hd = 15
  · subst q15
    obtain ⟨y1, y2⟩ := e2 rfl
    rw [if_pos (show nI 15 = (15 : Int32) from rfl), if_pos (show nI (15 - 12) = (3 : Int32) from rfl), if_pos g2.1, show gi Mr 132 (705 * u + 2 + 4 * k) = nI f from y1, show gi Mr 132 (705 * u + 3 + 4 * k) = nI g from y2]
    obtain ⟨v, M1, M2, c', s1, s2, s3, s4, s5, s6⟩ := sim_guest S (nI f) (nI g) (-1)
    rw [s1, s2, Option.bind_some, Option.bind_some]
    rcases s3 with rfl | ⟨j, hj, rfl⟩
    · exact ⟨0, M1, M2, c', by rw [if_pos (show (-1 : Int32) = -1 from rfl)], by rw [if_pos (show (-1 : Int32) < 0 by decide)], s4, s5, s6⟩
    · exact ⟨1, M1, M2, c', by rw [if_neg (nI_ne_m1 (by omega))], by rw [if_neg (nI_pos (by omega))], s4, s5, s6⟩
  rw [if_neg (neH (y := 15) 15 rfl (by omega) (by omega) q15), if_neg (neH (a := hd - 12) (y := 3) 3 rfl (by omega) (by omega) (by omega))]
  have say : ∀ kk : Nat, kk ≤ 3 → hd = 16 + kk → ∃ v Mc' Mr' c', (Option.bind (f_w_speak N (nI f) (nI kk) (1 : Int32) Mc) fun q2 => (if q2.1 = (-2 : Int32) then some ((0 : Int32), q2.2) else some ((1 : Int32), q2.2))) = some (v, Mc') ∧ (Option.bind (f_m_say N (gi Mr 132 (705 * u + 2 + 4 * k)) (nI kk) Mr) fun q2 => (if q2.1 = (-2 : Int32) then some ((0 : Int32), q2.2) else some ((1 : Int32), q2.2))) = some (v, Mr') ∧ Sm Mc' Mr' c' t ∧ CS Mc Mc' ∧ RS Mr Mr' := by
    intro kk hkk e
    rw [show gi Mr 132 (705 * u + 2 + 4 * k) = nI f from e3 (by omega) (by omega) (by omega)]
    obtain ⟨v, M1, M2, s1, s2, s4, s5, s6⟩ := sim_speak hN S (nI f) hkk
    rw [s1, s2, Option.bind_some, Option.bind_some]
    by_cases q : v = -2
    · exact ⟨0, M1, M2, c, by rw [if_pos q], by rw [if_pos q], s4, s5, s6⟩
    · exact ⟨1, M1, M2, c, by rw [if_neg q], by rw [if_neg q], s4, s5, s6⟩
  by_cases q16 : hd = 16
  · have := say 0 (by omega) (by omega)
    subst q16
    rw [if_pos (show nI 16 = (16 : Int32) from rfl), if_pos (show nI (16 - 12) = (4 : Int32) from rfl)]
    exact this
  rw [if_neg (neH (y := 16) 16 rfl (by omega) (by omega) q16), if_neg (neH (a := hd - 12) (y := 4) 4 rfl (by omega) (by omega) (by omega))]
  by_cases q17 : hd = 17
  · have := say 1 (by omega) (by omega)
    subst q17
    rw [if_pos (show nI 17 = (17 : Int32) from rfl), if_pos (show nI (17 - 12) = (5 : Int32) from rfl)]
    exact this
  rw [if_neg (neH (y := 17) 17 rfl (by omega) (by omega) q17), if_neg (neH (a := hd - 12) (y := 5) 5 rfl (by omega) (by omega) (by omega))]
  by_cases q18 : hd = 18
  · have := say 2 (by omega) (by omega)
    subst q18
    rw [if_pos (show nI 18 = (18 : Int32) from rfl), if_pos (show nI (18 - 12) = (6 : Int32) from rfl)]
    exact this
  rw [if_neg (neH (y := 18) 18 rfl (by omega) (by omega) q18), if_neg (neH (a := hd - 12) (y := 6) 6 rfl (by omega) (by omega) (by omega))]
  by_cases q19 : hd = 19
  · have := say 3 (by omega) (by omega)
    subst q19
    rw [if_pos (show nI 19 = (19 : Int32) from rfl), if_pos (show nI (19 - 12) = (7 : Int32) from rfl)]
    exact this
  rw [if_neg (neH (y := 19) 19 rfl (by omega) (by omega) q19), if_neg (neH (a := hd - 12) (y := 7) 7 rfl (by omega) (by omega) (by omega))]
  by_cases q20 : hd = 20
  · subst q20
    rw [if_pos (show nI 20 = (20 : Int32) from rfl), if_pos (show nI (20 - 12) = (8 : Int32) from rfl)]
    obtain ⟨v, M1, M2, s1, s2, s3, s4, s5, s6⟩ := sim_askop hN S
    exact ⟨v, M1, M2, c, by rw [s1, Option.bind_some, if_pos s3], by rw [s2, Option.bind_some, if_pos s3], s4, s5, s6⟩
  rw [if_neg (neH (y := 20) 20 rfl (by omega) (by omega) q20), if_neg (neH (a := hd - 12) (y := 8) 8 rfl (by omega) (by omega) (by omega))]
  by_cases q21 : hd = 21
  · subst q21
    rw [if_pos (show nI 21 = (21 : Int32) from rfl), if_pos (show nI (21 - 12) = (9 : Int32) from rfl), show gi Mr 132 (705 * u + 2 + 4 * k) = nI f from e3 (by omega) (by omega) (by omega)]
    obtain ⟨v, M1, M2, s1, s2, s3, s4, s5, s6, -⟩ := sim_passop hN S (m := f) (by omega)
    exact ⟨v, M1, M2, c, by rw [s1, Option.bind_some, if_pos s3], by rw [s2, Option.bind_some, if_pos s3], s4, s5, s6⟩
  rw [if_neg (neH (y := 21) 21 rfl (by omega) (by omega) q21), if_neg (neH (a := hd - 12) (y := 9) 9 rfl (by omega) (by omega) (by omega))]
  by_cases q22 : hd = 22
  · subst q22
    rw [if_pos (show nI 22 = (22 : Int32) from rfl), if_pos (show nI (22 - 12) = (10 : Int32) from rfl), show gi Mr 132 (705 * u + 2 + 4 * k) = nI f from e3 (by omega) (by omega) (by omega)]
    obtain ⟨v, M1, M2, s1, s2, s3, s4, s5, s6⟩ := sim_sendop hN S (nI f)
    exact ⟨v, M1, M2, c, by rw [s1, Option.bind_some, if_pos s3], by rw [s2, Option.bind_some, if_pos s3], s4, s5, s6⟩
  rw [if_neg (neH (y := 22) 22 rfl (by omega) (by omega) q22), if_neg (neH (a := hd - 12) (y := 10) 10 rfl (by omega) (by omega) (by omega))]
  by_cases q23 : hd = 23
  · subst q23
    rw [if_pos (show nI 23 = (23 : Int32) from rfl), if_pos (show nI (23 - 12) = (11 : Int32) from rfl)]
    obtain ⟨v, M1, M2, s1, s2, s3, s4, s5, s6⟩ := sim_dinop hN S
    rw [s1, s2, Option.bind_some, Option.bind_some]
    rcases s3 with rfl | ⟨j, hj, rfl⟩
    · exact ⟨0, M1, M2, c, by rw [if_pos (show (-1 : Int32) = -1 from rfl)], by rw [if_pos (show (-1 : Int32) < 0 by decide)], s4, s5, s6⟩
    · exact ⟨1, M1, M2, c, by rw [if_neg (nI_ne_m1 (by omega))], by rw [if_neg (nI_pos (by omega))], s4, s5, s6⟩
  rw [if_neg (neH (y := 23) 23 rfl (by omega) (by omega) q23), if_neg (neH (a := hd - 12) (y := 11) 11 rfl (by omega) (by omega) (by omega))]
  exact ⟨1, Mc, Mr, c, rfl, rfl, S, CS.rf, RS.rf⟩
theorem sim_playgo (hN : 4000 ≤ N) {u : Nat} (hu : u < t) (hu4 : u < 4) : ∀ (n i c : Nat) (Mc Mr : Mem), Sm Mc Mr c t → i ≤ 24 → 24 < i + n → ∃ v Mc' Mr' c', f_w_played_35 N (113 + 4 * u) n (nI i) Mc = some (v, Mc') ∧ f_m_played_21 N n (nI u) (nI i) Mr = some (v, Mr') ∧ Sm Mc' Mr' c' t ∧ CS Mc Mc' ∧ RS Mr Mr' := by
  intro n
  induction n with
  | zero => intro i c Mc Mr _ h1 h2; omega
  | succ n ih =>
    intro i c Mc Mr S h1 h2
    obtain ⟨nc, ⟨n1, n2, n3⟩, hL, -⟩ := S.2 u hu hu4
    have n2' : Mc.1 (113 + 4 * u) 4 = nI nc := by have := n2; unfold mgf at this; rwa [if_pos (by omega)] at this
    have n3' : Mr.1 132 (705 * u) = nI nc := n3
    have x705 : (705 : Int32) * nI u = nI (705 * u) := ix705'
    rw [f_w_played_35, f_m_played_21, show gi Mc (113 + 4 * u) 4 = nI nc from n2', x705, if_pos (am_in_nI (by omega) (by decide)), nI_clamp (by omega), show gi Mr 132 (705 * u) = nI nc from n3']
    by_cases q : nc ≤ i
    · have le : nI nc ≤ nI i := nI_le q (by omega)
      exact ⟨-1, Mc, Mr, c, by rw [if_pos le], by rw [if_pos le], S, CS.rf, RS.rf⟩
    · have nle : ¬ nI nc ≤ nI i := nI_ge (by omega) (by omega)
      obtain ⟨hd, f, g, y1, y2, y3, y4, y5, y6, y7, y8⟩ := hL i (by omega)
      have y5' : Mc.1 (115 + 4 * u) i = nI (hd + 32 * f + 2048 * g) := by have := y5; unfold mgf at this; rwa [if_pos (by omega)] at this
      have cl : f_p_clauseAt (113 + 4 * u) (nI i) Mc = some (nI (hd + 32 * f + 2048 * g)) := by
        unfold f_p_clauseAt
        rw [if_neg (show ¬ f_w_within (nI i) 0 23 Mc = 0 from within_yes Mc (n := 23) (by omega) (by decide)), if_pos (am_in_nI (by omega) (by decide)), nI_clamp (by omega), show 113 + 4 * u + 2 = 115 + 4 * u by omega]
        exact congrArg some y5'
      have xi : nI (705 * u) + (1 : Int32) + (4 : Int32) * nI i = nI (705 * u + 1 + 4 * i) := by
        rw [nI_1, show (4 : Int32) = nI 4 from rfl, nI_mul, nI_add]
      obtain ⟨v, M1, M2, c', s1, s2, s3, s4, s5⟩ := sim_perform hN S (k := i) hu4 (by omega) y1 y2 y3 y4 y6 y7 y8
      rw [if_neg nle, if_neg nle, cl, Option.bind_some, s1, Option.bind_some, xi, s2, Option.bind_some, nI_1]
      by_cases z : v = 0
      · exact ⟨nI i, M1, M2, c', by rw [if_pos z], by rw [if_pos z], s3, s4, s5⟩
      · obtain ⟨v', M5, M6, c2, v1, v2, v3, v4, v5⟩ := ih (i + 1) c' M1 M2 s3 (by omega) (by omega)
        exact ⟨v', M5, M6, c2, by rw [if_neg z, v1], by rw [if_neg z, v2], v3, s4.tr v4, s5.tr v5⟩
theorem o_11 (hN : 4000 ≤ N) : O_11 (Inv LX) (Inv LX) N := by
  intro M a hM
  refine two_run hM (cf := f_w_played N a) (rf := f_m_played N a) (fun c t Mr S => ?_)
  obtain ⟨t1, t2, t3, t4, t5⟩ := S.1.2.1
  have t2' : M.1 6 4 = nI t := t2
  unfold f_w_played f_m_played
  rw [show gi M 6 4 = nI t from t2', show gi Mr 130 5 = nI t from t3, isIn_eq a _ _ Mr M]
  by_cases q : f_w_within a 0 (nI t - 1) M = 0
  · exact ⟨-2, M, Mr, c, by rw [if_pos q], by rw [if_pos q], S, CS.rf, RS.rf⟩
  · obtain ⟨u, hu, rfl⟩ := (below_iff M (by omega)).mp q
    rw [if_neg q, if_neg q, scr_u u (by omega)]
    exact sim_playgo hN hu (by omega) N 0 c M Mr S (by omega) (by omega)
theorem Sm.fr (S : Sm Mc Mr c t) {M1 M2 : Mem} (h1 : ∀ q, q ≠ 108 → q ≠ 109 → q ≠ 110 → M1.1 q = Mc.1 q) (h2 : ∀ q, q ≠ 129 → q ≠ 138 → q ≠ 139 → q ≠ 140 → M2.1 q = Mr.1 q) (h9 : M2.1 129 4 = Mr.1 129 4 ∧ M2.1 129 5 = Mr.1 129 5 ∧ M2.1 129 6 = Mr.1 129 6) : Sm M1 M2 c t ∧ CS Mc M1 ∧ RS Mr M2 := by
  have hcs : CS Mc M1 := fun q hq => h1 q (by omega) (by omega) (by omega)
  have hrs : RS Mr M2 := ⟨fun q a b cc d e => h2 q a cc d e, h9.1, h9.2.1, h9.2.2⟩
  refine ⟨⟨?_, LX_cs S.2 hcs hrs⟩, hcs, hrs⟩
  rw [h2 130 (by omega) (by omega) (by omega) (by omega)]
  exact S.1.cong (fun k a b _ _ _ _ _ => h1 _ (by omega) (by omega) (by omega))
theorem o_14 (hN : 4000 ≤ N) : O_14 (Inv LX) (Inv LX) N := by
  intro M a b hM
  refine two_run hM (cf := f_w_of N a b) (rf := f_m_of N a b) (fun c t Mr S => ?_)
  obtain ⟨nt, mo, dr, gn, sp, lm, lw, lk, lf, bh, bd, h⟩ := S.cx
  have hc := h.c8
  unfold f_w_of f_m_of
  rcases h.gcase a with ⟨e1, e2⟩ | ⟨g, hg, rfl, n1, n2⟩
  · exact ⟨-2, M, Mr, c, by rw [if_pos e1], by rw [if_pos e2], S, CS.rf, RS.rf⟩
  rw [if_neg n1, if_neg n2, isIn_eq b _ _ Mr M]
  have g8 : am_in (nI g) 8 = true := am_in_nI (by omega) (by decide)
  have gc : (nI g).toNatClampNeg = g := nI_clamp (by omega)
  by_cases q : f_w_within b 0 7 M = 0
  · have nb : ∀ j : Nat, j ≤ 7 → ∀ y : Int32, y = nI j → ¬ b = y := fun j hj y hy e => by
      rw [e, hy] at q
      exact within_yes M (n := 7) hj (by decide) q
    rw [if_pos q, if_neg (nb 0 (by omega) 0 rfl), if_neg (nb 1 (by omega) 1 rfl), if_neg (nb 2 (by omega) 2 rfl), if_neg (nb 3 (by omega) 3 rfl), if_neg (nb 4 (by omega) 4 rfl), if_neg (nb 5 (by omega) 5 rfl), if_neg (nb 6 (by omega) 6 rfl), if_neg (nb 7 (by omega) 7 rfl)]
    exact ⟨-2, M, Mr, c, rfl, rfl, S, CS.rf, RS.rf⟩
  · rw [if_neg q]
    obtain ⟨w, hw, rfl⟩ := within_n (n := 7) (by decide) q
    by_cases q7 : w = 7
    · subst q7
      obtain ⟨f, M1, M2, f1, f2, f3, f4, f5, f6⟩ := sim_falls hN S h (k := 0) hg (by omega)
      obtain ⟨s1, s2, s3⟩ := S.fr f4 f5 f6
      refine ⟨nI f - 1, M1, M2, c, ?_, ?_, s1, s2, s3⟩
      · rw [if_neg (by decide), if_neg (by decide), if_neg (by decide), if_neg (by decide), if_neg (by decide), if_neg (by decide), if_neg (by decide), if_pos (show nI 7 = (7 : Int32) from rfl)]
        have f2' : wF N (nI g) 0 M = some (nI f - 1, M1) := f2
        rw [← f2']
        unfold wF
        cases w_scr (gi M 6 5) with
        | none => rfl
        | some a =>
          show (Option.bind (f_l_whenFalls_108_6_a N a (nI g) 0 M) fun q5 => some (q5.1, q5.2)) = f_l_whenFalls_108_6_a N a (nI g) 0 M
          cases f_l_whenFalls_108_6_a N a (nI g) 0 M <;> rfl
      · have f3' : f_m_wouldFall N (nI g) 0 Mr = some (nI f - 1, M2) := f3
        rw [if_pos (show nI 7 = (7 : Int32) from rfl), f3', Option.bind_some]
    · have rg : f_m_get (nI g) (nI w) Mr = some (Mr.1 130 (12 + 7 * g + w)) := r_get (by omega) (by omega) Mr
      rw [if_neg (neH (y := 7) 7 rfl (by omega) (by omega) q7), if_neg (neH (y := 7) 7 rfl (by omega) (by omega) q7), rg, Option.bind_some]
      obtain ⟨r, r1, r2, r3⟩ := S.rk hg
      obtain ⟨r', r1', r2', r3'⟩ := S.hr hg
      have ro := S.go hg
      rcases (show w = 0 ∨ w = 1 ∨ w = 2 ∨ w = 3 ∨ w = 4 ∨ w = 5 ∨ w = 6 by omega) with rfl | rfl | rfl | rfl | rfl | rfl | rfl
      · refine ⟨nI r, M, Mr, c, ?_, ?_, S, CS.rf, RS.rf⟩
        · rw [if_pos (show nI 0 = (0 : Int32) from rfl), if_pos g8, gc, show gi M 8 g = nI r from r2]
        · rw [show 12 + 7 * g + 0 = 12 + 7 * g from rfl, r3]
      · refine ⟨nI r', M, Mr, c, ?_, ?_, S, CS.rf, RS.rf⟩
        · rw [if_neg (by decide), if_pos (show nI 1 = (1 : Int32) from rfl), if_pos g8, gc, show gi M 9 g = nI r' from r2']
        · rw [show 12 + 7 * g + 1 = 13 + 7 * g by omega, r3']
      · refine ⟨M.1 10 g, M, Mr, c, ?_, ?_, S, CS.rf, RS.rf⟩
        · rw [if_neg (by decide), if_neg (by decide), if_pos (show nI 2 = (2 : Int32) from rfl), if_pos g8, gc]
          rfl
        · rw [show 12 + 7 * g + 2 = 14 + 7 * g by omega, ro]
      · refine ⟨nI (if gn.testBit g then 0 else 1), M, Mr, c, ?_, ?_, S, CS.rf, RS.rf⟩
        · rw [if_neg (by decide), if_neg (by decide), if_neg (by decide), if_pos (show nI 3 = (3 : Int32) from rfl), h.cis hg]
          by_cases z : gn.testBit g = true
          · rw [if_pos z, if_pos z, if_pos rfl]
            rfl
          · rw [if_neg z, if_neg z, if_neg (by decide)]
            rfl
        · rw [show 12 + 7 * g + 3 = 15 + 7 * g by omega, h.g3 hg]
      · refine ⟨nI (ct (fun i => decide (lw i = g)) sp), M, Mr, c, ?_, ?_, S, CS.rf, RS.rf⟩
        · rw [if_neg (by decide), if_neg (by decide), if_neg (by decide), if_neg (by decide), if_pos (show nI 4 = (4 : Int32) from rfl), h.cwords hN (by omega), Option.bind_some]
        · rw [show 12 + 7 * g + 4 = 16 + 7 * g by omega, h.g4 hg]
      · refine ⟨nI (ct (fun i => decide (lw i = g) && decide (lk i = 2)) sp), M, Mr, c, ?_, ?_, S, CS.rf, RS.rf⟩
        · rw [if_neg (by decide), if_neg (by decide), if_neg (by decide), if_neg (by decide), if_neg (by decide), if_pos (show nI 5 = (5 : Int32) from rfl), show f_e_countOf N (nI g) (2 : Int32) M = _ from h.count hN (g := g) (k := 2) (by omega) (by omega), Option.bind_some]
        · rw [show 12 + 7 * g + 5 = 17 + 7 * g by omega, h.g5 hg]
      · refine ⟨lastI lm lw g sp, M, Mr, c, ?_, ?_, S, CS.rf, RS.rf⟩
        · rw [if_neg (by decide), if_neg (by decide), if_neg (by decide), if_neg (by decide), if_neg (by decide), if_neg (by decide), if_pos (show nI 6 = (6 : Int32) from rfl), h.clast hN (by omega), Option.bind_some]
        · rw [show 12 + 7 * g + 6 = 18 + 7 * g by omega, h.g6 hg]
end YEARS
