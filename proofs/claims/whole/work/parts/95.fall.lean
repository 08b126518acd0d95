/-! When a word would fall; how likely he dies: both sides. -/
def wF (N : Nat) (x y : Int32) (M : Mem) : Option (Int32 × Mem) :=
  match w_scr (gi M 6 5) with
  | none => Option.bind (f_l_whenFalls_108_6_null x y M) fun q => some (q, M)
  | some a => f_l_whenFalls_108_6_a N a x y M
theorem speak38 (N : Nat) (x y : Int32) (M : Mem) : f_w_speak_38 N x y M = Option.bind (wF N x y M) fun q5 => Option.bind (f_e_enter x y q5.1 q5.2) fun q6 => (if y = (3 : Int32) then Option.bind (f_e_letGo ((1 : Int32) <<< (x &&& 31)) q6) fun q7 => some (q5.1, q7) else some (q5.1, q6)) := by
  unfold f_w_speak_38 wF
  cases w_scr (gi M 6 5) with
  | none =>
    show _ = Option.bind (Option.bind (f_l_whenFalls_108_6_null x y M) fun q => some (q, M)) _
    cases f_l_whenFalls_108_6_null x y M <;> rfl
  | some a => rfl
/-- the lag by rule or by law -/
theorem says_none {N : Nat} {M : Mem} {s : Nat} {d tp : Int32} (h : f_m_clauseOf N (nI s) M = some (-1)) : f_m_says N (nI s) d tp M = some (d, M) := by
  unfold f_m_says
  rw [h, Option.bind_some, if_neg (by decide)]
theorem says_some {N : Nat} {M M' : Mem} {s k top : Nat} {d v : Int32} (hk : k < 2 ^ 31) (ht : top ≤ 100) (h : f_m_clauseOf N (nI s) M = some (nI k)) (hw : f_m_work N (nI k) M = some M') (hv : M'.2 139 0 = v.toInt64) {lag : Nat} (hl : (if (0 : Int32) ≤ lg_cmp v.toInt64 0 then (if lg_cmp v.toInt64 (nI top).toInt64 ≤ 0 then v.toInt64.toInt32 else nI top) else 0) = nI lag) : f_m_says N (nI s) d (nI top) M = some (nI lag, M') := by
  unfold f_m_says
  rw [h, Option.bind_some, if_pos (nI_pos' hk), hw, Option.bind_some, show gj M' 139 0 = v.toInt64 from hv, ← hl]
  split
  · split <;> rfl
  · rfl
section FALL
variable {Mc Mr : Mem} {c nt mo dr gn sp t : Nat} {lm lw lk lf bh bd : Nat → Nat} {N : Nat}
theorem Sm.hr (h : Sm Mc Mr c t) {g : Nat} (hg : g < c) : ∃ r, r ≤ 9 ∧ Mc.1 9 g = nI r ∧ Mr.1 130 (13 + 7 * g) = nI r := (h.1.1.2.2.2 g hg).2.1
theorem Sm.rk (h : Sm Mc Mr c t) {g : Nat} (hg : g < c) : ∃ r, r ≤ 9 ∧ Mc.1 8 g = nI r ∧ Mr.1 130 (12 + 7 * g) = nI r := (h.1.1.2.2.2 g hg).1
theorem Sm.ru (h : Sm Mc Mr c t) : (Mc.1 6 5 = -1 ∧ Mr.1 130 6 = -1) ∨ ∃ u, u < t ∧ u < 4 ∧ Mc.1 6 5 = nI u ∧ Mr.1 130 6 = nI u := by
  obtain ⟨t1, t2, t3, t4, t5⟩ := h.1.2.1
  have t4' : Mc.1 6 5 = Mr.1 130 6 := t4
  rcases t5 with q | ⟨u, hu, q⟩
  · have q' : Mc.1 6 5 = -1 := q
    exact Or.inl ⟨q', by rw [← t4', q']⟩
  · have q' : Mc.1 6 5 = nI u := q
    exact Or.inr ⟨u, hu, by omega, q', by rw [← t4', q']⟩
theorem nm_bd (hn : nt ≤ 999) (hm : mo ≤ 99) (hs : sp ≤ 40) (hl : ∀ i, i < sp → lm i ≤ 99) {rk hr k g : Nat} (h1 : rk ≤ 9) (h2 : hr ≤ 9) (hk : k ≤ 4) (b : Bool) (i : Nat) : bdI (nvw (nI nt) (nI mo) (nI (ct (fun i => decide (lk i = 2)) sp)) (nI rk) (nI hr) (nI k) (nI (ct (fun i => decide (lw i = g)) sp)) (sinceI mo (lastI lm lw g sp)) (nI (pc (th c gn))) (if b = true then 1 else 0) i) := by
  have c1 := ct_le (fun i => decide (lk i = 2)) sp
  have c2 := ct_le (fun i => decide (lw i = g)) sp
  have c3 := pc_le (th c gn)
  unfold nvw
  split
  · exact bdI_n (by omega)
  split
  · exact bdI_n (by omega)
  split
  · exact bdI_n (by omega)
  split
  · exact bdI_n (by omega)
  split
  · exact bdI_n (by omega)
  split
  · exact bdI_n (by omega)
  split
  · exact bdI_n (by omega)
  split
  · unfold sinceI
    rcases lastI_bd (lw := lw) (g := g) hl with q | ⟨j, hj, q⟩
    · rw [if_pos q]
      exact bdI_n (n := 99) (by omega)
    · rw [q]
      split
      · exact bdI_n (n := 99) (by omega)
      · unfold bdI
        rw [pk_sub_toInt (by omega) (by omega)]
        omega
  split
  · exact bdI_n (by omega)
  · cases b
    · exact bdI_n (n := 0) (by omega)
    · exact bdI_n (n := 1) (by omega)
/-- the lag, from where the counts have been asked -/
theorem fall_180 (hN : 4000 ≤ N) (S : Sm Mc Mr c t) (h : Cx Mc Mr c nt mo dr gn sp lm lw lk lf bh bd) {g u : Nat} (hg : g < c) (hu : u < t) (hu4 : u < 4) {M1 M2 : Mem} (h1 : ∀ q, q ≠ 108 → q ≠ 109 → q ≠ 110 → M1.1 q = Mc.1 q) (h2 : ∀ q, q ≠ 129 → q ≠ 138 → q ≠ 139 → q ≠ 140 → M2.1 q = Mr.1 q) (h6 : Mr.1 130 6 = nI u) (hnm : ∀ i, i < 10 → M1.1 109 i = M2.1 138 i ∧ bdI (M1.1 109 i)) {d : Int32} (hd : d = if (3 : Int32) ≤ Mc.1 9 g then 0 else 3) : ∃ f M1' M2', 1 ≤ f ∧ f ≤ 199 ∧ f_l_whenFalls_108_6_a_86 N (113 + 4 * u) d (nI mo) M1 = some (nI f - 1, M1') ∧ f_m_wouldFall_180 N (nI g) M2 = some (nI f - 1, M2') ∧ (∀ q, q ≠ 108 → q ≠ 109 → q ≠ 110 → M1'.1 q = Mc.1 q) ∧ (∀ q, q ≠ 129 → q ≠ 138 → q ≠ 139 → q ≠ 140 → M2'.1 q = Mr.1 q) ∧ M2'.1 129 = M2.1 129 := by
  have hc := h.c8
  have hmo := h.mo99
  have e130 : M2.1 130 = Mr.1 130 := h2 130 (by omega) (by omega) (by omega) (by omega)
  have e132 : M2.1 132 = Mr.1 132 := h2 132 (by omega) (by omega) (by omega) (by omega)
  obtain ⟨r, hr9, hrc, hrr⟩ := S.hr hg
  have hd' : d = nI (if 3 ≤ r then 0 else 3) := by
    rw [hd, hrc]
    by_cases q : 3 ≤ r
    · rw [if_pos (show (3 : Int32) ≤ nI r from nI_le (a := 3) q (by omega)), if_pos q]
      rfl
    · rw [if_neg (show ¬ (3 : Int32) ≤ nI r from nI_ge (b := 3) (by omega) (by omega)), if_neg q]
      rfl
  obtain ⟨nc, ⟨n1, n2, n3⟩, -, hL⟩ := S.2 u hu hu4
  have n3' : M2.1 132 (705 * u) = nI nc := by rw [e132]; exact n3
  have g6 : M2.1 130 6 = nI u := by rw [e130, h6]
  have get1 : f_m_get (nI g) (1 : Int32) M2 = some (nI r) := by
    have := r_get (g := g) (w := 1) (by omega) (by omega) M2
    rw [show 12 + 7 * g + 1 = 13 + 7 * g by omega, e130, hrr] at this
    exact this
  have m180 : f_m_wouldFall_180 N (nI g) M2 = Option.bind (f_m_says N (nI 1) d (nI 99) M2) fun q22 => some (nI mo + q22.1, q22.2) := by
    unfold f_m_wouldFall_180
    rw [get1, Option.bind_some, show gi M2 130 2 = nI mo from by show M2.1 130 2 = _; rw [e130, h.mo130], hd']
    by_cases q : 3 ≤ r
    · rw [if_pos (show (3 : Int32) ≤ nI r from nI_le (a := 3) q (by omega)), if_pos q]
      rfl
    · rw [if_neg (show ¬ (3 : Int32) ≤ nI r from nI_ge (b := 3) (by omega) (by omega)), if_neg q]
      rfl
  have st13 : f_p_startOf_a (113 + 4 * u) (13 : Int32) M1 = some (Mc.1 (116 + 4 * u) 1) := by
    have := st_of (a := 113 + 4 * u) (s := 1) (by omega) M1
    rw [show 113 + 4 * u + 3 = 116 + 4 * u by omega, h1 _ (by omega) (by omega) (by omega)] at this
    exact this
  rw [m180]
  unfold f_l_whenFalls_108_6_a_86
  rw [st13, Option.bind_some, Option.bind_some]
  rcases hL 1 (by omega) with ⟨w1, w2⟩ | ⟨st, k, k1, k2, k3, k4, k5, k6⟩
  · have w1' : Mc.1 (116 + 4 * u) 1 = -1 := by have := w1; unfold mgf at this; rwa [if_pos (by omega)] at this
    rw [w1', if_pos rfl, says_none (clof_none hN hu4 g6 n1 n3' (fun k hk => by rw [e132]; exact w2 k hk)), Option.bind_some]
    refine ⟨mo + (if 3 ≤ r then 0 else 3) + 1, M1, M2, by omega, by split <;> omega, ?_, ?_, h1, h2, rfl⟩
    · rw [hd', nI_add, nI_pred]
    · rw [hd', nI_add, nI_pred]
  · have k3' : Mc.1 (116 + 4 * u) 1 = nI st := by have := k3; unfold mgf at this; rwa [if_pos (by omega)] at this
    obtain ⟨v, Mc', Mr', v1, v2, -, v4⟩ := k6 N M1 M2 hN (by rw [h1 _ (by omega) (by omega) (by omega)]; unfold mgf; rw [if_pos (by omega)]) (by rw [h1 _ (by omega) (by omega) (by omega)]; unfold mgf; rw [if_pos (by omega)]) (fun i _ _ => by rw [e132]; rfl) g6 (fun i hi => by
      have hi' : i < 10 := by unfold NmOk at hi; omega
      exact ⟨(hnm i hi').1, (hnm i hi').2.1, (hnm i hi').2.2⟩)
    obtain ⟨lag, l1, l2, l3⟩ := clampE v (top := 99) (by omega)
    have fc := fr_l_run _ _ _ _ _ _ v1
    have frr := fr_m_work _ _ _ _ v2
    rw [k3', if_neg (nI_ne_m1 (by omega)), v1, Option.bind_some, says_some (by omega) (by omega) (clof_some hN hu4 g6 n1 n3' k2 (by rw [e132]; exact k4) (fun j hj => by rw [e132]; exact k5 j hj)) v2 (v4 (by omega)) l3, Option.bind_some]
    refine ⟨mo + lag + 1, Mc', Mr', by omega, by omega, ?_, ?_, fun q a b cc => ?_, fun q a b dd cc => ?_, ?_⟩
    · have l2' : f_k_max0 (0 : Int32) (f_k_min0 (99 : Int32) v Mc') Mc' = nI lag := l2
      rw [l2', nI_add, nI_pred]
    · rw [nI_add, nI_pred]
    · rw [(fc q (by simp [a, cc])).1, h1 q a b cc]
    · rw [(frr q (by simp [dd, cc])).1, h2 q a b dd cc]
    · exact (frr 129 (by decide)).1
theorem sim_falls (hN : 4000 ≤ N) (S : Sm Mc Mr c t) (h : Cx Mc Mr c nt mo dr gn sp lm lw lk lf bh bd) {g k : Nat} (hg : g < c) (hk : k ≤ 3) : ∃ f Mc' Mr', f ≤ 199 ∧ wF N (nI g) (nI k) Mc = some (nI f - 1, Mc') ∧ f_m_wouldFall N (nI g) (nI k) Mr = some (nI f - 1, Mr') ∧ (∀ q, q ≠ 108 → q ≠ 109 → q ≠ 110 → Mc'.1 q = Mc.1 q) ∧ (∀ q, q ≠ 129 → q ≠ 138 → q ≠ 139 → q ≠ 140 → Mr'.1 q = Mr.1 q) ∧ Mr'.1 129 4 = Mr.1 129 4 ∧ Mr'.1 129 5 = Mr.1 129 5 ∧ Mr'.1 129 6 = Mr.1 129 6 := by
  have hc := h.c8
  have hmo := h.mo99
  obtain ⟨M1, a1, a2, a3⟩ := c_names (k := k) h hN hg
  obtain ⟨M2, b1, b2, b3, b4⟩ := r_names (k := k) h hN hg
  obtain ⟨r, hr9, hrc, hrr⟩ := S.hr hg
  obtain ⟨rr, hr9', hrc', hrr'⟩ := S.rk hg
  have g8 : am_in (nI g) 8 = true := am_in_nI (by omega) (by decide)
  have gc : (nI g).toNatClampNeg = g := nI_clamp (by omega)
  have e130 : M2.1 130 = Mr.1 130 := b2 130 (by omega) (by omega)
  have e132 : M2.1 132 = Mr.1 132 := b2 132 (by omega) (by omega)
  rcases S.ru with ⟨u1, u2⟩ | ⟨u, hu, hu4, u1, u2⟩
  · have cl : ∀ s, f_m_clauseOf N (nI s) M2 = some (-1) := fun s => clof_m1 hN (by rw [e130, u2])
    have get1 : f_m_get (nI g) (1 : Int32) M2 = some (nI r) := by
      have := r_get (g := g) (w := 1) (by omega) (by omega) M2
      rw [show 12 + 7 * g + 1 = 13 + 7 * g by omega, e130, hrr] at this
      exact this
    refine ⟨mo + (if 3 ≤ r then 0 else 3) + 1, Mc, M2, by split <;> omega, ?_, ?_, fun _ _ _ _ => rfl, fun q x1 x2 _ _ => b2 q x2 x1, b3⟩
    · unfold wF
      rw [show gi Mc 6 5 = -1 from u1, scr_m1]
      show Option.bind (f_l_whenFalls_108_6_null (nI g) (nI k) Mc) _ = _
      unfold f_l_whenFalls_108_6_null f_l_whenFalls_108_6_null_31
      rw [if_neg ((h.knows _).mpr ⟨g, hg, rfl⟩), if_pos g8, gc, show gi Mc 9 g = nI r from hrc, show f_e_moment Mc = nI mo from h.mo12]
      by_cases q : 3 ≤ r
      · rw [if_pos (show (3 : Int32) ≤ nI r from nI_le (a := 3) q (by omega)), if_pos q, Option.bind_some, nI_pred]
        show some (nI mo + 0, Mc) = some (nI mo, Mc)
        rw [Int32.add_zero]
      · rw [if_neg (show ¬ (3 : Int32) ≤ nI r from nI_ge (b := 3) (by omega) (by omega)), if_neg q, Option.bind_some, nI_pred, ← nI_add]
        rfl
    · rw [b1]
      unfold wfT
      rw [show f_m_clauseOf N (0 : Int32) M2 = some (-1) from cl 0, Option.bind_some, if_pos (by decide)]
      unfold f_m_wouldFall_180
      rw [get1, Option.bind_some, show gi M2 130 2 = nI mo from by show M2.1 130 2 = _; rw [e130, h.mo130], show f_m_says N (1 : Int32) (0 : Int32) (99 : Int32) M2 = some (0, M2) from says_none (cl 1), show f_m_says N (1 : Int32) (3 : Int32) (99 : Int32) M2 = some (3, M2) from says_none (cl 1)]
      by_cases q : 3 ≤ r
      · rw [if_pos (show (3 : Int32) ≤ nI r from nI_le (a := 3) q (by omega)), if_pos q, Option.bind_some, nI_pred]
        show some (nI mo + 0, M2) = some (nI mo, M2)
        rw [Int32.add_zero]
      · rw [if_neg (show ¬ (3 : Int32) ≤ nI r from nI_ge (b := 3) (by omega) (by omega)), if_neg q, Option.bind_some, nI_pred, ← nI_add]
        rfl
  · have hnm : ∀ i, i < 10 → M1.1 109 i = M2.1 138 i ∧ bdI (M1.1 109 i) := by
      intro i hi
      rw [a3 i hi, b4 i hi, hrc, hrr, hrc', hrr']
      exact ⟨rfl, nm_bd h.nt999 h.mo99 h.sp40 (fun i hi => (h.L.lt h.c8 hi).1) hr9' hr9 (by omega) _ i⟩
    obtain ⟨nc, ⟨n1, n2, n3⟩, -, hL⟩ := S.2 u hu hu4
    have n3' : M2.1 132 (705 * u) = nI nc := by rw [e132]; exact n3
    have g6 : M2.1 130 6 = nI u := by rw [e130, u2]
    have wf : wF N (nI g) (nI k) Mc = f_l_whenFalls_108_6_a_31 N (113 + 4 * u) (nI g) (nI k) (if (3 : Int32) ≤ Mc.1 9 g then 0 else 3) Mc := by
      unfold wF
      rw [show gi Mc 6 5 = nI u from u1, scr_u u hu4]
      show f_l_whenFalls_108_6_a N (113 + 4 * u) (nI g) (nI k) Mc = _
      unfold f_l_whenFalls_108_6_a
      rw [if_neg ((h.knows _).mpr ⟨g, hg, rfl⟩), if_pos g8, gc]
      show (if (3 : Int32) ≤ Mc.1 9 g then _ else _) = _
      by_cases q : (3 : Int32) ≤ Mc.1 9 g
      · rw [if_pos q, if_pos q]
      · rw [if_neg q, if_neg q]
    have st12 : f_p_startOf_a (113 + 4 * u) (12 : Int32) M1 = some (Mc.1 (116 + 4 * u) 0) := by
      have := st_of (a := 113 + 4 * u) (s := 0) (by omega) M1
      rw [show 113 + 4 * u + 3 = 116 + 4 * u by omega, a2 _ (by omega)] at this
      exact this
    rw [wf, b1]
    unfold f_l_whenFalls_108_6_a_31 wfT
    rw [a1, Option.bind_some, st12, Option.bind_some, Option.bind_some, show f_e_moment Mc = nI mo from h.mo12]
    have h1 : ∀ q, q ≠ 108 → q ≠ 109 → q ≠ 110 → M1.1 q = Mc.1 q := fun q _ y _ => a2 q y
    have h2 : ∀ q, q ≠ 129 → q ≠ 138 → q ≠ 139 → q ≠ 140 → M2.1 q = Mr.1 q := fun q x y _ _ => b2 q y x
    rcases hL 0 (by omega) with ⟨w1, w2⟩ | ⟨st, kk, k1, k2, k3, k4, k5, k6⟩
    · have w1' : Mc.1 (116 + 4 * u) 0 = -1 := by have := w1; unfold mgf at this; rwa [if_pos (by omega)] at this
      rw [w1', if_pos rfl, show f_m_clauseOf N (0 : Int32) M2 = some (-1) from clof_none (s := 0) hN hu4 g6 n1 n3' (fun k hk => by rw [e132]; exact w2 k hk), Option.bind_some, if_pos (show (-1 : Int32) < 0 by decide)]
      obtain ⟨f, M1', M2', f1, f2, f3, f4, f5, f6, f7⟩ := fall_180 hN S h hg hu hu4 h1 h2 u2 hnm rfl
      exact ⟨f, M1', M2', f2, f3, f4, f5, f6, by rw [f7]; exact b3.1, by rw [f7]; exact b3.2.1, by rw [f7]; exact b3.2.2⟩
    · have k3' : Mc.1 (116 + 4 * u) 0 = nI st := by have := k3; unfold mgf at this; rwa [if_pos (by omega)] at this
      obtain ⟨v, Mc', Mr', v1, v2, v3, -⟩ := k6 N M1 M2 hN (by rw [a2 _ (by omega)]; unfold mgf; rw [if_pos (by omega)]) (by rw [a2 _ (by omega)]; unfold mgf; rw [if_pos (by omega)]) (fun i _ _ => by rw [e132]; rfl) g6 (fun i hi => by
        have hi' : i < 10 := by unfold NmOk at hi; omega
        exact ⟨(hnm i hi').1, (hnm i hi').2.1, (hnm i hi').2.2⟩)
      have fc := fr_l_run _ _ _ _ _ _ v1
      have frr := fr_m_work _ _ _ _ v2
      have h1' : ∀ q, q ≠ 108 → q ≠ 109 → q ≠ 110 → Mc'.1 q = Mc.1 q := fun q x y z => by rw [(fc q (by simp [x, z])).1, a2 q y]
      have h2' : ∀ q, q ≠ 129 → q ≠ 138 → q ≠ 139 → q ≠ 140 → Mr'.1 q = Mr.1 q := fun q x y z w => by rw [(frr q (by simp [z, w])).1, b2 q y x]
      have e129 : Mr'.1 129 = M2.1 129 := (frr 129 (by decide)).1
      rw [k3', if_neg (nI_ne_m1 (by omega)), v1, Option.bind_some, show f_m_clauseOf N (0 : Int32) M2 = some (nI kk) from clof_some (s := 0) hN hu4 g6 n1 n3' k2 (by rw [e132]; exact k4) (fun j hj => by rw [e132]; exact k5 j hj), Option.bind_some, if_neg (nI_pos (by omega)), v2, Option.bind_some]
      by_cases z : v = 0
      · refine ⟨0, Mc', Mr', by omega, ?_, ?_, h1', h2', by rw [e129]; exact b3.1, by rw [e129]; exact b3.2.1, by rw [e129]; exact b3.2.2⟩
        · rw [if_pos z]
          rfl
        · rw [if_pos (show gi Mr' 140 0 = 0 from (v3 rfl).mpr z)]
          rfl
      · rw [if_neg z, if_neg (show ¬ gi Mr' 140 0 = 0 from fun q => z ((v3 rfl).mp q))]
        have hnm' : ∀ i, i < 10 → Mc'.1 109 i = Mr'.1 138 i ∧ bdI (Mc'.1 109 i) := fun i hi => by
          rw [(fc 109 (by decide)).1, (frr 138 (by decide)).1]
          exact hnm i hi
        obtain ⟨f, M1', M2', f1, f2, f3, f4, f5, f6, f7⟩ := fall_180 hN S h hg hu hu4 h1' h2' u2 hnm' rfl
        exact ⟨f, M1', M2', f2, f3, f4, f5, f6, by rw [f7, e129]; exact b3.1, by rw [f7, e129]; exact b3.2.1, by rw [f7, e129]; exact b3.2.2⟩
/-- how likely he dies -/
def hL (N : Nat) (x : Int32) (M : Mem) : Option (Int32 × Mem) :=
  match w_scr (gi M 6 5) with
  | none => some (10, M)
  | some a => f_l_howLikely_108_6_a N a x M
theorem endDin (N : Nat) (M : Mem) : f_w_endDinner N M = Option.bind (f_e_wouldHold N M) fun q1 => Option.bind (hL N q1 M) fun q3 => Option.bind (f_e_close q1 q3.1 q3.2) fun q4 => some (q1, q4) := by
  unfold f_w_endDinner hL
  congr 1
  funext q1
  cases w_scr (gi M 6 5) <;> rfl
set_option maxRecDepth 100000 in
theorem sim_dies (hN : 4000 ≤ N) (S : Sm Mc Mr c t) (h : Cx Mc Mr c nt mo dr gn sp lm lw lk lf bh bd) : ∃ d Mc' Mr', d ≤ 100 ∧ hL N (nI (hd lf lw 5001 sp).2) Mc = some (nI d, Mc') ∧ f_m_diesNow N Mr = some (nI d, Mr') ∧ (∀ q, q ≠ 108 → q ≠ 109 → q ≠ 110 → Mc'.1 q = Mc.1 q) ∧ (∀ q, q ≠ 129 → q ≠ 138 → q ≠ 139 → q ≠ 140 → Mr'.1 q = Mr.1 q) ∧ Mr'.1 129 4 = Mr.1 129 4 ∧ Mr'.1 129 5 = Mr.1 129 5 ∧ Mr'.1 129 6 = Mr.1 129 6 := by
  have hc := h.c8
  have T : ∀ F : Nat → Int32, Cx (sr Mc 109 F) Mr c nt mo dr gn sp lm lw lk lf bh bd := fun F => h.toc rfl rfl
  have T2 : ∀ F : Nat → Int32, Cx Mc (sr Mr 138 F) c nt mo dr gn sp lm lw lk lf bh bd := fun F => h.to rfl
  have H256 := (h.hdok 5001).2
  have ehm : ∀ F : Nat → Int32, hm (sr Mr 138 F) (hd lf lw 5001 sp) = sr (hm Mr (hd lf lw 5001 sp)) 138 F := by
    intro F
    unfold hm
    rw [sr_comm Mr (by decide)]
    rfl
  have rn : ∃ M2, f_m_diesNow N Mr = (Option.bind (f_m_says N (nI 2) (nI 10) (nI 100) M2) fun q8 => some (q8.1, q8.2)) ∧ (∀ q, q ≠ 138 → q ≠ 129 → M2.1 q = Mr.1 q) ∧ (M2.1 129 4 = Mr.1 129 4 ∧ M2.1 129 5 = Mr.1 129 5 ∧ M2.1 129 6 = Mr.1 129 6) ∧ M2.1 138 0 = nI nt ∧ M2.1 138 1 = nI mo ∧ M2.1 138 2 = nI (ct (fun i => decide (lk i = 2)) sp) ∧ M2.1 138 10 = nI sp ∧ M2.1 138 11 = nI (pc (hd lf lw 5001 sp).2) := by
    unfold f_m_diesNow
    simp only [Option.bind_some, si_sr Mr, si_of_sr]
    rw [(T2 _).rs hN]
    simp only [Option.bind_some]
    rw [r_pc H256 hN, ehm]
    simp only [Option.bind_some, si_of_sr]
    exact ⟨_, rfl, fun q h1 h2 => by rw [sr_1, if_neg h1, hm_k Mr _ h2], ⟨rfl, rfl, rfl⟩, h.nt130, h.mo130, h.wine, h.sp130, rfl⟩
  obtain ⟨M2, b1, b2, b3, y0, y1, y2, y10, y11⟩ := rn
  have e130 : M2.1 130 = Mr.1 130 := b2 130 (by omega) (by omega)
  have e132 : M2.1 132 = Mr.1 132 := b2 132 (by omega) (by omega)
  rw [b1]
  rcases S.ru with ⟨u1, u2⟩ | ⟨u, hu, hu4, u1, u2⟩
  · refine ⟨10, Mc, M2, by omega, ?_, ?_, fun _ _ _ _ => rfl, fun q x1 x2 _ _ => b2 q x2 x1, b3⟩
    · unfold hL
      rw [show gi Mc 6 5 = -1 from u1, scr_m1]
      rfl
    · rw [says_none (clof_m1 hN (by rw [e130, u2])), Option.bind_some]
  · obtain ⟨nc, ⟨n1, n2, n3⟩, -, hLw⟩ := S.2 u hu hu4
    have n3' : M2.1 132 (705 * u) = nI nc := by rw [e132]; exact n3
    have g6 : M2.1 130 6 = nI u := by rw [e130, u2]
    have st14 : ∀ M, M.1 (116 + 4 * u) = Mc.1 (116 + 4 * u) → f_p_startOf_a (113 + 4 * u) (14 : Int32) M = some (Mc.1 (116 + 4 * u) 2) := by
      intro M e
      have := st_of (a := 113 + 4 * u) (s := 2) (by omega) M
      rw [show 113 + 4 * u + 3 = 116 + 4 * u by omega, e] at this
      exact this
    unfold hL
    rw [show gi Mc 6 5 = nI u from u1, scr_u u hu4]
    show ∃ d Mc' Mr', d ≤ 100 ∧ f_l_howLikely_108_6_a N (113 + 4 * u) (nI (hd lf lw 5001 sp).2) Mc = _ ∧ _
    unfold f_l_howLikely_108_6_a
    rw [st14 Mc rfl, Option.bind_some]
    rcases hLw 2 (by omega) with ⟨w1, w2⟩ | ⟨st, kk, k1, k2, k3, k4, k5, k6⟩
    · have w1' : Mc.1 (116 + 4 * u) 2 = -1 := by have := w1; unfold mgf at this; rwa [if_pos (by omega)] at this
      rw [w1', if_pos rfl, says_none (clof_none hN hu4 g6 n1 n3' (fun k hk => by rw [e132]; exact w2 k hk)), Option.bind_some]
      exact ⟨10, Mc, M2, by omega, rfl, rfl, fun _ _ _ _ => rfl, fun q x1 x2 _ _ => b2 q x2 x1, b3⟩
    · have k3' : Mc.1 (116 + 4 * u) 2 = nI st := by have := k3; unfold mgf at this; rwa [if_pos (by omega)] at this
      rw [k3', if_neg (nI_ne_m1 (by omega))]
      unfold f_l_nameEvening
      simp only [Option.bind_some, si_sr Mc, si_of_sr]
      rw [(T _).cwine hN]
      simp only [Option.bind_some, si_of_sr]
      rw [c_pc H256, st14 _ (by rw [sr_1, if_neg (by omega)]), k3']
      simp only [Option.bind_some]
      generalize hF : upd (upd (upd (upd (upd (Mc.1 109) 0 _) 1 _) 2 _) 10 _) 11 _ = F
      have F0 : F 0 = nI nt := by rw [← hF]; exact h.nt12
      have F1 : F 1 = nI mo := by rw [← hF]; exact h.mo12
      have F2 : F 2 = nI (ct (fun i => decide (lk i = 2)) sp) := by rw [← hF]; rfl
      have F10 : F 10 = nI sp := by rw [← hF]; exact h.sp12
      have F11 : F 11 = nI (pc (hd lf lw 5001 sp).2) := by rw [← hF]; rfl
      have c1 := ct_le (fun i => decide (lk i = 2)) sp
      have c2 := pc_le (hd lf lw 5001 sp).2
      have c3 := h.nt999
      have c4 := h.mo99
      have c5 := h.sp40
      have hnm : ∀ i, NmOk 2 i → (sr Mc 109 F).1 109 i = M2.1 138 i ∧ bdI ((sr Mc 109 F).1 109 i) := by
        intro i hi
        rw [sr_1, if_pos rfl]
        have hi' : i = 0 ∨ i = 1 ∨ i = 2 ∨ i = 10 ∨ i = 11 := by unfold NmOk at hi; omega
        rcases hi' with rfl | rfl | rfl | rfl | rfl
        · rw [F0, y0]; exact ⟨rfl, bdI_n (by omega)⟩
        · rw [F1, y1]; exact ⟨rfl, bdI_n (by omega)⟩
        · rw [F2, y2]; exact ⟨rfl, bdI_n (by omega)⟩
        · rw [F10, y10]; exact ⟨rfl, bdI_n (by omega)⟩
        · rw [F11, y11]; exact ⟨rfl, bdI_n (by omega)⟩
      obtain ⟨v, Mc', Mr', v1, v2, -, v4⟩ := k6 N (sr Mc 109 F) M2 hN (by rw [sr_1, if_neg (by omega)]; unfold mgf; rw [if_pos (by omega)]) (by rw [sr_1, if_neg (by omega)]; unfold mgf; rw [if_pos (by omega)]) (fun i _ _ => by rw [e132]; rfl) g6 (fun i hi => ⟨(hnm i hi).1, (hnm i hi).2.1, (hnm i hi).2.2⟩)
      have fc := fr_l_run _ _ _ _ _ _ v1
      have frr := fr_m_work _ _ _ _ v2
      obtain ⟨lag, l1, l2, l3⟩ := clampE v (top := 100) (by omega)
      have e129 : Mr'.1 129 = M2.1 129 := (frr 129 (by decide)).1
      rw [v1, says_some (by omega) (by omega) (clof_some hN hu4 g6 n1 n3' k2 (by rw [e132]; exact k4) (fun j hj => by rw [e132]; exact k5 j hj)) v2 (v4 (by omega)) l3]
      simp only [Option.bind_some]
      refine ⟨lag, Mc', Mr', l1, ?_, rfl, fun q x y z => ?_, fun q x y z w => ?_, by rw [e129]; exact b3.1, by rw [e129]; exact b3.2.1, by rw [e129]; exact b3.2.2⟩
      · have l2' : f_k_max0 (0 : Int32) (f_k_min0 (100 : Int32) v Mc') Mc' = nI lag := l2
        rw [l2']
      · rw [(fc q (by simp [x, z])).1, sr_1, if_neg y]
      · rw [(frr q (by simp [z, w])).1, b2 q y x]
end FALL
