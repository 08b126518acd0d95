/-! A text, whole: class and reference alike. -/
section TEXT
variable {m m' : Nat → Nat → Int32} {t : Nat}
theorem LX_loc (h : LX m t) (h1 : ∀ k, 113 ≤ k → k < 113 + 4 * t → m' k = m k) (h2 : ∀ i, i < 705 * t → m' 132 i = m 132 i) : LX m' t := by
  intro u hu h4
  obtain ⟨nc, ⟨n1, n2, n3⟩, l, w⟩ := h u hu h4
  refine ⟨nc, ⟨n1, by rw [h1 _ (by omega) (by omega)]; exact n2, by rw [h2 _ (by omega)]; exact n3⟩, fun k hk => ?_, fun s hs => ?_⟩
  · obtain ⟨hd, f, g, a1, a2, a3, a4, a5, a6, a7, a8⟩ := l k hk
    refine ⟨hd, f, g, a1, a2, a3, a4, by rw [h1 _ (by omega) (by omega)]; exact a5, by rw [h2 _ (by omega)]; exact a6, fun e => ?_, fun e1 e2 e3 => by rw [h2 _ (by omega)]; exact a8 e1 e2 e3⟩
    rw [h2 _ (by omega), h2 _ (by omega)]
    exact a7 e
  · rcases w s hs with ⟨w1, w2⟩ | ⟨st, k, k1, k2, k3, k4, k5, k6⟩
    · left
      refine ⟨by rw [h1 _ (by omega) (by omega)]; exact w1, fun k hk => ?_⟩
      rw [h2 _ (by omega)]
      exact w2 k hk
    · right
      refine ⟨st, k, k1, k2, by rw [h1 _ (by omega) (by omega)]; exact k3, by rw [h2 _ (by omega)]; exact k4, fun j hj => ?_, ?_⟩
      · rw [h2 _ (by omega)]
        exact k5 j hj
      · intro N Mc Mr hN e0 e1 e2 e6 nm
        exact k6 N Mc Mr hN (e0.trans (h1 _ (by omega) (by omega))) (e1.trans (h1 _ (by omega) (by omega))) (fun i i1 i2 => (e2 i i1 i2).trans (h2 i (by omega))) e6 nm
theorem LX_snoc (h : LX m t) {nc : Nat} (h1 : NcO m t nc) (h2 : LCl m t nc) (h3 : LLw m t nc) : LX m (t + 1) := by
  intro u hu h4
  by_cases z : u = t
  · rw [z]
    exact ⟨nc, h1, h2, h3⟩
  · exact h u (by omega) h4
theorem Tab.tx {A A' : Nat → Int32} {c : Nat} (h : Tab m 0 A c t) (ht : t < 4) (hm : ∀ k, 7 ≤ k → k ≤ 50 → m' k = m k) (h64 : m' 6 4 = nI (t + 1)) (h65 : m' 6 5 = m 6 5) (hA5 : A' 5 = nI (t + 1)) (hA : ∀ i, i ≠ 5 → A' i = A i) : Tab m' 0 A' c (t + 1) := by
  obtain ⟨h1, h2, h3, h4, h5⟩ := h
  have hc : cur A' = cur A := by
    funext i
    unfold cur
    split
    · exact hA _ (by omega)
    · split
      · exact hA _ (by omega)
      · split
        · exact hA _ (by omega)
        · split
          · exact hA _ (by omega)
          · exact hA _ (by omega)
  have hb : bk A' = bk A := by
    funext i
    exact hA _ (by omega)
  have hs : ∀ j, stp A' j = stp A j := fun j => by
    funext i
    exact hA _ (by omega)
  refine ⟨?_, ?_, ?_, ?_, ?_⟩
  · obtain ⟨p1, p2, p3, p4⟩ := h1
    show PG (m' 7 3) (m' 8) (m' 9) (m' 10) A' c
    rw [hm 7 (by omega) (by omega), hm 8 (by omega) (by omega), hm 9 (by omega) (by omega), hm 10 (by omega) (by omega)]
    refine ⟨p1, p2, by rw [hA 0 (by omega)]; exact p3, fun g hg => ?_⟩
    rw [hA _ (by omega), hA _ (by omega), hA _ (by omega)]
    exact p4 g hg
  · obtain ⟨t1, t2, t3, t4, t5⟩ := h2
    show PT (m' 6 4) (m' 6 5) A' (t + 1)
    rw [h64, h65]
    refine ⟨by omega, rfl, hA5, by rw [hA 6 (by omega)]; exact t4, ?_⟩
    rcases t5 with t5 | ⟨u, u1, u2⟩
    · exact Or.inl t5
    · exact Or.inr ⟨u, by omega, u2⟩
  · show Ev (m' 12) (cur A') (bk A') c
    rw [hm 12 (by omega) (by omega), hc, hb]
    exact h3
  · obtain ⟨k, n, a1, a2, a3, a4, a5, a6, a7, a8⟩ := h4
    show PS (fun j => m' (16 + 0 + j)) (m' 14 1) (m' 14 2) A' c
    rw [hm 14 (by omega) (by omega)]
    refine ⟨k, n, a1, a2, a3, by rw [hA 7 (by omega)]; exact a4, a5, fun j hj => ?_, fun i j hi hj => ?_, fun j hj => ?_⟩
    · obtain ⟨cj, b1, b2⟩ := a6 j hj
      refine ⟨cj, b1, ?_⟩
      have q : (n + 30 - k + j) % 30 < 30 := Nat.mod_lt _ (by omega)
      show Ev (m' (16 + 0 + (n + 30 - k + j) % 30)) (stp A' j) (bk A') cj
      rw [hm (16 + 0 + (n + 30 - k + j) % 30) (by omega) (by omega), hs, hb]
      exact b2
    · rw [hs, hs]
      exact a7 i j hi hj
    · rw [hs, hA 1 (by omega)]
      exact a8 j hj
  · show PO (m' 48) (m' 49) (m' 50) A' c
    rw [hm 48 (by omega) (by omega), hm 49 (by omega) (by omega), hm 50 (by omega) (by omega)]
    intro t ht
    rw [hA _ (by omega), hA _ (by omega), hA _ (by omega)]
    exact h5 t ht
theorem cpy0 {f g : Nat → Int32} {n i : Nat} (h : i < n) : va_cpy f g 0 0 n i = f i := by
  unfold va_cpy
  rw [if_pos ⟨by omega, by omega⟩]
  congr 1
  omega
theorem cp_text (a : Nat) (ha : 113 ≤ a) (M : Mem) : ∃ C, f_p_copyFrom_a_104 a M = some C ∧ (∀ i, i < 300 → C.1 (a + 1) i = M.1 105 i) ∧ (∀ i, i < 24 → C.1 (a + 2) i = M.1 106 i) ∧ (∀ i, i < 3 → C.1 (a + 3) i = M.1 107 i) ∧ C.1 a 3 = M.1 104 3 ∧ C.1 a 4 = M.1 104 4 ∧ ∀ k, (k < a ∨ a + 3 < k) → C.1 k = M.1 k := by
  refine ⟨_, rfl, fun i hi => ?_, fun i hi => ?_, fun i hi => ?_, ?_, ?_, fun k hk => ?_⟩
  · rw [si_1, if_neg (by omega), si_1, if_neg (by omega), sr_1, if_neg (by omega), sr_1, if_neg (by omega), sr_1, if_pos rfl, cpy0 hi]
  · rw [si_1, if_neg (by omega), si_1, if_neg (by omega), sr_1, if_neg (by omega), sr_1, if_pos rfl, cpy0 hi, sr_1, if_neg (by omega)]
  · rw [si_1, if_neg (by omega), si_1, if_neg (by omega), sr_1, if_pos rfl, cpy0 hi, sr_1, if_neg (by omega), sr_1, if_neg (by omega)]
  · rw [si_at, if_neg (by omega), si_at, if_pos ⟨rfl, rfl⟩]
    show (sr (sr (sr M (a + 1) _) (a + 2) _) (a + 3) _).1 104 3 = _
    rw [sr_1, if_neg (by omega), sr_1, if_neg (by omega), sr_1, if_neg (by omega)]
  · rw [si_at, if_pos ⟨rfl, rfl⟩]
    show (si (sr (sr (sr M (a + 1) _) (a + 2) _) (a + 3) _) a 3 _).1 104 4 = _
    rw [si_at, if_neg (by omega), sr_1, if_neg (by omega), sr_1, if_neg (by omega), sr_1, if_neg (by omega)]
  · rw [si_1, if_neg (by omega), si_1, if_neg (by omega), sr_1, if_neg (by omega), sr_1, if_neg (by omega), sr_1, if_neg (by omega)]
theorem nl7 {k : Nat} (h : k < 100 ∨ k = 101 ∨ 107 < k) : k ∉ [100, 102, 103, 104, 105, 106, 107] := by
  simp only [List.mem_cons, List.not_mem_nil, or_false]
  omega
/-- a text that was read, as both keep it -/
theorem LX_new {B : Nat → Nat} {n T : Nat} {Mc Mr : Mem} {a : Nat → Nat → Nat} {V : Nat → (Nat → Int32) → Int32} {c j sz j2 w : Nat} (hT : T ≤ 300) (ht : t < 4) (hC : CsI B n T Mc a V c j sz) (hR : RsI B n t T Mr a V c j2 w) (e3 : m (113 + 4 * t) 3 = Mc.1 104 3) (e4 : m (113 + 4 * t) 4 = Mc.1 104 4) (e5 : ∀ i, i < 300 → m (114 + 4 * t) i = Mc.1 105 i) (e6 : ∀ i, i < 24 → m (115 + 4 * t) i = Mc.1 106 i) (e7 : ∀ i, i < 3 → m (116 + 4 * t) i = Mc.1 107 i) (e2 : m 132 = Mr.1 132) : NcO m t c ∧ LCl m t c ∧ LLw m t c := by
  obtain ⟨hH, ⟨h4, hc⟩, hcl, hst⟩ := hC
  obtain ⟨rR, ⟨b1, b2, b3, b4, b5⟩, -, re⟩ := hR
  have sz3 : Mc.1 104 3 = nI sz := hH.2.2.2.2.2.2.2.1
  have szl : sz ≤ 300 := by
    have := hH.2.2.2.2.2.2.2.2
    have := hH.st j
    omega
  refine ⟨⟨hc, e4.trans h4, by rw [e2]; exact b1⟩, fun k hk => ?_, fun s hs => ?_⟩
  · obtain ⟨k1, k2, k3, k4, k5, k6⟩ := hcl k hk
    obtain ⟨r1, r2, r3, r4⟩ := re k hk
    exact ⟨a k 0, a k 1, a k 2, k1, k2, k3, k4, (e6 k (by omega)).trans k5, by rw [e2]; exact r1, fun e => by rw [e2]; exact r2 e, fun q1 q2 q3 => by rw [e2]; exact r3 q1 q2 q3⟩
  · have dv : ∀ k, k < c → m 132 (705 * t + 1 + 4 * k) = nI (a k 0 - 12) := fun k hk => by rw [e2]; exact (re k hk).1
    have ne : ∀ k, k < c → a k 0 ≠ 12 + s → m 132 (705 * t + 1 + 4 * k) ≠ nI s := fun k hk q e => by
      have k1 := (hcl k hk).1
      have k2 := (hcl k hk).2.1
      rw [dv k hk] at e
      have := (nI_eq (by omega) (by omega)).mp e
      omega
    rcases hst s hs with ⟨x1, x2⟩ | ⟨k, x1, x2, x3, x4⟩
    · exact Or.inl ⟨(e7 s hs).trans x1, fun k hk => ne k hk (x2 k hk)⟩
    · right
      obtain ⟨k1, k2, k3, k4, k5, k6⟩ := hcl k x1
      obtain ⟨r1, r2, r3, r4⟩ := re k x1
      obtain ⟨q1, q2, q3, q4⟩ := k6 (by omega)
      obtain ⟨ws, we, g1, g2, g3, g4, g5⟩ := r4 (by omega)
      have q0 := q1.1
      have es : a k 0 - 12 = s := by omega
      refine ⟨a k 3, k, by omega, x1, (e7 s hs).trans x3, by rw [dv k x1, es], fun i hi => ne i (by omega) (x4 i hi), ?_⟩
      rw [es] at q4 g5
      exact lev_of (S := sz) (b := a k 4) (ws := ws) (we := we) (V := V k) ht (by omega) (e3.trans sz3) szl q3 (q1.cong (fun i i1 i2 => e5 i (by omega))) ((e5 _ (by omega)).trans q2) q4 (by rw [e2]; exact g1) (by rw [e2]; exact g2) (by omega) (fun e => by rw [e2]; exact g4 (by omega)) (fun e => by rw [e2]; exact g5 (by omega))
theorem o_3 {N : Nat} (hN : 4000 ≤ N) : O_3 (Inv LX) (Inv LX) N := by
  intro M hM
  obtain ⟨c, t, ck, tk, h1, h2, h3, h4, h5, h6⟩ := hM
  obtain ⟨t4, p64, pA5, p65, pr⟩ := h1.2.1
  have p64' : gi M 6 4 = nI t := p64
  by_cases z : t = 4
  · subst z
    refine ⟨-1, M, M, ?_, ?_, ⟨c, 4, ck, tk, h1, h2, h3, h4, h5, h6⟩⟩
    · unfold f_w_text
      rw [p64', show w_scr (nI 4) = none by decide]
    · unfold f_m_text
      rw [if_pos (show gi M 130 5 = (4 : Int32) from pA5)]
  · have ht : t < 4 := by omega
    obtain ⟨n, n1, n2, n3, n4⟩ := h4
    obtain ⟨B, hB⟩ : ∃ B : Nat → Nat, ∀ i, i < n → B i < 256 ∧ M.1 101 i = nI (B i) ∧ M.1 133 i = nI (B i) := ⟨fun i => (M.1 101 i).toNatClampNeg, fun i hi => by
      obtain ⟨b, b1, b2, b3⟩ := n4 i hi
      have e : (M.1 101 i).toNatClampNeg = b := by rw [b2, nI_clamp (by omega)]
      show (M.1 101 i).toNatClampNeg < 256 ∧ M.1 101 i = nI (M.1 101 i).toNatClampNeg ∧ M.1 133 i = nI (M.1 101 i).toNatClampNeg
      rw [e]
      exact ⟨b1, b2, b3⟩⟩
    obtain ⟨M0, T, hT, hT2, e0, i0, f0, z0, z2⟩ := c_read (N := N) (M := M) (B := B) (n := n) hN ⟨n1, n2, fun i hi => ⟨(hB i hi).1, (hB i hi).2.1⟩⟩ (fun _ _ => 0) (fun _ _ => 0)
    have sc := scr_u t ht
    have cw : f_w_text N M = Option.bind (f_r_read N M) fun q1 => Option.bind (some (si q1 100 3 (0 : Int32))) fun q2 => (if (gi q2 103 1) = (0 : Int32) then Option.bind (f_p_copyFrom_a_104 (113 + 4 * t) q2) fun q3 => Option.bind (some (si q3 6 4 ((gi q3 6 4) + (1 : Int32)))) fun q4 => some (((gi q4 6 4) - (1 : Int32)), q4) else some ((-1 : Int32), q2)) := by
      unfold f_w_text
      rw [p64', sc]
    have n54 : ∀ M1 : Mem, M1.1 130 5 = nI t → ¬ gi M1 130 5 = (4 : Int32) := fun M1 h e => by
      rw [show gi M1 130 5 = nI t from h] at e
      have := (nI_eq (b := 4) (by omega) (by decide)).mp e
      omega
    rcases rd_loop (u := t) (N := N) hN hT hT2 N 0 M0 0 0 (fun _ _ => 0) (fun _ _ => 0) (by omega) i0 with ⟨M', f, jf, e1, b1, r1⟩ | ⟨M', c', j', sz', a', V', e1, i1, r1⟩
    · have fz := fs_r_read_52 N N (nI 0) M0 M' e1
      have oM : ∀ k, (k < 100 ∨ k = 101 ∨ 107 < k) → M'.1 k = M.1 k := fun k hk => ((fz.1 k (nl7 hk)).1).trans (f0 k (nl7 hk))
      have f1 := b1.1
      have f2 := b1.2.1
      have nf : ¬ nI f = (0 : Int32) := fun e => by have := (nI_eq (b := 0) (by omega) (by decide)).mp e; omega
      have o1 : ∀ k, (k < 100 ∨ k = 101 ∨ 107 < k) → (si M' 100 3 0).1 k = M.1 k := fun k hk => by rw [si_1, if_neg (by omega)]; exact oM k hk
      obtain ⟨Mr0, er, ri, kr0⟩ := r_read (N := N) (T := T) (M := si M' 100 3 0) (B := B) (n := n) (u := t) hN ⟨n1, by rw [o1 129 (by omega)]; exact n3, fun i hi => ⟨(hB i hi).1, by rw [o1 133 (by omega)]; exact (hB i hi).2.2⟩⟩ ht (by rw [o1 130 (by omega)]; exact pA5) (fun _ _ => 0) (fun _ _ => 0)
      obtain ⟨Mr', q1, q2, q3⟩ := r1 N Mr0 0 (by omega) ri
      have kr := kr0.tr q3
      have oA : ∀ k, (k < 100 ∨ k = 101 ∨ 107 < k) → k ≠ 129 → k ≠ 132 → (k < 134 ∨ 137 < k) → (si (si (si Mr' 129 5 (nI f)) 129 6 (nI (stk B n jf))) 129 4 0).1 k = M.1 k := fun k a1 a2 a3 a4 => by
        rw [si_1, if_neg a2, si_1, if_neg a2, si_1, if_neg a2, kr.2.1 k a2 a3 a4, o1 k a1]
      have oB : ∀ k, k ≠ 129 → k ≠ 132 → (k < 134 ∨ 137 < k) → (si (si (si Mr' 129 5 (nI f)) 129 6 (nI (stk B n jf))) 129 4 0).1 k = (si M' 100 3 0).1 k := fun k a2 a3 a4 => by
        rw [si_1, if_neg a2, si_1, if_neg a2, si_1, if_neg a2, kr.2.1 k a2 a3 a4]
      refine ⟨-1, si M' 100 3 0, si (si (si Mr' 129 5 (nI f)) 129 6 (nI (stk B n jf))) 129 4 0, ?_, ?_, ⟨c, t, ck, tk, ?_, ?_, h3, ⟨0, by omega, ?_, ?_, fun i hi => by omega⟩, Or.inr ⟨?_, ?_, ?_⟩, ?_⟩⟩
      · rw [cw, e0, e1, Option.bind_some, Option.bind_some, if_neg (show ¬ gi (si M' 100 3 0) 103 1 = (0 : Int32) by show ¬ (si M' 100 3 0).1 103 1 = 0; rw [si_at, if_neg (by omega), b1.2.2.1]; exact nf)]
      · unfold f_m_text f_m_text_36
        rw [if_neg (n54 (si M' 100 3 0) (by rw [o1 130 (by omega)]; exact pA5)), er, q1, Option.bind_some]
        show (Option.bind (some (si Mr' 129 5 (nI f))) fun q2 => (if (gi q2 129 5) = (0 : Int32) then Option.bind (some (si q2 129 6 (-1 : Int32))) fun q3 => Option.bind (some (si q3 129 4 (0 : Int32))) fun q4 => (if (gi q4 129 5) = (0 : Int32) then Option.bind (some (si q4 130 5 ((gi q4 130 5) + (1 : Int32)))) fun q5 => some (((gi q5 130 5) - (1 : Int32)), q5) else some ((-1 : Int32), q4)) else Option.bind (some (si q2 129 6 (gi q2 129 8))) fun q3 => Option.bind (some (si q3 129 4 (0 : Int32))) fun q4 => (if (gi q4 129 5) = (0 : Int32) then Option.bind (some (si q4 130 5 ((gi q4 130 5) + (1 : Int32)))) fun q5 => some (((gi q5 130 5) - (1 : Int32)), q5) else some ((-1 : Int32), q4)))) = _
        have g5 : gi (si Mr' 129 5 (nI f)) 129 5 = nI f := by show (si Mr' 129 5 (nI f)).1 129 5 = _; rw [si_at, if_pos ⟨rfl, rfl⟩]
        have g8 : gi (si Mr' 129 5 (nI f)) 129 8 = nI (stk B n jf) := by show (si Mr' 129 5 (nI f)).1 129 8 = _; rw [si_at, if_neg (by omega)]; exact q2
        have g5' : gi (si (si (si Mr' 129 5 (nI f)) 129 6 (nI (stk B n jf))) 129 4 0) 129 5 = nI f := by show (si (si (si Mr' 129 5 (nI f)) 129 6 (nI (stk B n jf))) 129 4 0).1 129 5 = _; rw [si_at, if_neg (by omega), si_at, if_neg (by omega), si_at, if_pos ⟨rfl, rfl⟩]
        rw [Option.bind_some, g5, if_neg nf, g8, Option.bind_some, Option.bind_some, g5', if_neg nf]
      · rw [oA 130 (by omega) (by omega) (by omega) (by omega)]
        exact h1.cong (fun k a b _ _ _ _ _ => oA (k + 0) (by omega) (by omega) (by omega) (by omega))
      · rw [oA 131 (by omega) (by omega) (by omega) (by omega)]
        exact h2.cong (fun k a b _ _ _ _ _ => oA (k + 47) (by omega) (by omega) (by omega) (by omega))
      · rw [oB 100 (by omega) (by omega) (by omega), si_at, if_pos ⟨rfl, rfl⟩]
        rfl
      · rw [si_at, if_pos ⟨rfl, rfl⟩]
        rfl
      · rw [oB 103 (by omega) (by omega) (by omega), si_at, if_neg (by omega), fz.2]
        exact z0
      · rw [oB 103 (by omega) (by omega) (by omega), si_at, if_neg (by omega), b1.2.2.1, si_at, if_neg (by omega), si_at, if_neg (by omega), si_at, if_pos ⟨rfl, rfl⟩]
      · rw [oB 103 (by omega) (by omega) (by omega), si_at, if_neg (by omega), b1.2.2.2.1, si_at, if_neg (by omega), si_at, if_pos ⟨rfl, rfl⟩]
      · refine LX_loc h6 (fun k a b => oA k (by omega) (by omega) (by omega) (by omega)) (fun i hi => ?_)
        rw [si_at, if_neg (by omega), si_at, if_neg (by omega), si_at, if_neg (by omega), kr.1 i hi, o1 132 (by omega)]
    · have fz := fs_r_read_52 N N (nI 0) M0 M' e1
      have fy := fy_r_read_52 N N (nI 0) M0 M' e1
      have g1 : M'.1 103 1 = 0 := i1.1.2.2.2.2.1
      have g2 : M'.1 103 2 = -1 := (fy g1).2.trans z2
      have oM : ∀ k, (k < 100 ∨ k = 101 ∨ 107 < k) → M'.1 k = M.1 k := fun k hk => ((fz.1 k (nl7 hk)).1).trans (f0 k (nl7 hk))
      obtain ⟨C, ec, x1, x2, x3, x4, x5, x6⟩ := cp_text (113 + 4 * t) (by omega) (si M' 100 3 0)
      have o1 : ∀ k, (k < 100 ∨ k = 101 ∨ 107 < k) → (k < 113 + 4 * t ∨ 113 + 4 * t + 3 < k) → C.1 k = M.1 k := fun k hk hk2 => by rw [x6 k hk2, si_1, if_neg (by omega)]; exact oM k hk
      have c64 : gi C 6 4 = nI t := by show C.1 6 4 = _; rw [o1 6 (by omega) (by omega)]; exact p64
      have o2 : ∀ k, k ≠ 6 → (si C 6 4 (nI (t + 1))).1 k = C.1 k := fun k hk => by rw [si_1, if_neg hk]
      obtain ⟨Mr0, er, ri, kr0⟩ := r_read (N := N) (T := T) (M := si C 6 4 (nI (t + 1))) (B := B) (n := n) (u := t) hN ⟨n1, by rw [o2 129 (by omega), o1 129 (by omega) (by omega)]; exact n3, fun i hi => ⟨(hB i hi).1, by rw [o2 133 (by omega), o1 133 (by omega) (by omega)]; exact (hB i hi).2.2⟩⟩ ht (by rw [o2 130 (by omega), o1 130 (by omega) (by omega)]; exact pA5) (fun _ _ => 0) (fun _ _ => 0)
      obtain ⟨Mr', w', q1, q2, q3⟩ := r1 N Mr0 0 (by omega) ri
      have kr := kr0.tr q3
      obtain ⟨F, hF⟩ : ∃ F, F = si (si (si (si Mr' 129 5 0) 129 6 (-1)) 129 4 0) 130 5 (nI (t + 1)) := ⟨_, rfl⟩
      have oF : ∀ k, k ≠ 129 → k ≠ 130 → F.1 k = Mr'.1 k := fun k a1 a2 => by rw [hF, si_1, if_neg a2, si_1, if_neg a1, si_1, if_neg a1, si_1, if_neg a1]
      have oC : ∀ k, k ≠ 6 → k ≠ 129 → k ≠ 130 → k ≠ 132 → (k < 134 ∨ 137 < k) → F.1 k = C.1 k := fun k a0 a1 a2 a3 a4 => by rw [oF k a1 a2, kr.2.1 k a1 a3 a4, o2 k a0]
      have r5 : Mr'.1 130 = M.1 130 := by rw [kr.2.1 130 (by omega) (by omega) (by omega), o2 130 (by omega), o1 130 (by omega) (by omega)]
      have s1 : nI (t + 1) - (1 : Int32) = nI t := nI_s1
      refine ⟨nI t, si C 6 4 (nI (t + 1)), F, ?_, ?_, ⟨c, t + 1, ck, tk, ?_, ?_, by omega, ⟨0, by omega, ?_, ?_, fun i hi => by omega⟩, Or.inr ⟨?_, ?_, ?_⟩, ?_⟩⟩
      · rw [cw, e0, e1, Option.bind_some, Option.bind_some, if_pos (show gi (si M' 100 3 0) 103 1 = (0 : Int32) by show (si M' 100 3 0).1 103 1 = 0; rw [si_at, if_neg (by omega)]; exact g1), ec, Option.bind_some, c64, nI_1, Option.bind_some, show gi (si C 6 4 (nI (t + 1))) 6 4 = nI (t + 1) by show (si C 6 4 (nI (t + 1))).1 6 4 = _; rw [si_at, if_pos ⟨rfl, rfl⟩], s1]
      · unfold f_m_text f_m_text_36
        rw [if_neg (n54 (si C 6 4 (nI (t + 1))) (by rw [o2 130 (by omega), o1 130 (by omega) (by omega)]; exact pA5)), er, q1, Option.bind_some]
        show (Option.bind (some (si Mr' 129 5 (0 : Int32))) fun q2 => (if (gi q2 129 5) = (0 : Int32) then Option.bind (some (si q2 129 6 (-1 : Int32))) fun q3 => Option.bind (some (si q3 129 4 (0 : Int32))) fun q4 => (if (gi q4 129 5) = (0 : Int32) then Option.bind (some (si q4 130 5 ((gi q4 130 5) + (1 : Int32)))) fun q5 => some (((gi q5 130 5) - (1 : Int32)), q5) else some ((-1 : Int32), q4)) else Option.bind (some (si q2 129 6 (gi q2 129 8))) fun q3 => Option.bind (some (si q3 129 4 (0 : Int32))) fun q4 => (if (gi q4 129 5) = (0 : Int32) then Option.bind (some (si q4 130 5 ((gi q4 130 5) + (1 : Int32)))) fun q5 => some (((gi q5 130 5) - (1 : Int32)), q5) else some ((-1 : Int32), q4)))) = _
        have g5 : gi (si Mr' 129 5 0) 129 5 = 0 := by show (si Mr' 129 5 0).1 129 5 = _; rw [si_at, if_pos ⟨rfl, rfl⟩]
        have g5' : gi (si (si (si Mr' 129 5 0) 129 6 (-1)) 129 4 0) 129 5 = 0 := by show (si (si (si Mr' 129 5 0) 129 6 (-1)) 129 4 0).1 129 5 = _; rw [si_at, if_neg (by omega), si_at, if_neg (by omega), si_at, if_pos ⟨rfl, rfl⟩]
        have g130 : gi (si (si (si Mr' 129 5 0) 129 6 (-1)) 129 4 0) 130 5 = nI t := by show (si (si (si Mr' 129 5 0) 129 6 (-1)) 129 4 0).1 130 5 = _; rw [si_at, if_neg (by omega), si_at, if_neg (by omega), si_at, if_neg (by omega), r5]; exact pA5
        rw [Option.bind_some, g5, if_pos rfl, Option.bind_some, Option.bind_some, g5', if_pos rfl, g130, nI_1, Option.bind_some, ← hF, show gi F 130 5 = nI (t + 1) by show F.1 130 5 = _; rw [hF, si_at, if_pos ⟨rfl, rfl⟩], s1]
      · refine Tab.tx h1 ht (fun k a b => ?_) ?_ ?_ ?_ (fun i hi => ?_)
        · rw [oC k (by omega) (by omega) (by omega) (by omega) (by omega), o1 k (by omega) (by omega)]
        · rw [oF 6 (by omega) (by omega), kr.2.1 6 (by omega) (by omega) (by omega), si_at, if_pos ⟨rfl, rfl⟩]
        · rw [oF 6 (by omega) (by omega), kr.2.1 6 (by omega) (by omega) (by omega), si_at, if_neg (by omega), o1 6 (by omega) (by omega)]
        · rw [hF, si_at, if_pos ⟨rfl, rfl⟩]
        · rw [hF, si_at, if_neg (by omega), si_at, if_neg (by omega), si_at, if_neg (by omega), si_at, if_neg (by omega), r5]
      · rw [oC 131 (by omega) (by omega) (by omega) (by omega) (by omega), o1 131 (by omega) (by omega)]
        refine h2.cong (fun k a b _ _ _ _ _ => ?_)
        rw [oC (k + 47) (by omega) (by omega) (by omega) (by omega) (by omega), o1 (k + 47) (by omega) (by omega)]
      · rw [oC 100 (by omega) (by omega) (by omega) (by omega) (by omega), x6 100 (by omega), si_at, if_pos ⟨rfl, rfl⟩]
        rfl
      · rw [hF, si_at, if_neg (by omega), si_at, if_pos ⟨rfl, rfl⟩]
        rfl
      · rw [oC 103 (by omega) (by omega) (by omega) (by omega) (by omega), x6 103 (by omega), si_at, if_neg (by omega), fz.2]
        exact z0
      · rw [oC 103 (by omega) (by omega) (by omega) (by omega) (by omega), x6 103 (by omega), si_at, if_neg (by omega), g1, hF, si_at, if_neg (by omega), si_at, if_neg (by omega), si_at, if_neg (by omega), si_at, if_pos ⟨rfl, rfl⟩]
      · rw [oC 103 (by omega) (by omega) (by omega) (by omega) (by omega), x6 103 (by omega), si_at, if_neg (by omega), g2, hF, si_at, if_neg (by omega), si_at, if_neg (by omega), si_at, if_pos ⟨rfl, rfl⟩]
      · have e132 : F.1 132 = Mr'.1 132 := oF 132 (by omega) (by omega)
        have cell : ∀ k i, k ≠ 100 → (si M' 100 3 0).1 k i = M'.1 k i := fun k i hk => by rw [si_1, if_neg hk]
        have a0 : F.1 (113 + 4 * t) = C.1 (113 + 4 * t) := oC _ (by omega) (by omega) (by omega) (by omega) (by omega)
        have a1 : F.1 (114 + 4 * t) = C.1 (113 + 4 * t + 1) := by rw [show 114 + 4 * t = 113 + 4 * t + 1 by omega]; exact oC _ (by omega) (by omega) (by omega) (by omega) (by omega)
        have a2 : F.1 (115 + 4 * t) = C.1 (113 + 4 * t + 2) := by rw [show 115 + 4 * t = 113 + 4 * t + 2 by omega]; exact oC _ (by omega) (by omega) (by omega) (by omega) (by omega)
        have a3 : F.1 (116 + 4 * t) = C.1 (113 + 4 * t + 3) := by rw [show 116 + 4 * t = 113 + 4 * t + 3 by omega]; exact oC _ (by omega) (by omega) (by omega) (by omega) (by omega)
        obtain ⟨y1, y2, y3⟩ := LX_new (m := F.1) hT ht i1 q2 (by rw [a0, x4]; exact cell _ _ (by omega)) (by rw [a0, x5]; exact cell _ _ (by omega)) (fun i hi => by rw [a1, x1 i hi]; exact cell _ _ (by omega)) (fun i hi => by rw [a2, x2 i hi]; exact cell _ _ (by omega)) (fun i hi => by rw [a3, x3 i hi]; exact cell _ _ (by omega)) e132
        refine LX_snoc (LX_loc h6 (fun k a b => ?_) (fun i hi => ?_)) y1 y2 y3
        · rw [oC k (by omega) (by omega) (by omega) (by omega) (by omega), o1 k (by omega) (by omega)]
        · rw [e132, kr.1 i hi, o2 132 (by omega), o1 132 (by omega) (by omega)]
end TEXT
