/-! What a step does to an evening. -/
def EA (R A : Nat → Int32) (c nt mo dr gn sp : Nat) (lm lw lk lf bh bd : Nat → Nat) : Prop := EvN R (cur A) c nt mo dr gn sp ∧ EvL R (cur A) c sp lm lw lk lf ∧ EvD (cur A) c gn sp lm lw lk ∧ EvB R (bk A) nt bh bd
theorem Cx.ea {Mc Mr : Mem} {c nt mo dr gn sp : Nat} {lm lw lk lf bh bd : Nat → Nat} (h : Cx Mc Mr c nt mo dr gn sp lm lw lk lf bh bd) : EA (Mc.1 12) (Mr.1 130) c nt mo dr gn sp lm lw lk lf bh bd := h.2.2
theorem EA.ev {R A : Nat → Int32} {c nt mo dr gn sp : Nat} {lm lw lk lf bh bd : Nat → Nat} (h : EA R A c nt mo dr gn sp lm lw lk lf bh bd) : Ev R (cur A) (bk A) c := ⟨nt, mo, dr, gn, sp, lm, lw, lk, lf, bh, bd, h⟩
theorem EA.cx {Mc Mr : Mem} {R A : Nat → Int32} {c nt mo dr gn sp : Nat} {lm lw lk lf bh bd : Nat → Nat} (h : EA R A c nt mo dr gn sp lm lw lk lf bh bd) (h7 : Mc.1 7 3 = nI c) (hR : Mc.1 12 = R) (hA : Mr.1 130 = A) : Cx Mc Mr c nt mo dr gn sp lm lw lk lf bh bd := by
  subst hR
  subst hA
  exact ⟨h.1.1.2, h7, h⟩
theorem EA.of {R A : Nat → Int32} {c nt mo dr gn sp : Nat} {lm lw lk lf bh bd : Nat → Nat} (hc : c ≤ 8) (a0 : A 0 = nI c) (r0 : R 0 = nI nt) (a1 : A 1 = nI nt) (n9 : nt ≤ 999) (r1 : R 1 = nI mo) (a2 : A 2 = nI mo) (m9 : mo ≤ 99) (r2 : R 2 = nI dr) (a4 : A 4 = nI dr) (d9 : dr < 30259) (r3 : R 3 = nI gn) (g9 : gn < 2 ^ c) (r4 : R 4 = nI sp) (a8 : A 8 = nI sp) (s9 : sp ≤ 40) (r5 : R 5 = nI (min nt 20)) (a9 : A 9 = nI nt) (a3 : A 3 = nI (ct (fun i => decide (lk i = 2)) sp))
    (hL : ∀ i, i < sp → R (6 + i) = nI (lm i + 128 * lw i + 2048 * lk i + 16384 * lf i) ∧ A (68 + i) = nI (((lm i * 16 + lw i) * 8 + lk i) * 256 + lf i) ∧ lm i ≤ 99 ∧ (lw i < c ∨ lw i = 8) ∧ lk i ≤ 4 ∧ lf i ≤ 199)
    (hG : ∀ g, g < c → A (15 + 7 * g) = nI (if gn.testBit g then 0 else 1) ∧ A (16 + 7 * g) = nI (ct (fun i => decide (lw i = g)) sp) ∧ A (17 + 7 * g) = nI (ct (fun i => decide (lw i = g) && decide (lk i = 2)) sp) ∧ A (18 + 7 * g) = lastI lm lw g sp)
    (hB : ∀ j, j < min nt 20 → R (46 + j) = nI ((nt - min nt 20 + j) + 1024 * bh j + 262144 * bd j) ∧ A (2526 + (nt - min nt 20 + j)) = nI (((nt - min nt 20 + j) * 256 + bh j) * 128 + bd j) ∧ bh j < 256 ∧ bd j ≤ 100) : EA R A c nt mo dr gn sp lm lw lk lf bh bd := by
  refine ⟨⟨⟨a0, hc⟩, ⟨r0, a1, n9⟩, ⟨r1, a2, m9⟩, ⟨r2, a4, d9⟩, ⟨r3, g9⟩, ⟨r4, a8, s9⟩, ⟨r5, a9⟩⟩, fun i hi => ?_, ⟨a3, fun g hg => ?_⟩, hB⟩
  · rw [cur_L]
    exact hL i hi
  · obtain ⟨q1, q2, q3, q4⟩ := hG g hg
    refine ⟨?_, ?_, ?_, ?_⟩
    · rw [show 7 + 4 * g = 7 + 4 * g + 0 from rfl, cur_G A g 0 (by omega) (by omega)]
      exact q1
    · rw [show 8 + 4 * g = 7 + 4 * g + 1 by omega, cur_G A g 1 (by omega) (by omega), show 15 + 7 * g + 1 = 16 + 7 * g by omega]
      exact q2
    · rw [show 9 + 4 * g = 7 + 4 * g + 2 by omega, cur_G A g 2 (by omega) (by omega), show 15 + 7 * g + 2 = 17 + 7 * g by omega]
      exact q3
    · rw [show 10 + 4 * g = 7 + 4 * g + 3 by omega, cur_G A g 3 (by omega) (by omega), show 15 + 7 * g + 3 = 18 + 7 * g by omega]
      exact q4
theorem lastI_congr {lm lw lm' lw' : Nat → Nat} {g : Nat} : ∀ {n : Nat}, (∀ i, i < n → lm' i = lm i ∧ lw' i = lw i) → lastI lm' lw' g n = lastI lm lw g n
  | 0, _ => rfl
  | n + 1, h => by
    show (if lw' n = g then nI (lm' n) else lastI lm' lw' g n) = (if lw n = g then nI (lm n) else lastI lm lw g n)
    rw [(h n (by omega)).1, (h n (by omega)).2, lastI_congr (n := n) (fun i hi => h i (by omega))]
theorem lastI_none {lm lw : Nat → Nat} {g : Nat} : ∀ {n : Nat}, (∀ i, i < n → lw i ≠ g) → lastI lm lw g n = -1
  | 0, _ => rfl
  | n + 1, h => by
    show (if lw n = g then nI (lm n) else lastI lm lw g n) = -1
    rw [if_neg (h n (by omega)), lastI_none (n := n) (fun i hi => h i (by omega))]
section EVOPS
variable {Mc Mr : Mem} {c nt mo dr gn sp : Nat} {lm lw lk lf bh bd : Nat → Nat}
theorem Cx.lA (h : Cx Mc Mr c nt mo dr gn sp lm lw lk lf bh bd) {i : Nat} (hi : i < sp) : Mr.1 130 (68 + i) = nI (((lm i * 16 + lw i) * 8 + lk i) * 256 + lf i) := by
  have := (h.L i hi).2.1
  rw [cur_L] at this
  exact this
/-- somebody speaks -/
theorem Cx.say (h : Cx Mc Mr c nt mo dr gn sp lm lw lk lf bh bd) (hs : sp < 40) {w k f gn' : Nat} (hw : w < c ∨ w = 8) (hk : k ≤ 4) (hf : f ≤ 199) (hg : gn' < 2 ^ c) {R' A' : Nat → Int32}
    (hR : ∀ j, j ≠ 3 → j ≠ 4 → j ≠ 6 + sp → R' j = Mc.1 12 j) (r3 : R' 3 = nI gn') (r4 : R' 4 = nI (sp + 1)) (r6 : R' (6 + sp) = nI (mo + 128 * w + 2048 * k + 16384 * f))
    (hA : ∀ j, (j ≤ 2 ∨ j = 4 ∨ j = 9 ∨ (68 ≤ j ∧ j < 68 + sp) ∨ 2526 ≤ j) → A' j = Mr.1 130 j) (a3 : A' 3 = if k = 2 then Mr.1 130 3 + 1 else Mr.1 130 3) (a8 : A' 8 = nI (sp + 1)) (a68 : A' (68 + sp) = nI (((mo * 16 + w) * 8 + k) * 256 + f))
    (hG : ∀ g, g < c → A' (15 + 7 * g) = nI (if gn'.testBit g then 0 else 1) ∧ A' (16 + 7 * g) = (if g = w then Mr.1 130 (16 + 7 * g) + 1 else Mr.1 130 (16 + 7 * g)) ∧ A' (17 + 7 * g) = (if g = w ∧ k = 2 then Mr.1 130 (17 + 7 * g) + 1 else Mr.1 130 (17 + 7 * g)) ∧ A' (18 + 7 * g) = (if g = w then nI mo else Mr.1 130 (18 + 7 * g))) :
    EA R' A' c nt mo dr gn' (sp + 1) (fun i => if i = sp then mo else lm i) (fun i => if i = sp then w else lw i) (fun i => if i = sp then k else lk i) (fun i => if i = sp then f else lf i) bh bd := by
  have hc := h.c8
  have hm := h.mo99
  refine EA.of hc (by rw [hA 0 (by omega), h.c130]) (by rw [hR 0 (by omega) (by omega) (by omega), h.nt12]) (by rw [hA 1 (by omega), h.nt130]) h.nt999 (by rw [hR 1 (by omega) (by omega) (by omega), h.mo12]) (by rw [hA 2 (by omega), h.mo130]) h.mo99 (by rw [hR 2 (by omega) (by omega) (by omega), h.dr12]) (by rw [hA 4 (by omega), h.dr130]) h.drl r3 hg r4 a8 (by omega) (by rw [hR 5 (by omega) (by omega) (by omega), h.wr12]) (by rw [hA 9 (by omega), h.wr130]) ?_ (fun i hi => ?_) (fun g hg => ?_) (fun j hj => ?_)
  · rw [a3, h.wine]
    show _ = nI (ct _ sp + if decide ((if sp = sp then k else lk sp) = 2) = true then 1 else 0)
    rw [if_pos rfl, ct_congr (p := fun i => decide ((if i = sp then k else lk i) = 2)) (q := fun i => decide (lk i = 2)) (fun i hi => by simp [show i ≠ sp by omega])]
    by_cases q : k = 2
    · simp only [q, if_true, decide_true, nI_1]
    · simp only [q, if_false, decide_false, Bool.false_eq_true, Nat.add_zero]
  · by_cases e : i = sp
    · subst e
      simp only [if_true]
      exact ⟨r6, a68, hm, hw, hk, hf⟩
    · obtain ⟨l1, l2⟩ := h.L i (by omega)
      simp only [e, if_false]
      exact ⟨by rw [hR _ (by omega) (by omega) (by omega)]; exact l1, by rw [hA _ (by omega)]; exact h.lA (by omega), l2.2⟩
  · obtain ⟨q1, q2, q3, q4⟩ := hG g hg
    refine ⟨q1, ?_, ?_, ?_⟩
    · rw [q2, h.g4 hg]
      show _ = nI (ct _ sp + if decide ((if sp = sp then w else lw sp) = g) = true then 1 else 0)
      rw [if_pos (rfl : sp = sp), ct_congr (p := fun i => decide ((if i = sp then w else lw i) = g)) (q := fun i => decide (lw i = g)) (fun i hi => by simp [show i ≠ sp by omega])]
      by_cases q : g = w
      · subst q
        simp only [if_true, decide_true, nI_1]
      · simp only [q, if_false, show ¬ w = g from fun e => q e.symm, decide_false, Bool.false_eq_true, Nat.add_zero]
    · rw [q3, h.g5 hg]
      show _ = nI (ct _ sp + if (decide ((if sp = sp then w else lw sp) = g) && decide ((if sp = sp then k else lk sp) = 2)) = true then 1 else 0)
      rw [if_pos (rfl : sp = sp), if_pos (rfl : sp = sp), ct_congr (p := fun i => decide ((if i = sp then w else lw i) = g) && decide ((if i = sp then k else lk i) = 2)) (q := fun i => decide (lw i = g) && decide (lk i = 2)) (fun i hi => by simp [show i ≠ sp by omega])]
      by_cases q : g = w ∧ k = 2
      · obtain ⟨rfl, rfl⟩ := q
        simp only [and_self, if_true, decide_true, Bool.and_self, nI_1]
      · rw [if_neg q, if_neg (by intro e; rw [Bool.and_eq_true, decide_eq_true_eq, decide_eq_true_eq] at e; exact q ⟨e.1.symm, e.2⟩), Nat.add_zero]
    · rw [q4, h.g6 hg]
      show _ = (if (if sp = sp then w else lw sp) = g then nI (if sp = sp then mo else lm sp) else lastI _ _ g sp)
      rw [if_pos (rfl : sp = sp), if_pos (rfl : sp = sp), lastI_congr (lm := lm) (lw := lw) (lm' := fun i => if i = sp then mo else lm i) (lw' := fun i => if i = sp then w else lw i) (fun i hi => by simp [show i ≠ sp by omega])]
      by_cases q : g = w
      · rw [if_pos q, if_pos q.symm]
      · rw [if_neg q, if_neg (fun e => q e.symm)]
  · obtain ⟨b1, b2, b3⟩ := h.B j hj
    exact ⟨by rw [hR _ (by omega) (by omega) (by omega)]; exact b1, by rw [hA _ (by omega)]; exact b2, b3⟩
/-- somebody goes, a moment passes, a number is drawn -/
theorem Cx.move (h : Cx Mc Mr c nt mo dr gn sp lm lw lk lf bh bd) {gn' mo' dr' : Nat} (hg : gn' < 2 ^ c) (hm : mo' ≤ 99) (hd : dr' < 30259) {R' A' : Nat → Int32}
    (hR : ∀ j, j ≠ 1 → j ≠ 2 → j ≠ 3 → R' j = Mc.1 12 j) (r1 : R' 1 = nI mo') (r2 : R' 2 = nI dr') (r3 : R' 3 = nI gn')
    (hA : ∀ j, j ≠ 2 → j ≠ 4 → (∀ g, g < c → j ≠ 15 + 7 * g) → A' j = Mr.1 130 j) (a2 : A' 2 = nI mo') (a4 : A' 4 = nI dr')
    (hG : ∀ g, g < c → A' (15 + 7 * g) = nI (if gn'.testBit g then 0 else 1)) : EA R' A' c nt mo' dr' gn' sp lm lw lk lf bh bd := by
  have hc := h.c8
  have lo : ∀ j, j ≠ 2 → j ≠ 4 → (j < 15 ∨ 64 < j) → A' j = Mr.1 130 j := fun j h1 h2 h3 => hA j h1 h2 (fun g hg => by omega)
  refine EA.of hc (by rw [lo 0 (by omega) (by omega) (by omega), h.c130]) (by rw [hR 0 (by omega) (by omega) (by omega), h.nt12]) (by rw [lo 1 (by omega) (by omega) (by omega), h.nt130]) h.nt999 r1 a2 hm r2 a4 hd r3 hg (by rw [hR 4 (by omega) (by omega) (by omega), h.sp12]) (by rw [lo 8 (by omega) (by omega) (by omega), h.sp130]) h.sp40 (by rw [hR 5 (by omega) (by omega) (by omega), h.wr12]) (by rw [lo 9 (by omega) (by omega) (by omega), h.wr130]) (by rw [lo 3 (by omega) (by omega) (by omega), h.wine]) (fun i hi => ?_) (fun g hg => ?_) (fun j hj => ?_)
  · obtain ⟨l1, l2⟩ := h.L i hi
    exact ⟨by rw [hR _ (by omega) (by omega) (by omega)]; exact l1, by rw [lo _ (by omega) (by omega) (by omega)]; exact h.lA hi, l2.2⟩
  · refine ⟨hG g hg, ?_, ?_, ?_⟩
    · rw [hA _ (by omega) (by omega) (fun g' _ => by omega), h.g4 hg]
    · rw [hA _ (by omega) (by omega) (fun g' _ => by omega), h.g5 hg]
    · rw [hA _ (by omega) (by omega) (fun g' _ => by omega), h.g6 hg]
  · obtain ⟨b1, b2, b3⟩ := h.B j hj
    exact ⟨by rw [hR _ (by omega) (by omega) (by omega)]; exact b1, by rw [lo _ (by omega) (by omega) (by omega)]; exact b2, b3⟩
/-- a dinner ends -/
theorem Cx.close (h : Cx Mc Mr c nt mo dr gn sp lm lw lk lf bh bd) (hn : nt < 999) {hr di : Nat} (hh : hr < 256) (hd : di ≤ 100) {R' A' : Nat → Int32}
    (r0 : R' 0 = nI (nt + 1)) (r1 : R' 1 = nI 0) (r2 : R' 2 = Mc.1 12 2) (r3 : R' 3 = nI 0) (r4 : R' 4 = nI 0) (r5 : R' 5 = nI (min (nt + 1) 20)) (rb : ∀ j, j < min (nt + 1) 20 → R' (46 + j) = if j = min nt 19 then nI (nt + 1024 * hr + 262144 * di) else Mc.1 12 (46 + (if nt < 20 then j else j + 1)))
    (a0 : A' 0 = Mr.1 130 0) (a1 : A' 1 = nI (nt + 1)) (a2 : A' 2 = nI 0) (a3 : A' 3 = nI 0) (a4 : A' 4 = Mr.1 130 4) (a8 : A' 8 = nI 0) (a9 : A' 9 = nI (nt + 1)) (ab : ∀ j, j < 1000 → A' (2526 + j) = if j = nt then nI ((nt * 256 + hr) * 128 + di) else Mr.1 130 (2526 + j))
    (hG : ∀ g, g < c → A' (15 + 7 * g) = 1 ∧ A' (16 + 7 * g) = 0 ∧ A' (17 + 7 * g) = 0 ∧ A' (18 + 7 * g) = -1) : EA R' A' c (nt + 1) 0 dr 0 0 lm lw lk lf (fun j => if j = min nt 19 then hr else bh (if nt < 20 then j else j + 1)) (fun j => if j = min nt 19 then di else bd (if nt < 20 then j else j + 1)) := by
  have hc := h.c8
  refine EA.of hc (by rw [a0, h.c130]) r0 a1 (by omega) r1 a2 (by omega) (by rw [r2, h.dr12]) (by rw [a4, h.dr130]) h.drl r3 (Nat.two_pow_pos c) r4 a8 (by omega) r5 a9 a3 (fun i hi => by omega) (fun g hg => ?_) (fun j hj => ?_)
  · obtain ⟨q1, q2, q3, q4⟩ := hG g hg
    refine ⟨?_, q2, q3, q4⟩
    rw [q1, Nat.zero_testBit]
    rfl
  · skip
    by_cases e : j = min nt 19
    · have en : nt + 1 - min (nt + 1) 20 + j = nt := by omega
      refine ⟨?_, ?_, ?_, ?_⟩
      · rw [rb j hj, if_pos e, en, if_pos e, if_pos e]
      · rw [ab _ (by omega), if_pos en, en, if_pos e, if_pos e]
      · rw [if_pos e]
        exact hh
      · rw [if_pos e]
        exact hd
    · obtain ⟨b1, b2, b3, b4⟩ := h.B (if nt < 20 then j else j + 1) (by split <;> omega)
      have ei : nt - min nt 20 + (if nt < 20 then j else j + 1) = nt + 1 - min (nt + 1) 20 + j := by split <;> omega
      have en : ¬ nt + 1 - min (nt + 1) 20 + j = nt := by omega
      rw [ei] at b1 b2
      refine ⟨?_, ?_, ?_, ?_⟩
      · rw [rb j hj, if_neg e, b1, if_neg e, if_neg e]
      · rw [ab _ (by omega), if_neg en, if_neg e, if_neg e]
        exact b2
      · rw [if_neg e]
        exact b3
      · rw [if_neg e]
        exact b4
end EVOPS
/-- table and steps, when the evening alone changes -/
theorem Tab.evening {m m' : Nat → Nat → Int32} {A A' : Nat → Int32} {c t : Nat} (h : Tab m 0 A c t) (hm : ∀ k, 6 ≤ k → k ≤ 50 → k ≠ 11 → k ≠ 12 → k ≠ 13 → k ≠ 15 → k ≠ 46 → k ≠ 47 → m' k = m k) (hE : Ev (m' 12) (cur A') (bk A') c) (h0 : A' 0 = A 0) (h5 : A' 5 = A 5) (h6 : A' 6 = A 6) (h7 : A' 7 = A 7) (hg : ∀ g, g < 8 → A' (12 + 7 * g) = A (12 + 7 * g) ∧ A' (13 + 7 * g) = A (13 + 7 * g) ∧ A' (14 + 7 * g) = A (14 + 7 * g)) (hs : ∀ i, 108 ≤ i → i < 2526 → A' i = A i) (hb : ∀ i, i < (A 1).toNatClampNeg → bk A' i = bk A i) (hn : (A 1).toNatClampNeg ≤ (A' 1).toNatClampNeg) : Tab m' 0 A' c t := by
  obtain ⟨h1, h2, h3, h4, h8⟩ := h
  have e : ∀ k, 6 ≤ k → k ≤ 50 → k ≠ 11 → k ≠ 12 → k ≠ 13 → k ≠ 15 → k ≠ 46 → k ≠ 47 → m' (k + 0) = m (k + 0) := hm
  refine ⟨?_, ?_, hE, ?_, ?_⟩
  · rw [e 7 (by omega) (by omega) (by omega) (by omega) (by omega) (by omega) (by omega) (by omega), e 8 (by omega) (by omega) (by omega) (by omega) (by omega) (by omega) (by omega) (by omega), e 9 (by omega) (by omega) (by omega) (by omega) (by omega) (by omega) (by omega) (by omega), e 10 (by omega) (by omega) (by omega) (by omega) (by omega) (by omega) (by omega) (by omega)]
    obtain ⟨p1, p2, p3, p4⟩ := h1
    refine ⟨p1, p2, by rw [h0]; exact p3, fun g hg' => ?_⟩
    obtain ⟨x1, x2, x3⟩ := hg g (by omega)
    rw [x1, x2, x3]
    exact p4 g hg'
  · rw [e 6 (by omega) (by omega) (by omega) (by omega) (by omega) (by omega) (by omega) (by omega)]
    obtain ⟨t1, t2, t3, t4, t5⟩ := h2
    exact ⟨t1, t2, by rw [h5]; exact t3, by rw [h6]; exact t4, t5⟩
  · rw [e 14 (by omega) (by omega) (by omega) (by omega) (by omega) (by omega) (by omega) (by omega)]
    obtain ⟨k, n, a1, a2, a3, a4, a5, a6, a7, a8⟩ := h4
    have es : ∀ j, j < k → ∀ i, i < 80 → stp A' j i = stp A j i := fun j hj i hi => hs _ (by omega) (by omega)
    refine ⟨k, n, a1, a2, a3, by rw [h7]; exact a4, a5, fun j hj => ?_, fun i j hi hj => ?_, fun j hj => ?_⟩
    · obtain ⟨cj, b1, b2⟩ := a6 j hj
      refine ⟨cj, b1, ?_⟩
      have q : (n + 30 - k + j) % 30 < 30 := Nat.mod_lt _ (by omega)
      have b3 : Ev (m (16 + 0 + (n + 30 - k + j) % 30)) (stp A j) (bk A) cj := b2
      have er : m' (16 + 0 + (n + 30 - k + j) % 30) = m (16 + 0 + (n + 30 - k + j) % 30) := hm _ (by omega) (by omega) (by omega) (by omega) (by omega) (by omega) (by omega) (by omega)
      show Ev (m' (16 + 0 + (n + 30 - k + j) % 30)) _ _ _
      rw [er]
      exact b3.cong (fun _ _ => rfl) (fun i hi => es j hj i (by omega)) (fun i hi => hb i (by have := a8 j hj; omega))
    · rw [es i (by omega) 1 (by omega), es j hj 1 (by omega)]
      exact a7 i j hi hj
    · rw [es j hj 1 (by omega)]
      have := a8 j hj
      omega
  · rw [e 48 (by omega) (by omega) (by omega) (by omega) (by omega) (by omega) (by omega) (by omega), e 49 (by omega) (by omega) (by omega) (by omega) (by omega) (by omega) (by omega) (by omega), e 50 (by omega) (by omega) (by omega) (by omega) (by omega) (by omega) (by omega) (by omega)]
    intro u hu
    rw [hs _ (by omega) (by omega), hs _ (by omega) (by omega), hs _ (by omega) (by omega)]
    exact h8 u hu
