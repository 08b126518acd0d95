/-! Steps: somebody speaks, he asks, somebody goes, a moment passes, a dinner ends. -/
section SET
variable {M : Mem} {F : Nat → Int32} {g : Nat} {x : Int32}
theorem gS (w : Nat) (hx : x = nI w) (hg : g < 9) (hw : w < 10) : f_m_get (nI g) x (sr M 130 F) = some (F (12 + 7 * g + w)) := by
  subst hx
  rw [r_get hg hw]
  exact congrArg some (gi130 M F _)
theorem sS (w : Nat) (v : Int32) (hx : x = nI w) (hg : g < 9) (hw : w < 10) : f_m_set (nI g) x v (sr M 130 F) = some (sr M 130 (upd F (12 + 7 * g + w) v)) := by
  subst hx
  rw [r_set hg hw, si130]
theorem or_add {a b i : Nat} (h : a < 2 ^ i) : a ||| b * 2 ^ i = a + b * 2 ^ i := by
  have := Nat.two_pow_add_eq_or_of_lt (i := i) h b
  rw [Nat.or_comm, Nat.mul_comm, ← this, Nat.add_comm]
theorem lS {w k f mo sp : Nat} (hs : sp < 40) (h8 : F 8 = nI sp) (h2 : F 2 = nI mo) : f_m_log1 (nI w) (nI k) (nI f - 1) (sr M 130 F) = some (sr M 130 (upd (upd F (68 + sp) (nI (((mo * 16 + w) * 8 + k) * 256 + f))) 8 (nI (sp + 1)))) := by
  have e1 : (68 : Int32) + nI sp = nI (68 + sp) := nI_add 68 sp
  have e2 : f_m_packed (nI mo) (nI w) (nI k) (nI f - 1) (sr M 130 F) = nI (((mo * 16 + w) * 8 + k) * 256 + f) := by
    unfold f_m_packed
    rw [Int32.add_assoc, m1_add, show (16 : Int32) = nI 16 from rfl, show (8 : Int32) = nI 8 from rfl, show (256 : Int32) = nI 256 from rfl, nI_mul, nI_add, nI_mul, nI_add, nI_mul, nI_add]
  unfold f_m_log1
  rw [gi130, h8, e1, if_pos (am_in_nI (by omega) (by decide)), nI_clamp (by omega), gi130, h2, e2, si130, Option.bind_some, gi130, si130, pk_un (by omega), h8, nI_1, Option.bind_some]
theorem c_enter {Mc : Mem} {w k f mo sp : Nat} (hs : sp < 40) (hm : mo ≤ 99) (hw : w ≤ 8) (hk : k ≤ 4) (hf : f ≤ 199) (h4 : Mc.1 12 4 = nI sp) (h1 : Mc.1 12 1 = nI mo) : f_e_enter (nI w) (nI k) (nI f - 1) Mc = some (sr Mc 12 (upd (upd (Mc.1 12) (6 + sp) (nI (mo + 128 * w + 2048 * k + 16384 * f))) 4 (nI (sp + 1)))) := by
  have e1 : (6 : Int32) + nI sp = nI (6 + sp) := nI_add 6 sp
  have e2 : ((nI mo ||| nI w <<< (7 : Int32)) ||| nI k <<< (11 : Int32)) ||| (nI f - 1 + 1) <<< (14 : Int32) = nI (mo + 128 * w + 2048 * k + 16384 * f) := by
    rw [m1_add, pk_shlN 7 7 (by decide) (by omega), pk_shlN 11 11 (by decide) (by omega), pk_shlN 14 14 (by decide) (by omega), fa_or, fa_or, fa_or, or_add (a := mo) (b := w) (i := 7) (by omega), or_add (a := mo + w * 2 ^ 7) (b := k) (i := 11) (by omega), or_add (a := mo + w * 2 ^ 7 + k * 2 ^ 11) (b := f) (i := 14) (by omega)]
    congr 1
    omega
  unfold f_e_enter
  rw [show f_e_spoken Mc = nI sp from h4, show f_e_moment Mc = nI mo from h1, if_neg (show ¬ f_w_within (nI sp) 0 39 Mc = 0 from within_yes Mc (n := 39) (by omega) (by decide)), e1, if_pos (am_in_nI (by omega) (by decide)), nI_clamp (by omega), e2, Option.bind_some, nI_1, si_sr Mc, si_of_sr, Option.bind_some]
theorem c_letGo {Mc : Mem} {gn g : Nat} (hg : g < 8) (h3 : Mc.1 12 3 = nI gn) : f_e_letGo ((1 : Int32) <<< (nI g &&& 31)) Mc = some (sr Mc 12 (upd (Mc.1 12) 3 (nI (gn ||| 2 ^ g)))) := by
  unfold f_e_letGo
  rw [show gi Mc 12 3 = nI gn from h3, one_shl (by omega), fa_or, Option.bind_some, si_sr]
end SET
theorem or_lt {c gn g : Nat} (h : gn < 2 ^ c) (hg : g < c) : gn ||| 2 ^ g < 2 ^ c := Nat.or_lt_two_pow h (Nat.pow_lt_pow_right (by decide) hg)
theorem or_tb {gn g g' : Nat} : (gn ||| 2 ^ g).testBit g' = (gn.testBit g' || decide (g = g')) := by
  rw [Nat.testBit_or, Nat.testBit_two_pow]
section STEPS
variable {Mc Mr : Mem} {c nt mo dr gn sp t : Nat} {lm lw lk lf bh bd : Nat → Nat} {N : Nat}
theorem Cx.cong {M1 M2 : Mem} (h : Cx Mc Mr c nt mo dr gn sp lm lw lk lf bh bd) (e7 : M1.1 7 3 = Mc.1 7 3) (e12 : M1.1 12 = Mc.1 12) (eA : ∀ j, j < 108 → j ≠ 7 → M2.1 130 j = Mr.1 130 j) (eB : ∀ j, 2526 ≤ j → M2.1 130 j = Mr.1 130 j) : Cx M1 M2 c nt mo dr gn sp lm lw lk lf bh bd := by
  have hc := h.c8
  have hs := h.sp40
  refine EA.cx (R := Mc.1 12) (A := M2.1 130) (EA.of hc (by rw [eA 0 (by omega) (by omega)]; exact h.c130) h.nt12 (by rw [eA 1 (by omega) (by omega)]; exact h.nt130) h.nt999 h.mo12 (by rw [eA 2 (by omega) (by omega)]; exact h.mo130) h.mo99 h.dr12 (by rw [eA 4 (by omega) (by omega)]; exact h.dr130) h.drl h.gn12 h.gnl h.sp12 (by rw [eA 8 (by omega) (by omega)]; exact h.sp130) h.sp40 h.wr12 (by rw [eA 9 (by omega) (by omega)]; exact h.wr130) (by rw [eA 3 (by omega) (by omega)]; exact h.wine) (fun i hi => ?_) (fun g hg => ?_) (fun j hj => ?_)) (by rw [e7, h.c7]) e12 rfl
  · obtain ⟨l1, l2⟩ := h.L i hi
    exact ⟨l1, by rw [eA _ (by omega) (by omega)]; exact h.lA hi, l2.2⟩
  · refine ⟨?_, ?_, ?_, ?_⟩
    · rw [eA _ (by omega) (by omega), h.g3 hg]
    · rw [eA _ (by omega) (by omega), h.g4 hg]
    · rw [eA _ (by omega) (by omega), h.g5 hg]
    · rw [eA _ (by omega) (by omega), h.g6 hg]
  · obtain ⟨b1, b2, b3⟩ := h.B j hj
    exact ⟨b1, by rw [eB _ (by omega)]; exact b2, b3⟩
theorem sim_keep (hN : 4000 ≤ N) (S : Sm Mc Mr c t) (h : Cx Mc Mr c nt mo dr gn sp lm lw lk lf bh bd) : ∃ Mc' Mr', f_t_keepStep Mc = some Mc' ∧ f_m_keep N Mr = some Mr' ∧ Sm Mc' Mr' c t ∧ CS Mc Mc' ∧ RS Mr Mr' ∧ Cx Mc' Mr' c nt mo dr gn sp lm lw lk lf bh bd := by
  obtain ⟨n, k, hn, hk, a1, a2, a3, a4⟩ := S.1.keep
  have hcs : CS Mc (ck Mc n k) := fun q hq => ck_k (by omega) (by omega)
  have hrs : RS Mr (sr Mr 130 (kp (Mr.1 130) k)) := ⟨fun q _ hq _ _ _ => by rw [sr_1, if_neg hq], rfl, rfl, rfl⟩
  refine ⟨ck Mc n k, sr Mr 130 (kp (Mr.1 130) k), s_keep hn hk a1 a2, r_keep hN hk a3, ⟨?_, LX_cs S.2 hcs hrs⟩, hcs, hrs, ?_⟩
  · rw [sr_1, if_pos rfl]
    exact a4
  · refine h.cong (by rw [ck_k (by omega) (by omega)]) (ck_k (by omega) (by omega)) (fun j h1 h2 => ?_) (fun j h1 => ?_)
    · rw [sr_1, if_pos rfl, kp_lo (by omega) h2]
    · rw [sr_1, if_pos rfl, kp_hi hk h1]
/-- a step's new evening, put into the table -/
theorem Sm.even (S : Sm Mc Mr c t) {M1 M2 : Mem} {R A : Nat → Int32} (h1 : ∀ q, q ≠ 108 → q ≠ 109 → q ≠ 110 → M1.1 q = Mc.1 q) (h2 : ∀ q, q ≠ 129 → q ≠ 138 → q ≠ 139 → q ≠ 140 → M2.1 q = Mr.1 q) (h9 : M2.1 129 4 = Mr.1 129 4 ∧ M2.1 129 5 = Mr.1 129 5 ∧ M2.1 129 6 = Mr.1 129 6) (hE : Ev R (cur A) (bk A) c) (hA : ∀ j, (j = 0 ∨ j = 5 ∨ j = 6 ∨ j = 7 ∨ (∃ g k, g < 8 ∧ k < 3 ∧ j = 12 + 7 * g + k) ∨ (108 ≤ j ∧ j < 2526)) → A j = Mr.1 130 j) (hb : ∀ i, i < (Mr.1 130 1).toNatClampNeg → A (2526 + i) = Mr.1 130 (2526 + i)) (hn : (Mr.1 130 1).toNatClampNeg ≤ (A 1).toNatClampNeg) : Sm (sr M1 12 R) (sr M2 130 A) c t ∧ CS Mc (sr M1 12 R) ∧ RS Mr (sr M2 130 A) := by
  have hcs : CS Mc (sr M1 12 R) := fun q hq => by rw [sr_1, if_neg (by omega)]; exact h1 q (by omega) (by omega) (by omega)
  have hrs : RS Mr (sr M2 130 A) := ⟨fun q a b cc d e => by rw [sr_1, if_neg b]; exact h2 q a cc d e, h9.1, h9.2.1, h9.2.2⟩
  refine ⟨⟨?_, LX_cs S.2 hcs hrs⟩, hcs, hrs⟩
  rw [sr_1, if_pos rfl]
  refine S.1.evening (fun k a b cc d e f g i => by rw [sr_1, if_neg d]; exact h1 k (by omega) (by omega) (by omega)) ?_ (hA 0 (by omega)) (hA 5 (by omega)) (hA 6 (by omega)) (hA 7 (by omega)) (fun g hg => ⟨?_, ?_, ?_⟩) (fun i a b => hA i (by omega)) hb hn
  · rw [sr_1, if_pos rfl]
    exact hE
  · exact hA _ (Or.inr (Or.inr (Or.inr (Or.inr (Or.inl ⟨g, 0, hg, by omega, by omega⟩)))))
  · exact hA _ (Or.inr (Or.inr (Or.inr (Or.inr (Or.inl ⟨g, 1, hg, by omega, by omega⟩)))))
  · exact hA _ (Or.inr (Or.inr (Or.inr (Or.inr (Or.inl ⟨g, 2, hg, by omega, by omega⟩)))))
theorem rest_eq {M : Mem} {A : Nat → Int32} (h : M.1 130 = A) : M = sr M 130 A := by rw [← h, sr_self]
/-- a word -/
theorem sim_say (hN : 4000 ≤ N) (S : Sm Mc Mr c t) (h : Cx Mc Mr c nt mo dr gn sp lm lw lk lf bh bd) (hs : sp < 40) {g k : Nat} (hg : g < c) (hk : k ≤ 3) : ∃ f Mc' Mr', f ≤ 199 ∧ f_w_speak_38 N (nI g) (nI k) Mc = some (nI f - 1, Mc') ∧ f_m_sayNow N (nI g) (nI k) Mr = some (nI f - 1, Mr') ∧ Sm Mc' Mr' c t ∧ CS Mc Mc' ∧ RS Mr Mr' := by
  have hc := h.c8
  have hmo := h.mo99
  obtain ⟨f, M1, M2, f1, f2, f3, f4, f5, f6⟩ := sim_falls hN S h hg hk
  have e12 : M1.1 12 = Mc.1 12 := f4 12 (by omega) (by omega) (by omega)
  have e130 : M2.1 130 = Mr.1 130 := f5 130 (by omega) (by omega) (by omega) (by omega)
  have em := rest_eq e130
  have k3 : (nI k = (3 : Int32)) ↔ k = 3 := nI_eq (b := 3) (by omega) (by decide)
  have k2 : (nI k = (2 : Int32)) ↔ k = 2 := nI_eq (b := 2) (by omega) (by decide)
  generalize hA0 : Mr.1 130 = A at *
  have A8 : A 8 = nI sp := by rw [← hA0]; exact h.sp130
  have A2 : A 2 = nI mo := by rw [← hA0]; exact h.mo130
  -- the reference's new row
  obtain ⟨A', r1, r2, r3, r4, r5, r6, r7, r8⟩ : ∃ A', f_m_sayNow N (nI g) (nI k) Mr = some (nI f - 1, sr M2 130 A') ∧ (∀ j, j ≠ 68 + sp → j ≠ 8 → j ≠ 3 → (∀ i, 3 ≤ i → i ≤ 6 → j ≠ 12 + 7 * g + i) → A' j = A j) ∧ A' 8 = nI (sp + 1) ∧ A' (68 + sp) = nI (((mo * 16 + g) * 8 + k) * 256 + f) ∧ A' 3 = (if k = 2 then A 3 + 1 else A 3) ∧ A' (15 + 7 * g) = (if k = 3 then 0 else A (15 + 7 * g)) ∧ A' (16 + 7 * g) = A (16 + 7 * g) + 1 ∧ (A' (17 + 7 * g) = (if k = 2 then A (17 + 7 * g) + 1 else A (17 + 7 * g)) ∧ A' (18 + 7 * g) = nI mo) := by
    unfold f_m_sayNow
    rw [f3, Option.bind_some]
    show ∃ A', (Option.bind (f_m_log1 (nI g) (nI k) (nI f - 1) M2) _) = _ ∧ _
    have lg := lS (M := M2) (F := A) (w := g) (k := k) (f := f) (mo := mo) (sp := sp) hs A8 A2
    rw [← em] at lg
    rw [lg, Option.bind_some, gS (x := 4) 4 rfl (by omega) (by omega), Option.bind_some, sS (x := 4) 4 _ rfl (by omega) (by omega), Option.bind_some, gi130, sS (x := 6) 6 _ rfl (by omega) (by omega), Option.bind_some]
    by_cases q2 : k = 2
    · rw [if_pos (k2.mpr q2), Option.bind_some, gi130, si130, gS (x := 5) 5 rfl (by omega) (by omega), Option.bind_some, sS (x := 5) 5 _ rfl (by omega) (by omega), Option.bind_some, if_neg (fun e => by have := k3.mp e; omega)]
      refine ⟨_, rfl, fun j h1 h2 h3 h4 => ?_, ?_, ?_, ?_, ?_, ?_, ?_, ?_⟩
      · have i4 := h4 4 (by omega) (by omega)
        have i5 := h4 5 (by omega) (by omega)
        have i6 := h4 6 (by omega) (by omega)
        rw [pk_un i5, pk_un h3, pk_un i6, pk_un i4, pk_un h2, pk_un h1]
      · rw [pk_un (by omega), pk_un (by omega), pk_un (by omega), pk_un (by omega), pk_us]
      · rw [pk_un (by omega), pk_un (by omega), pk_un (by omega), pk_un (by omega), pk_un (by omega), pk_us]
      · rw [if_pos q2, pk_un (by omega), pk_us, pk_un (by omega), pk_un (by omega), pk_un (by omega), pk_un (by omega)]
      · rw [if_neg (by omega), pk_un (by omega), pk_un (by omega), pk_un (by omega), pk_un (by omega), pk_un (by omega), pk_un (by omega)]
      · rw [pk_un (by omega), pk_un (by omega), pk_un (by omega), show 16 + 7 * g = 12 + 7 * g + 4 by omega, pk_us, pk_un (by omega), pk_un (by omega)]
      · rw [if_pos q2, show 17 + 7 * g = 12 + 7 * g + 5 by omega, pk_us, pk_un (by omega), pk_un (by omega), pk_un (by omega), pk_un (by omega), pk_un (by omega)]
      · rw [pk_un (by omega), pk_un (by omega), show 18 + 7 * g = 12 + 7 * g + 6 by omega, pk_us, pk_un (by omega), pk_un (by omega), pk_un (by omega), A2]
    · rw [if_neg (fun e => q2 (k2.mp e))]
      by_cases q3 : k = 3
      · rw [if_pos (k3.mpr q3), sS (x := 3) 3 _ rfl (by omega) (by omega), Option.bind_some]
        refine ⟨_, rfl, fun j h1 h2 h3 h4 => ?_, ?_, ?_, ?_, ?_, ?_, ?_, ?_⟩
        · have i3 := h4 3 (by omega) (by omega)
          have i4 := h4 4 (by omega) (by omega)
          have i6 := h4 6 (by omega) (by omega)
          rw [pk_un i3, pk_un i6, pk_un i4, pk_un h2, pk_un h1]
        · rw [pk_un (by omega), pk_un (by omega), pk_un (by omega), pk_us]
        · rw [pk_un (by omega), pk_un (by omega), pk_un (by omega), pk_un (by omega), pk_us]
        · rw [if_neg q2, pk_un (by omega), pk_un (by omega), pk_un (by omega), pk_un (by omega), pk_un (by omega)]
        · rw [if_pos q3, show 15 + 7 * g = 12 + 7 * g + 3 by omega, pk_us]
        · rw [pk_un (by omega), pk_un (by omega), show 16 + 7 * g = 12 + 7 * g + 4 by omega, pk_us, pk_un (by omega), pk_un (by omega)]
        · rw [if_neg q2, pk_un (by omega), pk_un (by omega), pk_un (by omega), pk_un (by omega), pk_un (by omega)]
        · rw [pk_un (by omega), show 18 + 7 * g = 12 + 7 * g + 6 by omega, pk_us, pk_un (by omega), pk_un (by omega), pk_un (by omega), A2]
      · rw [if_neg (fun e => q3 (k3.mp e))]
        refine ⟨_, rfl, fun j h1 h2 h3 h4 => ?_, ?_, ?_, ?_, ?_, ?_, ?_, ?_⟩
        · have i4 := h4 4 (by omega) (by omega)
          have i6 := h4 6 (by omega) (by omega)
          rw [pk_un i6, pk_un i4, pk_un h2, pk_un h1]
        · rw [pk_un (by omega), pk_un (by omega), pk_us]
        · rw [pk_un (by omega), pk_un (by omega), pk_un (by omega), pk_us]
        · rw [if_neg q2, pk_un (by omega), pk_un (by omega), pk_un (by omega), pk_un (by omega)]
        · rw [if_neg q3, pk_un (by omega), pk_un (by omega), pk_un (by omega), pk_un (by omega)]
        · rw [pk_un (by omega), show 16 + 7 * g = 12 + 7 * g + 4 by omega, pk_us, pk_un (by omega), pk_un (by omega)]
        · rw [if_neg q2, pk_un (by omega), pk_un (by omega), pk_un (by omega), pk_un (by omega)]
        · rw [show 18 + 7 * g = 12 + 7 * g + 6 by omega, pk_us, pk_un (by omega), pk_un (by omega), pk_un (by omega), A2]
  -- the class's new row
  obtain ⟨R', c1, c2, c3, c4, c5⟩ : ∃ R', f_w_speak_38 N (nI g) (nI k) Mc = some (nI f - 1, sr M1 12 R') ∧ (∀ j, j ≠ 3 → j ≠ 4 → j ≠ 6 + sp → R' j = Mc.1 12 j) ∧ R' 3 = nI (if k = 3 then gn ||| 2 ^ g else gn) ∧ R' 4 = nI (sp + 1) ∧ R' (6 + sp) = nI (mo + 128 * g + 2048 * k + 16384 * f) := by
    rw [speak38, f2, Option.bind_some]
    show ∃ R', (Option.bind (f_e_enter (nI g) (nI k) (nI f - 1) M1) _) = _ ∧ _
    rw [c_enter (sp := sp) (mo := mo) hs hmo (by omega) (by omega) f1 (by rw [e12, h.sp12]) (by rw [e12, h.mo12]), Option.bind_some, e12]
    by_cases q3 : k = 3
    · rw [if_pos (k3.mpr q3), c_letGo (gn := gn) (by omega) (by rw [sr_1, if_pos rfl, pk_un (by omega), pk_un (by omega), h.gn12]), Option.bind_some, sr_sr, sr_1, if_pos rfl]
      refine ⟨_, rfl, fun j h1 h2 h3 => by rw [pk_un h1, pk_un h2, pk_un h3], by rw [if_pos q3, pk_us], by rw [pk_un (by omega), pk_us], by rw [pk_un (by omega), pk_un (by omega), pk_us]⟩
    · rw [if_neg (fun e => q3 (k3.mp e))]
      exact ⟨_, rfl, fun j h1 h2 h3 => by rw [pk_un h2, pk_un h3], by rw [if_neg q3, pk_un (by omega), pk_un (by omega), h.gn12], by rw [pk_us], by rw [pk_un (by omega), pk_us]⟩
  have gl : (if k = 3 then gn ||| 2 ^ g else gn) < 2 ^ c := by
    split
    · exact or_lt h.gnl hg
    · exact h.gnl
  have hE := (h.say hs (w := g) (k := k) (f := f) (Or.inl hg) (by omega) f1 gl (R' := R') (A' := A') c2 c3 c4 c5 (fun j hj => by rw [hA0]; exact r2 j (by omega) (by omega) (by omega) (fun i _ _ => by omega)) (by rw [hA0]; exact r5) r3 r4 (fun g' hg' => by
    rw [hA0]
    by_cases e : g' = g
    · subst e
      refine ⟨?_, ?_, ?_, ?_⟩
      · rw [r6]
        by_cases q3 : k = 3
        · rw [if_pos q3, if_pos q3, or_tb]
          simp
          rfl
        · rw [if_neg q3, if_neg q3, ← hA0]
          exact h.g3 hg
      · rw [if_pos rfl, r7]
      · rw [r8.1]
        by_cases q2 : k = 2
        · rw [if_pos q2, if_pos ⟨rfl, q2⟩]
        · rw [if_neg q2, if_neg (fun x => q2 x.2)]
      · rw [if_pos rfl, r8.2]
    · refine ⟨?_, ?_, ?_, ?_⟩
      · rw [r2 _ (by omega) (by omega) (by omega) (fun i _ _ => by omega), ← hA0, h.g3 hg']
        by_cases q3 : k = 3
        · rw [if_pos q3, or_tb]
          simp [show ¬ g = g' from fun x => e x.symm]
        · rw [if_neg q3]
      · rw [if_neg e, r2 _ (by omega) (by omega) (by omega) (fun i _ _ => by omega)]
      · rw [if_neg (fun x => e x.1), r2 _ (by omega) (by omega) (by omega) (fun i _ _ => by omega)]
      · rw [if_neg e, r2 _ (by omega) (by omega) (by omega) (fun i _ _ => by omega)])).ev
  obtain ⟨s1, s2, s3⟩ := S.even f4 f5 f6 hE (fun j hj => by
    rw [hA0]
    exact r2 j (by rcases hj with q | q | q | q | ⟨x, y, q1, q2, q3⟩ | q <;> omega) (by rcases hj with q | q | q | q | ⟨x, y, q1, q2, q3⟩ | q <;> omega) (by rcases hj with q | q | q | q | ⟨x, y, q1, q2, q3⟩ | q <;> omega) (fun i h1 h2 => by rcases hj with q | q | q | q | ⟨x, y, q1, q2, q3⟩ | q <;> omega)) (fun i hi => by
    rw [hA0]
    exact r2 _ (by omega) (by omega) (by omega) (fun i h1 h2 => by omega)) (by
    rw [hA0, r2 1 (by omega) (by omega) (by omega) (fun i h1 h2 => by omega)]
    exact Nat.le_refl _)
  exact ⟨f, _, _, f1, c1, r1, s1, s2, s3⟩
end STEPS
