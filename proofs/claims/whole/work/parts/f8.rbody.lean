/-! The bodies of clauses in the reference. -/
section BODY
variable {B : Nat → Nat} {n u T N : Nat} {M : Mem} {a : Nat → Nat → Nat} {V : Nat → (Nat → Int32) → Int32} {c j j' w so f jf : Nat}
theorem bod_law {x : Int32} (hso : so < 3) (hx : x = if so = 0 then 1 else 0) : f_m_body N (nI so) (nI (705 * u + 1 + 4 * c)) M = f_m_lawClause N (nI (705 * u + 1 + 4 * c)) x M := by
  have bs : ∀ o : Option (Int32 × Mem), (Option.bind o fun q1 => some (q1.1, q1.2)) = o := fun o => by cases o <;> rfl
  unfold f_m_body
  rw [hx]
  rcases (show so = 0 ∨ so = 1 ∨ so = 2 by omega) with rfl | rfl | rfl
  · rw [if_pos (show nI 0 = (0 : Int32) from rfl), bs, if_pos rfl]
  · rw [if_neg (show ¬ nI 1 = (0 : Int32) by decide), if_pos (show nI 1 = (1 : Int32) from rfl), bs, if_neg (by decide)]
  · rw [if_neg (show ¬ nI 2 = (0 : Int32) by decide), if_neg (show ¬ nI 2 = (1 : Int32) by decide), if_pos (show nI 2 = (2 : Int32) from rfl), bs, if_neg (by decide)]
theorem law_in {x : Nat} (hso : so < 3) (hx : x = if so = 0 then 1 else 0) (h : BSt B n u T M c so j w) : ∃ M5, f_m_body N (nI so) (nI (705 * u + 1 + 4 * c)) M = (Option.bind (f_m_parsed_25 N N (nI x) M5) fun q2 => some (q2.1, si q2.2 132 (705 * u + 3 + 4 * c) (gi q2.2 129 13))) ∧ Rs B n u M5 j 0 0 0 w 0 ∧ M5.1 129 14 = nI so ∧ M5.1 129 23 = nI x ∧ BK u c w M M5 ∧ M5.1 132 (705 * u + 2 + 4 * c) = nI w := by
  obtain ⟨hR, ⟨b1, b2, b3, b4⟩, h14, hz⟩ := h
  have x01 : x = 0 ∨ x = 1 := by rw [hx]; split <;> omega
  have k1 : BK u c w M (si (si (si (si (si (si M 132 (705 * u + 2 + 4 * c) (nI w)) 129 19 0) 129 20 0) 129 21 0) 129 22 0) 129 23 (nI x)) := by
    refine ⟨fun i hi => ?_, fun k q1 q2 q3 => ?_, fun i hi => ?_⟩
    · rw [si_at, if_neg (by omega), si_at, if_neg (by omega), si_at, if_neg (by omega), si_at, if_neg (by omega), si_at, if_neg (by omega), si_at, if_neg (by omega)]
    · rw [si_1, if_neg q1, si_1, if_neg q1, si_1, if_neg q1, si_1, if_neg q1, si_1, if_neg q1, si_1, if_neg q2]
    · rw [si_at, if_neg (by omega), si_at, if_neg (by omega), si_at, if_neg (by omega), si_at, if_neg (by omega), si_at, if_neg (by omega), si_at, if_neg (by omega)]
  have o : ∀ i, i < 19 → (si (si (si (si (si (si M 132 (705 * u + 2 + 4 * c) (nI w)) 129 19 0) 129 20 0) 129 21 0) 129 22 0) 129 23 (nI x)).1 129 i = M.1 129 i := fun i hi => by
    rw [si_at, if_neg (by omega), si_at, if_neg (by omega), si_at, if_neg (by omega), si_at, if_neg (by omega), si_at, if_neg (by omega), si_at, if_neg (by omega)]
  have R0 : Rc B n u (si (si (si (si (si (si M 132 (705 * u + 2 + 4 * c) (nI w)) 129 19 0) 129 20 0) 129 21 0) 129 22 0) 129 23 (nI x)) j w := hR.up (k1.2.1 133 (by decide) (by decide) (by decide)) rfl (fun i hi => o i (by omega)) ((o 13 (by omega)).trans hR.2.2.2)
  refine ⟨si (si (si (si (si (si M 132 (705 * u + 2 + 4 * c) (nI w)) 129 19 0) 129 20 0) 129 21 0) 129 22 0) 129 23 (nI x), ?_, ⟨R0.1, R0.2.1, R0.2.2.1, R0.2.2.2, ?_, ?_, ?_, ?_⟩, (o 14 (by omega)).trans h14, ?_, k1, ?_⟩
  · have e1 : nI (705 * u + 1 + 4 * c) + (1 : Int32) = nI (705 * u + 2 + 4 * c) := by rw [nI_1]; congr 1; omega
    have e2 : nI (705 * u + 1 + 4 * c) + (2 : Int32) = nI (705 * u + 3 + 4 * c) := by rw [show (2 : Int32) = nI 2 from rfl, nI_add]; congr 1; omega
    rw [bod_law (x := nI x) hso (by rw [hx]; split <;> rfl)]
    unfold f_m_lawClause f_m_parsed
    rw [e1, e2, if_pos (am_in_nI (by omega) (by decide)), nI_clamp (by omega), Option.bind_some, show gi M 129 13 = nI w from hR.2.2.2, Option.bind_some, Option.bind_some, Option.bind_some, Option.bind_some, if_pos (show nI x = 0 ∨ nI x = 1 by rcases x01 with rfl | rfl <;> decide), Option.bind_some]
    congr 1
    funext q2
    rw [if_pos (am_in_nI (by omega) (by decide)), nI_clamp (by omega)]
    rfl
  · rw [si_at, if_neg (by omega), si_at, if_neg (by omega), si_at, if_neg (by omega), si_at, if_neg (by omega), si_at, if_pos ⟨rfl, rfl⟩]; rfl
  · rw [si_at, if_neg (by omega), si_at, if_neg (by omega), si_at, if_neg (by omega), si_at, if_pos ⟨rfl, rfl⟩]; rfl
  · rw [si_at, if_neg (by omega), si_at, if_neg (by omega), si_at, if_pos ⟨rfl, rfl⟩]; rfl
  · rw [si_at, if_neg (by omega), si_at, if_pos ⟨rfl, rfl⟩]; rfl
  · rw [si_at, if_pos ⟨rfl, rfl⟩]
  · rw [si_at, if_neg (by omega), si_at, if_neg (by omega), si_at, if_neg (by omega), si_at, if_neg (by omega), si_at, if_neg (by omega), si_at, if_pos ⟨rfl, rfl⟩]
theorem Kp.bk {u c w : Nat} {M M' : Mem} (h : Kp u M M' 0 0 w) (hc : c < 24) : BK u c w M M' := by
  obtain ⟨a1, a2, a3, a4, a5, a6, a7⟩ := h
  exact ⟨fun i hi => a4 i (by omega), fun k q1 q2 q3 => a5 k q1 q3 q2, fun i hi => a6 i (by omega)⟩
/-- when the law is read -/
theorem law_out {M5 M6 : Mem} {w1 : Nat} (h : BSt B n u T M c so j w) (k5 : BK u c w M M5) (hw : M5.1 132 (705 * u + 2 + 4 * c) = nI w) (R6 : Rs B n u M6 j' 0 0 0 w1 1) (k6 : Kp u M5 M6 0 0 w) (ea : a c 0 = 12 + so) (hso : so < 3) (hww : w ≤ w1) (r0 : so = 0 → RTr 0 (M6.1 132) (705 * u + 97) w w1 (V c)) (r1 : so ≠ 0 → RCo so (M6.1 132) (705 * u + 97) w w1 (V c)) : Rc B n u (si M6 132 (705 * u + 3 + 4 * c) (nI w1)) j' w1 ∧ ReC ((si M6 132 (705 * u + 3 + 4 * c) (nI w1)).1 132) u a V w1 c ∧ BK u c w M (si M6 132 (705 * u + 3 + 4 * c) (nI w1)) := by
  obtain ⟨hR, ⟨b1, b2, b3, b4⟩, h14, hz⟩ := h
  have R : Rc B n u M6 j' w1 := ⟨R6.1, R6.2.1, R6.2.2.1, R6.2.2.2.1⟩
  have kA := k5.tr (k6.bk b4)
  refine ⟨R.ts _, ⟨?_, fun e => by omega, fun e => by omega, fun _ => ⟨w, w1, ?_, ?_, Nat.le_refl _, fun e => ?_, fun e => ?_⟩⟩, kA.tr (BK.t _ (Or.inr rfl))⟩
  · rw [si_at, if_neg (by omega), kA.1 _ (by omega), ea, hz]
    congr 1
    omega
  · rw [si_at, if_neg (by omega), k6.2.2.2.1 _ (by omega)]
    exact hw
  · rw [si_at, if_pos ⟨rfl, rfl⟩]
  · exact (r0 (by omega)).cong (fun i i1 i2 => by rw [si_at, if_neg (by omega)])
  · rw [ea, show 12 + so - 12 = so by omega]
    exact (r1 (by omega)).cong (fun i i1 i2 => by rw [si_at, if_neg (by omega)])
theorem bd_cnt_ok (hN : 4000 ≤ N) (hT : T ≤ 300) {V0 : (Nat → Int32) → Int32} (h : OkE B n u T N j j' V0) (ea : a c 0 = 12) (eV : V c = V0) : BdOk B n u T N c 0 j j' a V := by
  intro M w hB
  obtain ⟨M5, e1, R5, h14, h23, k5, hw⟩ := law_in (N := N) (x := 1) (so := 0) (by omega) rfl hB
  have b := hB.2.1
  obtain ⟨M6, w1, e6, R6, k6, rt, l1, l2⟩ := q_end (N := N) hN h.1.1 h.1.2.2 h.2.1 h.2.2 (M := M5) (w := w) ⟨R5, by omega, h14, h23, fun i hi => by omega⟩ (m := N) (by omega)
  have ww := rt.1
  obtain ⟨y1, y2, y3⟩ := law_out (a := a) (V := V) hB k5 hw R6 k6 (by rw [ea]) (by omega) (by omega) (fun _ => by rw [eV]; exact rt) (fun e => absurd rfl e)
  refine ⟨_, w1, ?_, y1, l1, by omega, l2, y2, y3⟩
  rw [e1, show nI 1 = (1 : Int32) from rfl, e6, Option.bind_some]
  show some ((0 : Int32), si M6 132 (705 * u + 3 + 4 * c) (gi M6 129 13)) = _
  rw [show gi M6 129 13 = nI w1 from R6.2.2.2.1]
theorem bd_cnt_fl (hN : 4000 ≤ N) (hT : T ≤ 300) (h : QFl B n u T N 1 0 j f jf) : BdFl B n u T N c 0 j f jf := by
  intro M w hB
  obtain ⟨M5, e1, R5, h14, h23, k5, hw⟩ := law_in (N := N) (x := 1) (so := 0) (by omega) rfl hB
  have b := hB.2.1
  obtain ⟨M6, e6, a6, k6⟩ := h N M5 0 w ⟨R5, by omega, h14, h23, fun i hi => by omega⟩ (by omega) (Or.inl rfl) (by omega)
  refine ⟨si M6 132 (705 * u + 3 + 4 * c) (gi M6 129 13), ?_, ?_, (k5.tr (k6.bk b.2.2.2)).tr (BK.t _ (Or.inr rfl))⟩
  · rw [e1, show nI 1 = (1 : Int32) from rfl, e6, Option.bind_some]
  · rw [si_at, if_neg (by omega)]
    exact a6
theorem bd_law_ok (hN : 4000 ≤ N) (hT : T ≤ 300) (hso : so = 1 ∨ so = 2) (h26 : kd B n (stk B n j) ≠ 26) {V0 : (Nat → Int32) → Int32} (h : OkSu B n u so T N 0 0 j j' V0) (ea : a c 0 = 12 + so) (eV : V c = V0) : BdOk B n u T N c so j j' a V := by
  intro M w hB
  obtain ⟨M5, e1, R5, h14, h23, k5, hw⟩ := law_in (N := N) (x := 0) (so := so) (by omega) (by rw [if_neg (by omega)]) hB
  have b := hB.2.1
  obtain ⟨M6, w1, e6, R6, k6, rt, l1, l2⟩ := c_end (N := N) hN h.1 h.2 (M := M5) (w := w) ⟨R5, by omega, h14, fun e => absurd e h26⟩ h23 (m := N) (by omega)
  have ww := rt.1
  obtain ⟨y1, y2, y3⟩ := law_out (a := a) (V := V) hB k5 hw R6 k6 ea (by omega) (by omega) (fun e => by omega) (fun _ => by rw [eV]; exact rt)
  refine ⟨_, w1, ?_, y1, l1, by omega, l2, y2, y3⟩
  rw [e1, show nI 0 = (0 : Int32) from rfl, e6, Option.bind_some]
  show some ((0 : Int32), si M6 132 (705 * u + 3 + 4 * c) (gi M6 129 13)) = _
  rw [show gi M6 129 13 = nI w1 from R6.2.2.2.1]
theorem bd_law_fl (hN : 4000 ≤ N) (hT : T ≤ 300) (hso : so = 1 ∨ so = 2) (h26 : kd B n (stk B n j) ≠ 26) (h : LvFl B n u so T N 0 5 j 0 f jf) : BdFl B n u T N c so j f jf := by
  intro M w hB
  obtain ⟨M5, e1, R5, h14, h23, k5, hw⟩ := law_in (N := N) (x := 0) (so := so) (by omega) (by rw [if_neg (by omega)]) hB
  have b := hB.2.1
  obtain ⟨M6, e6, a6, k6⟩ := h N M5 0 0 w ⟨R5, by omega, h14, fun e => absurd e h26⟩ (by omega) (Or.inl rfl) (by omega)
  refine ⟨si M6 132 (705 * u + 3 + 4 * c) (gi M6 129 13), ?_, ?_, (k5.tr (k6.bk b.2.2.2)).tr (BK.t _ (Or.inr rfl))⟩
  · rw [e1, show nI 0 = (0 : Int32) from rfl, e6, Option.bind_some]
  · rw [si_at, if_neg (by omega)]
    exact a6
theorem bd_law_26 (hN : 4000 ≤ N) (hso : so = 1 ∨ so = 2) (h26 : kd B n (stk B n j) = 26) : BdFl B n u T N c so j 1 j := by
  intro M w hB
  obtain ⟨M5, e1, R5, h14, h23, k5, hw⟩ := law_in (N := N) (x := 0) (so := so) (by omega) (by rw [if_neg (by omega)]) hB
  obtain ⟨N', hN'⟩ : ∃ k, N = k + 1 := ⟨N - 1, by omega⟩
  have tk := R5.2.1.2.2
  have t1 : ¬ gi M5 129 9 = (1 : Int32) := fun e => by have := tk.one.mp e; omega
  have bs : ∀ o : Option (Int32 × Mem), (Option.bind o fun q1 => some (q1.1, q1.2)) = o := fun o => by cases o <;> rfl
  have nn : f_m_nameOf M5 = -1 := by rw [tk.name, if_neg (by omega)]
  have ah : f_m_isAskAhead N M5 = some 0 := by
    unfold f_m_isAskAhead f_m_isAskHere
    rw [if_pos (show gi M5 129 23 = (0 : Int32) from h23), Option.bind_some, if_pos rfl]
  have be : f_m_beginOne N M5 = some (1, M5) := by
    unfold f_m_beginOne f_m_beginOne_39
    rw [nn, if_neg t1, if_pos (show (-1 : Int32) < 0 by decide), if_neg t1, if_pos (show (-1 : Int32) < 0 by decide), bs, bs, bs, if_neg (show ¬ gi M5 129 9 = (40 : Int32) from fun e => by have := (tk.sg (k := 42) (by omega) (by omega)).mp e; omega), if_neg (show ¬ gi M5 129 9 = (45 : Int32) from fun e => by have := (tk.sg (k := 39) (by omega) (by omega)).mp e; omega), if_pos ((tk.wn (k := 27) (v := 109300197323621) (by decide) (by decide)).mpr (by omega)), if_neg (fun z => (tk.wn (k := 26) (v := 7237492) (by decide) (by decide)).mp z h26), ah, Option.bind_some, if_pos rfl]
  have pp : f_m_parsed_25 N N (nI 0) M5 = some (nI 1, M5) := by
    have : ∀ F, F = N' + 1 → f_m_parsed_25 N F (nI 0) M5 = some (nI 1, M5) := by
      intro F hF
      rw [hF, f_m_parsed_25, show gi M5 129 22 = nI 0 from R5.2.2.2.2.2.2.2, if_pos (show nI 0 = (0 : Int32) from rfl), be, Option.bind_some]
      exact p43_f N _ (nI 0) M5 (f := 1) (by omega) (by omega)
    exact this N hN'
  refine ⟨si M5 132 (705 * u + 3 + 4 * c) (gi M5 129 13), ?_, ?_, k5.tr (BK.t _ (Or.inr rfl))⟩
  · rw [e1, pp, Option.bind_some]
  · rw [si_at, if_neg (by omega)]
    exact R5.2.1.1
/-- a number that is due -/
theorem r_fig (hN : 4000 ≤ N) (hR : Rc B n u M j w) {y lo hi : Nat} (hy : y < 2820) (hhi : hi ≤ 9999) (hlo : lo ≤ hi) : (kd B n (stk B n j) = 33 → lo ≤ nm B n (stk B n j) → nm B n (stk B n j) ≤ hi → ∃ M', f_m_figure N (nI y) (nI lo) (nI hi) M = some (0, M') ∧ Rc B n u M' (j + 1) w ∧ NS (si M 132 y (nI (nm B n (stk B n j)))) M') ∧ (kd B n (stk B n j) = 33 → (nm B n (stk B n j) < lo ∨ hi < nm B n (stk B n j)) → f_m_figure N (nI y) (nI lo) (nI hi) M = some (nI 2, M)) ∧ (kd B n (stk B n j) ≠ 33 → f_m_figure N (nI y) (nI lo) (nI hi) M = some (nI 1, M)) := by
  have tk := hR.2.1.2.2
  unfold f_m_figure f_m_isIn
  refine ⟨fun k l1 l2 => ?_, fun k l => ?_, fun k => ?_⟩
  · obtain ⟨M', n1, R', s'⟩ := (hR.ts (i := y) (nI (nm B n (stk B n j)))).next hN
    refine ⟨M', ?_, R', s'⟩
    rw [if_pos (tk.one.mpr k), (tk.num k).1 (by omega), if_neg (show ¬ nI (nm B n (stk B n j)) < nI lo from nI_nlt l1 (by omega)), if_neg (show ¬ nI hi < nI (nm B n (stk B n j)) from nI_nlt l2 (by omega)), if_neg (show ¬ (1 : Int32) = 0 by decide), if_pos (am_in_nI hy (by decide)), nI_clamp (by omega), Option.bind_some, n1]
    rfl
  · rw [if_pos (tk.one.mpr k)]
    by_cases b : nm B n (stk B n j) ≤ 9999
    · rw [(tk.num k).1 b]
      rcases l with l | l
      · rw [if_pos (nI_lt l (by omega)), if_pos rfl]
        rfl
      · by_cases l2 : nm B n (stk B n j) < lo
        · rw [if_pos (nI_lt l2 (by omega)), if_pos rfl]
          rfl
        · rw [if_neg (nI_nlt (by omega) (by omega)), if_pos (nI_lt l (by omega)), if_pos rfl]
          rfl
    · obtain ⟨-, r, r1, r2, r3, r4⟩ := tk.2.2.1 k
      have := r4 (by omega)
      rw [show gi M 129 10 = nI r from r2, if_neg (nI_nlt (by omega) (by omega)), if_pos (nI_lt (by omega) (by omega)), if_pos rfl]
      rfl
  · rw [if_neg (fun e => k (tk.one.mp e))]
    rfl
def figS (so : Nat) : Prop := so = 4 ∨ so = 5 ∨ so = 6 ∨ so = 7 ∨ so = 9 ∨ so = 10
def fLo (so : Nat) : Nat := if so = 9 then 1 else 0
def fHi (so : Nat) : Nat := if so = 9 then 60 else 7
theorem bod_fig (h : figS so) : f_m_body N (nI so) (nI (705 * u + 1 + 4 * c)) M = f_m_figure N (nI (705 * u + 2 + 4 * c)) (nI (fLo so)) (nI (fHi so)) M := by
  have bs : ∀ o : Option (Int32 × Mem), (Option.bind o fun q1 => some (q1.1, q1.2)) = o := fun o => by cases o <;> rfl
  have e1 : nI (705 * u + 1 + 4 * c) + (1 : Int32) = nI (705 * u + 2 + 4 * c) := by rw [nI_1]; congr 1; omega
  unfold f_m_body
  rcases h with rfl | rfl | rfl | rfl | rfl | rfl
  · rw [if_neg (show ¬ nI 4 = (0 : Int32) by decide), if_neg (show ¬ nI 4 = (1 : Int32) by decide), if_neg (show ¬ nI 4 = (2 : Int32) by decide), if_neg (show ¬ nI 4 = (3 : Int32) by decide), if_neg (show ¬ nI 4 = (8 : Int32) by decide), if_neg (show ¬ nI 4 = (9 : Int32) by decide), if_neg (show ¬ nI 4 = (11 : Int32) by decide), e1, bs]
    rfl
  · rw [if_neg (show ¬ nI 5 = (0 : Int32) by decide), if_neg (show ¬ nI 5 = (1 : Int32) by decide), if_neg (show ¬ nI 5 = (2 : Int32) by decide), if_neg (show ¬ nI 5 = (3 : Int32) by decide), if_neg (show ¬ nI 5 = (8 : Int32) by decide), if_neg (show ¬ nI 5 = (9 : Int32) by decide), if_neg (show ¬ nI 5 = (11 : Int32) by decide), e1, bs]
    rfl
  · rw [if_neg (show ¬ nI 6 = (0 : Int32) by decide), if_neg (show ¬ nI 6 = (1 : Int32) by decide), if_neg (show ¬ nI 6 = (2 : Int32) by decide), if_neg (show ¬ nI 6 = (3 : Int32) by decide), if_neg (show ¬ nI 6 = (8 : Int32) by decide), if_neg (show ¬ nI 6 = (9 : Int32) by decide), if_neg (show ¬ nI 6 = (11 : Int32) by decide), e1, bs]
    rfl
  · rw [if_neg (show ¬ nI 7 = (0 : Int32) by decide), if_neg (show ¬ nI 7 = (1 : Int32) by decide), if_neg (show ¬ nI 7 = (2 : Int32) by decide), if_neg (show ¬ nI 7 = (3 : Int32) by decide), if_neg (show ¬ nI 7 = (8 : Int32) by decide), if_neg (show ¬ nI 7 = (9 : Int32) by decide), if_neg (show ¬ nI 7 = (11 : Int32) by decide), e1, bs]
    rfl
  · rw [if_neg (show ¬ nI 9 = (0 : Int32) by decide), if_neg (show ¬ nI 9 = (1 : Int32) by decide), if_neg (show ¬ nI 9 = (2 : Int32) by decide), if_neg (show ¬ nI 9 = (3 : Int32) by decide), if_neg (show ¬ nI 9 = (8 : Int32) by decide), if_pos (show nI 9 = (9 : Int32) from rfl), e1, bs]
    rfl
  · rw [if_neg (show ¬ nI 10 = (0 : Int32) by decide), if_neg (show ¬ nI 10 = (1 : Int32) by decide), if_neg (show ¬ nI 10 = (2 : Int32) by decide), if_neg (show ¬ nI 10 = (3 : Int32) by decide), if_neg (show ¬ nI 10 = (8 : Int32) by decide), if_neg (show ¬ nI 10 = (9 : Int32) by decide), if_neg (show ¬ nI 10 = (11 : Int32) by decide), e1, bs]
    rfl
theorem bd_fig (hN : 4000 ≤ N) (h : figS so) : (kd B n (stk B n j) = 33 → fLo so ≤ nm B n (stk B n j) → nm B n (stk B n j) ≤ fHi so → j < T → a c 0 = 12 + so → a c 1 = nm B n (stk B n j) → BdOk B n u T N c so j (j + 1) a V) ∧ (kd B n (stk B n j) = 33 → (nm B n (stk B n j) < fLo so ∨ fHi so < nm B n (stk B n j)) → BdFl B n u T N c so j 2 j) ∧ (kd B n (stk B n j) ≠ 33 → BdFl B n u T N c so j 1 j) := by
  have fl : fLo so ≤ fHi so ∧ fHi so ≤ 9999 := by
    unfold fLo fHi
    split <;> omega
  have so4 : 4 ≤ so ∧ so ≤ 10 ∧ so ≠ 8 := by unfold figS at h; omega
  refine ⟨fun k l1 l2 jT ea ea1 => ?_, fun k l => ?_, fun k => ?_⟩
  · intro M w hB
    obtain ⟨hR, ⟨b1, b2, b3, b4⟩, h14, hz⟩ := hB
    obtain ⟨M', e1, R', s'⟩ := (r_fig (N := N) hN hR (y := 705 * u + 2 + 4 * c) (lo := fLo so) (hi := fHi so) (by omega) fl.2 fl.1).1 k l1 l2
    have kA : BK u c w M M' := (BK.t _ (Or.inl rfl)).tr s'.bk
    refine ⟨M', w, by rw [bod_fig h]; exact e1, R', by omega, Nat.le_refl _, by omega, ⟨?_, fun e => by omega, fun _ _ _ => ?_, fun e => by omega⟩, kA⟩
    · rw [kA.1 _ (by omega), hz, ea]
      congr 1
      omega
    · rw [s'.1 _ _ (by omega), si_at, if_pos ⟨rfl, rfl⟩, ea1]
  · intro M w hB
    obtain ⟨hR, ⟨b1, b2, b3, b4⟩, h14, hz⟩ := hB
    exact ⟨M, by rw [bod_fig h]; exact (r_fig (N := N) hN hR (y := 705 * u + 2 + 4 * c) (by omega) fl.2 fl.1).2.1 k l, hR.2.1.1, BK.rf⟩
  · intro M w hB
    obtain ⟨hR, ⟨b1, b2, b3, b4⟩, h14, hz⟩ := hB
    exact ⟨M, by rw [bod_fig h]; exact (r_fig (N := N) hN hR (y := 705 * u + 2 + 4 * c) (by omega) fl.2 fl.1).2.2 k, hR.2.1.1, BK.rf⟩
theorem bd_none (h : so = 8 ∨ so = 11) (ea : a c 0 = 12 + so) : BdOk B n u T N c so j j a V := by
  intro M w hB
  obtain ⟨hR, ⟨b1, b2, b3, b4⟩, h14, hz⟩ := hB
  refine ⟨M, w, ?_, hR, Nat.le_refl _, Nat.le_refl _, b2, ⟨?_, fun e => by omega, fun e1 e2 e3 => by omega, fun e => by omega⟩, BK.rf⟩
  · unfold f_m_body
    rcases h with rfl | rfl <;> rfl
  · rw [hz, ea]
    congr 1
    omega
/-- a guest's clause -/
def GuFl (B : Nat → Nat) (n j f jf : Nat) : Prop := (kd B n (stk B n j) ≠ 33 ∧ f = 1 ∧ jf = j) ∨ (kd B n (stk B n j) = 33 ∧ 9 < nm B n (stk B n j) ∧ f = 2 ∧ jf = j) ∨ (kd B n (stk B n j) = 33 ∧ nm B n (stk B n j) ≤ 9 ∧ ((kd B n (stk B n (j + 1)) ≠ 4 ∧ f = 1 ∧ jf = j + 1) ∨ (kd B n (stk B n (j + 1)) = 4 ∧ ((kd B n (stk B n (j + 2)) ≠ 33 ∧ f = 1 ∧ jf = j + 2) ∨ (kd B n (stk B n (j + 2)) = 33 ∧ 9 < nm B n (stk B n (j + 2)) ∧ f = 2 ∧ jf = j + 2)))))
theorem bod_gu : f_m_body N (nI 3) (nI (705 * u + 1 + 4 * c)) M = Option.bind (f_m_figure N (nI (705 * u + 2 + 4 * c)) (nI 0) (nI 9) M) fun q1 => (if q1.1 = (0 : Int32) then (if (f_m_isWord (448377483891 : Int64) q1.2) = (0 : Int32) then some ((1 : Int32), q1.2) else Option.bind (f_m_nextToken N q1.2) fun q2 => Option.bind (f_m_figure N (nI (705 * u + 3 + 4 * c)) (nI 0) (nI 9) q2) fun q3 => some (q3.1, q3.2)) else some (q1.1, q1.2)) := by
  have bs : ∀ o : Option (Int32 × Mem), (Option.bind o fun q1 => some (q1.1, q1.2)) = o := fun o => by cases o <;> rfl
  have e1 : nI (705 * u + 1 + 4 * c) + (1 : Int32) = nI (705 * u + 2 + 4 * c) := by rw [nI_1]; congr 1; omega
  have e2 : nI (705 * u + 1 + 4 * c) + (2 : Int32) = nI (705 * u + 3 + 4 * c) := by rw [show (2 : Int32) = nI 2 from rfl, nI_add]; congr 1; omega
  unfold f_m_body f_m_guestClause
  rw [e1, e2, if_neg (show ¬ nI 3 = (0 : Int32) by decide), if_neg (show ¬ nI 3 = (1 : Int32) by decide), if_neg (show ¬ nI 3 = (2 : Int32) by decide), if_pos (show nI 3 = (3 : Int32) from rfl), bs]
  rfl
theorem bd_gu_ok (hN : 4000 ≤ N) (k1 : kd B n (stk B n j) = 33) (l1 : nm B n (stk B n j) ≤ 9) (k2 : kd B n (stk B n (j + 1)) = 4) (k3 : kd B n (stk B n (j + 2)) = 33) (l3 : nm B n (stk B n (j + 2)) ≤ 9) (jT : j + 2 < T) (ea : a c 0 = 15) (ea1 : a c 1 = nm B n (stk B n j)) (ea2 : a c 2 = nm B n (stk B n (j + 2))) : BdOk B n u T N c 3 j (j + 3) a V := by
  intro M w hB
  obtain ⟨hR, ⟨b1, b2, b3, b4⟩, h14, hz⟩ := hB
  obtain ⟨M1, e1, R1, s1⟩ := (r_fig (N := N) hN hR (y := 705 * u + 2 + 4 * c) (lo := 0) (hi := 9) (by omega) (by omega) (by omega)).1 k1 (by omega) l1
  obtain ⟨M2, e2, R2, s2⟩ := R1.next hN
  obtain ⟨M3, e3, R3, s3⟩ := (r_fig (N := N) hN R2 (y := 705 * u + 3 + 4 * c) (lo := 0) (hi := 9) (by omega) (by omega) (by omega)).1 k3 (by omega) l3
  have kA : BK u c w M M2 := ((BK.t _ (Or.inl rfl)).tr s1.bk).tr s2.bk
  have kB : BK u c w M M3 := (kA.tr (BK.t _ (Or.inr rfl))).tr s3.bk
  have wh : ¬ f_m_isWord 448377483891 M1 = 0 := fun e => (R1.2.1.2.2.wn (k := 4) (v := 448377483891) (by decide) (by decide)).mp e k2
  refine ⟨M3, w, ?_, R3, by omega, Nat.le_refl _, by omega, ⟨?_, fun _ => ⟨?_, ?_⟩, fun e => by omega, fun e => by omega⟩, kB⟩
  · rw [bod_gu, e1, Option.bind_some, if_pos rfl]
    show (if (f_m_isWord (448377483891 : Int64) M1) = (0 : Int32) then some ((1 : Int32), M1) else Option.bind (f_m_nextToken N M1) fun q2 => Option.bind (f_m_figure N (nI (705 * u + 3 + 4 * c)) (nI 0) (nI 9) q2) fun q3 => some (q3.1, q3.2)) = _
    rw [if_neg wh, e2, Option.bind_some, e3, Option.bind_some]
  · rw [kB.1 _ (by omega), hz, ea]
  · rw [s3.1 _ _ (by omega), si_at, if_neg (by omega), s2.1 _ _ (by omega), s1.1 _ _ (by omega), si_at, if_pos ⟨rfl, rfl⟩, ea1]
  · rw [s3.1 _ _ (by omega), si_at, if_pos ⟨rfl, rfl⟩, ea2]
theorem bd_gu_fl (hN : 4000 ≤ N) (h : GuFl B n j f jf) : BdFl B n u T N c 3 j f jf := by
  intro M w hB
  obtain ⟨hR, ⟨b1, b2, b3, b4⟩, h14, hz⟩ := hB
  obtain ⟨x1, x2, x3⟩ := r_fig (N := N) hN hR (y := 705 * u + 2 + 4 * c) (lo := 0) (hi := 9) (by omega) (by omega) (by omega)
  rcases h with ⟨k1, rfl, rfl⟩ | ⟨k1, l1, rfl, rfl⟩ | ⟨k1, l1, h⟩
  · refine ⟨M, ?_, hR.2.1.1, BK.rf⟩
    rw [bod_gu, x3 k1, Option.bind_some, if_neg (show ¬ nI 1 = (0 : Int32) by decide)]
  · refine ⟨M, ?_, hR.2.1.1, BK.rf⟩
    rw [bod_gu, x2 k1 (Or.inr l1), Option.bind_some, if_neg (show ¬ nI 2 = (0 : Int32) by decide)]
  · obtain ⟨M1, e1, R1, s1⟩ := x1 k1 (by omega) l1
    have w4 := R1.2.1.2.2.wn (k := 4) (v := 448377483891) (by decide) (by decide)
    have k0 : BK u c w M M1 := (BK.t _ (Or.inl rfl)).tr s1.bk
    rcases h with ⟨k2, rfl, rfl⟩ | ⟨k2, h⟩
    · refine ⟨M1, ?_, R1.2.1.1, k0⟩
      rw [bod_gu, e1, Option.bind_some, if_pos rfl]
      show (if (f_m_isWord (448377483891 : Int64) M1) = (0 : Int32) then some ((1 : Int32), M1) else Option.bind (f_m_nextToken N M1) fun q2 => Option.bind (f_m_figure N (nI (705 * u + 3 + 4 * c)) (nI 0) (nI 9) q2) fun q3 => some (q3.1, q3.2)) = _
      rw [if_pos (w4.mpr k2)]
      rfl
    · obtain ⟨M2, e2, R2, s2⟩ := R1.next hN
      obtain ⟨-, y2, y3⟩ := r_fig (N := N) hN R2 (y := 705 * u + 3 + 4 * c) (lo := 0) (hi := 9) (by omega) (by omega) (by omega)
      have st : f_m_body N (nI 3) (nI (705 * u + 1 + 4 * c)) M = Option.bind (f_m_figure N (nI (705 * u + 3 + 4 * c)) (nI 0) (nI 9) M2) fun q3 => some (q3.1, q3.2) := by
        rw [bod_gu, e1, Option.bind_some, if_pos rfl]
        show (if (f_m_isWord (448377483891 : Int64) M1) = (0 : Int32) then some ((1 : Int32), M1) else Option.bind (f_m_nextToken N M1) fun q2 => Option.bind (f_m_figure N (nI (705 * u + 3 + 4 * c)) (nI 0) (nI 9) q2) fun q3 => some (q3.1, q3.2)) = _
        rw [if_neg (fun e => w4.mp e k2), e2, Option.bind_some]
      rcases h with ⟨k3, rfl, rfl⟩ | ⟨k3, l3, rfl, rfl⟩
      · refine ⟨M2, ?_, R2.2.1.1, k0.tr s2.bk⟩
        rw [st, y3 k3, Option.bind_some]
      · refine ⟨M2, ?_, R2.2.1.1, k0.tr s2.bk⟩
        rw [st, y2 k3 (Or.inr l3), Option.bind_some]
end BODY
