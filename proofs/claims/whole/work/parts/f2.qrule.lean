/-! Questions in the reference: rules. -/
def QPr (B : Nat → Nat) (n u T : Nat) (M : Mem) (j d p w : Nat) : Prop := Rs B n u M j d p 0 w 0 ∧ (p ≤ d + 2 ∧ d ≤ 8 ∧ w ≤ j ∧ j ≤ T ∧ u < 4) ∧ M.1 129 14 = nI 0 ∧ M.1 129 23 = nI 1 ∧ ∀ i, i < p → ∃ k, 20 ≤ k ∧ k ≤ 22 ∧ M.1 134 i = nI k
def QW (B : Nat → Nat) (n u N : Nat) (M0 M : Mem) (j d p w lev : Nat) (V : (Nat → Int32) → Int32) (M' : Mem) (w1 : Nat) : Prop := (∃ q, p + q ≤ 60 ∧ (∀ r e, 1 ≤ r → r ≤ lev → f_m_settle_0 N (e + q) (nI r) M = f_m_settle_0 N e (nI r) M') ∧ (∃ d' wa, Rs B n u M j d' (p + q) 0 wa 1) ∧ QTop M (p + q) ∧ M.1 129 23 = nI 1) ∧ Rs B n u M' j d p 0 w1 1 ∧ Kp u M0 M p 0 w ∧ Kp u M0 M' p 0 w ∧ RTr 0 (M'.1 132) (705 * u + 97) w w1 V
def tl (lev : Nat) : Nat := if lev ≤ 2 then lev else 4
def QOk (B : Nat → Nat) (n u T N lev d j j' : Nat) (V : (Nat → Int32) → Int32) : Prop := ∀ (m : Nat) (M : Mem) (p w : Nat), QPr B n u T M j d p w → p + 1 ≤ d + lev → TopLt M p (tl lev) → T + 2 ≤ m + j → ∃ m' M1 M' w1, f_m_parsed_25 N m 1 M = f_m_parsed_25 N m' 1 M1 ∧ T + 2 ≤ m' + j' ∧ QW B n u N M M1 j' d p w lev V M' w1 ∧ w1 + j ≤ w + j' ∧ j' ≤ T
def QFl (B : Nat → Nat) (n u T N lev d j f jf : Nat) : Prop := ∀ (m : Nat) (M : Mem) (p w : Nat), QPr B n u T M j d p w → p + 1 ≤ d + lev → TopLt M p (tl lev) → T + 2 ≤ m + j → ∃ M1, f_m_parsed_25 N m 1 M = some (nI f, M1) ∧ M1.1 129 8 = nI (stk B n jf) ∧ Kp u M M1 p 0 w
section QRULE
variable {B : Nat → Nat} {n u T N : Nat} {j d j' j1 lev : Nat} {V V2 : (Nat → Int32) → Int32} {M : Mem} {p w : Nat}
theorem QPr.pr (h : QPr B n u T M j d p w) (hj : kd B n (stk B n j) ≠ 26) : Pr B n u 0 T M j d p 0 w := by
  obtain ⟨h1, h2, h3, h4, h5⟩ := h
  exact ⟨h1, by omega, h3, fun e => absurd e hj⟩
theorem rk_q {k : Nat} (h1 : 20 ≤ k) (h2 : k ≤ 22) : 1 ≤ rkN k ∧ rkN k ≤ 3 := by
  rcases (show k = 20 ∨ k = 21 ∨ k = 22 by omega) with rfl | rfl | rfl <;> decide
theorem QPr.top (h : QPr B n u T M j d p w) : TopLt M p 4 := by
  by_cases z : p = 0
  · exact Or.inl z
  · obtain ⟨k, k1, k2, k3⟩ := h.2.2.2.2 (p - 1) (by omega)
    have := rk_q k1 k2
    exact Or.inr ⟨k, by omega, k3, by omega⟩
theorem cmo_r {k : Nat} (hk : (34 ≤ k ∧ k ≤ 37) ∨ k = 46 ∨ k = 47) : rkN (cmo k) = 4 ∧ cmo k < 40 ∧ cmo k ≠ 3 ∧ cmo k ≠ 20 := by
  rcases (show k = 34 ∨ k = 35 ∨ k = 36 ∨ k = 37 ∨ k = 46 ∨ k = 47 by omega) with rfl | rfl | rfl | rfl | rfl | rfl <;> decide
/-- behind the first sum of a question -/
theorem q_see (hN : 4000 ≤ N) {M0 M1 M1' : Mem} {w1 : Nat} (hP : QPr B n u T M0 j d p w) (hW : Wst B n u 0 N M0 M1 j1 d p 0 w 5 V M1' w1) (hk : kd B n (stk B n j1) < 38 ∨ 41 < kd B n (stk B n j1)) : f_m_openNow N M1 = some (-1) ∧ f_m_isCompared N M1 = some 0 ∧ f_m_betweenOf N M1 = some (f_m_compareOf M1) ∧ f_m_settle N (nI 4) M1 = some M1' := by
  obtain ⟨⟨q, q1, q2, ⟨wa, q3⟩, q4⟩, R', K1, K2, co⟩ := hW
  have b := hP.2.1
  have tp := hP.top
  have en : ∀ t, t < p + q → ∃ k, k < 40 ∧ M1.1 134 t = nI k := fun t ht => by
    by_cases z : t < p
    · obtain ⟨k, k1, k2, k3⟩ := hP.2.2.2.2 t z
      exact ⟨k, by omega, (K1.1 t z).trans k3⟩
    · obtain ⟨k, k1, k2, k3⟩ := q4 t (by omega) ht
      exact ⟨k, k1, k2⟩
  have ho := now_no (N := N) hN q3.2.2.2.2.1 (by omega) en
  have hc : f_m_isCompared N M1 = some 0 := by
    unfold f_m_isCompared
    rw [show gi M1 129 19 = nI (p + q) from q3.2.2.2.2.1]
    exact cmp_0 q N (by omega) (by omega) (tp.kp K1) q4
  have h23 : M1.1 129 23 = nI 1 := (K1.2.2.2.2.2.1 23 (by omega)).trans hP.2.2.2.1
  refine ⟨ho, hc, ?_, ?_⟩
  · rw [bt_no q3.2.1.2.2 hk, ask_here ho h23, Option.bind_some, if_neg (show ¬ (1 : Int32) = 0 by decide), hc, Option.bind_some, if_pos rfl]
  · unfold f_m_settle
    obtain ⟨e, he⟩ : ∃ e, N = (e + 1) + q := ⟨N - 1 - q, by omega⟩
    have a1 := q2 4 (e + 1) (by omega) (by omega)
    rw [← he] at a1
    rw [a1]
    exact set_stop (p := p) R'.2.2.2.2.1 (by omega) (by omega) (tp.kp K2)
/-- the compare is pushed -/
theorem q_cgo (hN : 4000 ≤ N) (hT2 : ∀ j, kd B n (stk B n j) ≠ 48 → j < T) {M0 M1 M1' : Mem} {w1 m k : Nat} (hP : QPr B n u T M0 j d p w) (hW : Wst B n u 0 N M0 M1 j1 d p 0 w 5 V M1' w1) (hk : (34 ≤ k ∧ k ≤ 37) ∨ k = 46 ∨ k = 47) (hj : kd B n (stk B n j1) = k) (hm : T + 2 ≤ m + j1) (hw : w1 ≤ j1) : ∃ m' M2, f_m_parsed_25 N m 1 M1 = f_m_parsed_25 N m' 1 M2 ∧ T + 2 ≤ m' + (j1 + 1) ∧ Pr B n u 0 T M2 (j1 + 1) d (p + 1) 0 w1 ∧ M2.1 134 p = nI (cmo k) ∧ Kp u M1' M2 p 0 w1 := by
  obtain ⟨o1, o2, o3, o4⟩ := q_see (N := N) hN hP hW (by omega)
  obtain ⟨⟨q, q1, q2, ⟨wa, q3⟩, q4⟩, R', K1, K2, co⟩ := hW
  have b := hP.2.1
  have jT := hT2 j1 (by omega)
  obtain ⟨c1, c2, c3, c4⟩ := cmo_r hk
  obtain ⟨m', rfl⟩ : ∃ m', m = m' + 1 := ⟨m - 1, by omega⟩
  obtain ⟨M2, e2, R2, t2, K3⟩ := push_go (N := N) (x := 1) (o := cmo k) (m := m') hN c2 (by rw [o3, (cmp_of q3.2.1.2.2).1 k hk hj]) (by rw [c1]; exact o4) q3 R' (by omega)
  refine ⟨m', M2, e2, by omega, ⟨R2, by omega, ?_, fun _ => ⟨by omega, cmo k, by omega, t2, Or.inr (by omega)⟩⟩, t2, K3⟩
  rw [K3.2.2.2.2.2.1 14 (by omega), K2.2.2.2.2.2.1 14 (by omega)]
  exact hP.2.2.1
theorem q_cmp (hN : 4000 ≤ N) (hT : T ≤ 300) (hT2 : ∀ j, kd B n (stk B n j) ≠ 48 → j < T) (h26 : kd B n (stk B n j) ≠ 26) (h : LvOk B n u 0 T N 1 5 j d j1 V) {k : Nat} (hk : (34 ≤ k ∧ k ≤ 37) ∨ k = 46 ∨ k = 47) (hj : kd B n (stk B n j1) = k) (h2 : LvOk B n u 0 T N 1 5 (j1 + 1) d j' V2) : QOk B n u T N 4 d j j' (fun e => f_l_compared (nI k) (V e) (V2 e) M0) := by
  intro m M p w hP hp ht hm
  have b := hP.2.1
  have tp := hP.top
  obtain ⟨m1, M1, M1', w1, e1, l1, W1, l2, l3⟩ := h m M p 0 w (hP.pr h26) (by omega) (tp.mono (by omega)) hm
  obtain ⟨m2, M2, e2, l4, P2, t2, K2⟩ := q_cgo (N := N) hN hT2 hP W1 hk hj l1 (by omega)
  obtain ⟨c1, c2, c3, c4⟩ := cmo_r hk
  obtain ⟨m3, M3, M3', w2, e3, l5, ⟨⟨q, q1, q2, ⟨wa, q3⟩, q4⟩, R3', K3, K3', co3⟩, l6, l7⟩ := h2 m2 M2 (p + 1) 0 w1 P2 (by omega) (Or.inr ⟨cmo k, by omega, t2, by omega⟩) l4
  obtain ⟨-, R1', -, K1', co1⟩ := W1
  have w01 := co1.1
  have w12 := co3.1
  have t3' : M3'.1 134 p = nI (cmo k) := (K3'.1 p (by omega)).trans t2
  have t3 : M3.1 134 p = nI (cmo k) := (K3.1 p (by omega)).trans t2
  have kk : Kp u M3' (pop0 u M3' p w2 (cmo k) d) p 0 w2 := pop0_kp
  have kA : Kp u M1' (pop0 u M3' p w2 (cmo k) d) p 0 w1 := (K2.tr K3' (by omega) (Nat.le_refl _) (Nat.le_refl _)).tr kk (Nat.le_refl _) (Nat.le_refl _) (by omega)
  have kB : Kp u M M3 p 0 w := (K1'.tr K2 (Nat.le_refl _) (Nat.le_refl _) (by omega)).tr K3 (by omega) (Nat.le_refl _) (by omega)
  refine ⟨m3, M3, pop0 u M3' p w2 (cmo k) d, w2 + 1, by rw [e1, e2, e3], l5, ⟨⟨q + 1, by omega, ?_, ⟨d, wa, ?_⟩, ⟨?_, p, cmo k, by omega, by omega, t3, c1, ?_⟩, (kB.2.2.2.2.2.1 23 (by omega)).trans hP.2.2.2.1⟩, ?_, kB, K1'.tr kA (Nat.le_refl _) (Nat.le_refl _) (by omega), ?_⟩, by omega, l7⟩
  · intro r e r1 r2
    rw [show e + (q + 1) = (e + 1) + q by omega, q2 r (e + 1) r1 (by omega)]
    exact set_pop R3' (by omega) (by omega) (by omega) (by omega) t3' (by omega) (fun e => by omega)
  · rw [show p + (q + 1) = p + 1 + q by omega]
    exact q3
  · intro i hi
    by_cases z : i < p
    · obtain ⟨k, k1, k2, k3⟩ := hP.2.2.2.2 i z
      exact ⟨k, by omega, (kB.1 i z).trans k3⟩
    · by_cases z2 : i = p
      · exact ⟨cmo k, c2, by rw [z2]; exact t3⟩
      · obtain ⟨k, k1, k2, k3⟩ := q4 i (by omega) (by omega)
        exact ⟨k, k1, k2⟩
  · exact fun i i1 i2 => q4 i (by omega) (by omega)
  · have := pop0_rs (k := cmo k) R3'
    rw [if_neg (by omega)] at this
    exact this
  · exact RTr.cmp (co1.cong (fun i i1 i2 => kA.2.2.2.1 i i2)) (co3.cong (fun i i1 i2 => kk.2.2.2.1 i i2)) hk pop0_code
theorem q_cmpF (hN : 4000 ≤ N) (hT2 : ∀ j, kd B n (stk B n j) ≠ 48 → j < T) (h26 : kd B n (stk B n j) ≠ 26) (h : LvOk B n u 0 T N 1 5 j d j1 V) {k f jf : Nat} (hk : (34 ≤ k ∧ k ≤ 37) ∨ k = 46 ∨ k = 47) (hj : kd B n (stk B n j1) = k) (h2 : LvFl B n u 0 T N 1 5 (j1 + 1) d f jf) : QFl B n u T N 4 d j f jf := by
  intro m M p w hP hp ht hm
  have b := hP.2.1
  have tp := hP.top
  obtain ⟨m1, M1, M1', w1, e1, l1, W1, l2, l3⟩ := h m M p 0 w (hP.pr h26) (by omega) (tp.mono (by omega)) hm
  obtain ⟨m2, M2, e2, l4, P2, t2, K2⟩ := q_cgo (N := N) hN hT2 hP W1 hk hj l1 (by omega)
  obtain ⟨c1, c2, c3, c4⟩ := cmo_r hk
  obtain ⟨M3, e3, a3, K3⟩ := h2 m2 M2 (p + 1) 0 w1 P2 (by omega) (Or.inr ⟨cmo k, by omega, t2, by omega⟩) l4
  obtain ⟨-, R1', -, K1', co1⟩ := W1
  have w01 := co1.1
  exact ⟨M3, by rw [e1, e2, e3], a3, (K1'.tr K2 (Nat.le_refl _) (Nat.le_refl _) (by omega)).tr K3 (by omega) (Nat.le_refl _) (by omega)⟩
theorem q_bad (hN : 4000 ≤ N) (h26 : kd B n (stk B n j) ≠ 26) (h : LvOk B n u 0 T N 1 5 j d j1 V) (hk : ¬ ((34 ≤ kd B n (stk B n j1) ∧ kd B n (stk B n j1) ≤ 37) ∨ kd B n (stk B n j1) = 46 ∨ kd B n (stk B n j1) = 47)) (hk2 : kd B n (stk B n j1) < 38 ∨ 41 < kd B n (stk B n j1)) : QFl B n u T N 4 d j 1 j1 := by
  intro m M p w hP hp ht hm
  have b := hP.2.1
  have tp := hP.top
  obtain ⟨m1, M1, M1', w1, e1, l1, W1, l2, l3⟩ := h m M p 0 w (hP.pr h26) (by omega) (tp.mono (by omega)) hm
  obtain ⟨o1, o2, o3, o4⟩ := q_see (N := N) hN hP W1 hk2
  obtain ⟨⟨q, q1, q2, ⟨wa, q3⟩, q4⟩, R', K1, K2, co⟩ := W1
  obtain ⟨m', rfl⟩ : ∃ m', m1 = m' + 1 := ⟨m1 - 1, by omega⟩
  refine ⟨M1, ?_, q3.2.1.1, K1⟩
  rw [e1, end_go hN (by rw [o3, (cmp_of q3.2.1.2.2).2 hk]) o1 q3, if_neg (show ¬ (1 : Int32) = 0 by decide), o2, Option.bind_some, if_pos rfl]
  rfl
theorem q_fl (h26 : kd B n (stk B n j) ≠ 26) {f jf : Nat} (h : LvFl B n u 0 T N 1 5 j d f jf) : QFl B n u T N 4 d j f jf := by
  intro m M p w hP hp ht hm
  have b := hP.2.1
  exact h m M p 0 w (hP.pr h26) (by omega) (hP.top.mono (by omega)) hm
theorem tl_le (lev : Nat) : tl lev ≤ tl (lev + 1) := by
  unfold tl
  repeat' split
  all_goals omega
theorem q_up (h : QOk B n u T N (lev + 1) d j j' V) : QOk B n u T N lev d j j' V := by
  intro m M p w hP hp ht hm
  obtain ⟨m', M1, M', w1, e1, l1, ⟨⟨q, q1, q2, q3⟩, r⟩, l2, l3⟩ := h m M p w hP (by omega) (ht.mono (tl_le lev)) hm
  exact ⟨m', M1, M', w1, e1, l1, ⟨⟨q, q1, fun r e r1 r2 => q2 r e r1 (by omega), q3⟩, r⟩, l2, l3⟩
theorem qf_up {f jf : Nat} (h : QFl B n u T N (lev + 1) d j f jf) : QFl B n u T N lev d j f jf := fun m M p w hP hp ht hm => h m M p w hP (by omega) (ht.mono (tl_le lev)) hm
/-- the word 'not' ahead of a question -/
theorem begin_not (hN : 4000 ≤ N) (hP : QPr B n u T M j d p w) (h26 : kd B n (stk B n j) = 26) : f_m_beginOne N M = f_m_opened N 20 M := by
  have tk := hP.1.2.1.2.2
  have b := hP.2.1
  have t1 : ¬ gi M 129 9 = (1 : Int32) := fun e => by have := tk.one.mp e; omega
  have bs : ∀ o : Option (Int32 × Mem), (Option.bind o fun q1 => some (q1.1, q1.2)) = o := fun o => by cases o <;> rfl
  have nn : f_m_nameOf M = -1 := by rw [tk.name, if_neg (by omega)]
  have ho := now_no (N := N) (p := p) hN hP.1.2.2.2.2.1 (by omega) (fun t ht => by
    obtain ⟨k, k1, k2, k3⟩ := hP.2.2.2.2 t ht
    exact ⟨k, by omega, k3⟩)
  have ah : f_m_isAskAhead N M = some 1 := by
    unfold f_m_isAskAhead
    rw [ask_here ho hP.2.2.2.1, Option.bind_some, if_neg (show ¬ (1 : Int32) = 0 by decide), show gi M 129 19 = nI p from hP.1.2.2.2.2.1]
    by_cases z : p = 0
    · rw [if_pos (show nI p = (0 : Int32) by rw [z]; rfl)]
    · obtain ⟨q, rfl⟩ : ∃ q, p = q + 1 := ⟨p - 1, by omega⟩
      obtain ⟨k, k1, k2, k3⟩ := hP.2.2.2.2 q (by omega)
      have r := rk_q k1 k2
      have nin : ¬ f_m_isIn (nI (rkN k)) 1 3 M = 0 := by
        have : ∀ r, r < 8 → 1 ≤ r → r ≤ 3 → ¬ f_m_isIn (nI r) 1 3 M0 = 0 := by decide +kernel
        exact this _ (by omega) r.1 r.2
      rw [if_neg (show ¬ nI (q + 1) = (0 : Int32) from fun e => by have := (nI_eq (b := 0) (by omega) (by decide)).mp e; omega), nI_s1, if_pos (am_in_nI (by omega) (by decide)), nI_clamp (by omega), show gi M 134 q = nI k from k3, rk_all k (by omega), if_neg nin]
  unfold f_m_beginOne f_m_beginOne_39
  rw [nn, if_neg t1, if_pos (show (-1 : Int32) < 0 by decide), if_neg t1, if_pos (show (-1 : Int32) < 0 by decide), bs, bs, bs, if_neg (show ¬ gi M 129 9 = (40 : Int32) from fun e => by have := (tk.sg (k := 42) (by omega) (by omega)).mp e; omega), if_neg (show ¬ gi M 129 9 = (45 : Int32) from fun e => by have := (tk.sg (k := 39) (by omega) (by omega)).mp e; omega), if_pos ((tk.wn (k := 27) (v := 109300197323621) (by decide) (by decide)).mpr (by omega)), if_neg (fun z => (tk.wn (k := 26) (v := 7237492) (by decide) (by decide)).mp z h26), ah, Option.bind_some, if_neg (show ¬ (1 : Int32) = 0 by decide)]
theorem q_ngo (hN : 4000 ≤ N) (hT2 : ∀ j, kd B n (stk B n j) ≠ 48 → j < T) (hP : QPr B n u T M j d p w) (h26 : kd B n (stk B n j) = 26) (hd : d < 8) {m : Nat} (hm : T + 2 ≤ m + j) : ∃ m' M', f_m_parsed_25 N m 1 M = f_m_parsed_25 N m' 1 M' ∧ T + 2 ≤ m' + (j + 1) ∧ QPr B n u T M' (j + 1) (d + 1) (p + 1) w ∧ M'.1 134 p = nI 20 ∧ Kp u M M' p 0 w := by
  have b := hP.2.1
  have jT := hT2 j (by omega)
  obtain ⟨m', rfl⟩ : ∃ m', m = m' + 1 := ⟨m - 1, by omega⟩
  obtain ⟨M', o1, o2, o3, o4⟩ := opened_k (N := N) hN hP.1 (by omega) hd (k := 20) (by omega)
  refine ⟨m', M', ?_, by omega, ⟨o2, by omega, by rw [o4.2.2.2.2.2.1 14 (by omega)]; exact hP.2.2.1, by rw [o4.2.2.2.2.2.1 23 (by omega)]; exact hP.2.2.2.1, fun i hi => ?_⟩, o3, o4⟩
  · rw [f_m_parsed_25, show gi M 129 22 = nI 0 from hP.1.2.2.2.2.2.2.2, if_pos (show nI 0 = (0 : Int32) from rfl), begin_not hN hP h26, show (20 : Int32) = nI 20 from rfl, o1, Option.bind_some]
    exact p43_0 N _ 1 M'
  · by_cases z : i = p
    · exact ⟨20, by omega, by omega, by rw [z]; exact o3⟩
    · obtain ⟨k, k1, k2, k3⟩ := hP.2.2.2.2 i (by omega)
      exact ⟨k, k1, k2, (o4.1 i (by omega)).trans k3⟩
theorem q_not (hN : 4000 ≤ N) (hT : T ≤ 300) (hT2 : ∀ j, kd B n (stk B n j) ≠ 48 → j < T) (h26 : kd B n (stk B n j) = 26) (hd : d < 8) (hV : VT V) (h : QOk B n u T N 3 (d + 1) (j + 1) j' V) : QOk B n u T N 3 d j j' (fun e => 1 - V e) := by
  intro m M p w hP hp ht hm
  have b := hP.2.1
  obtain ⟨m1, M1, e1, l1, P1, t1, k1⟩ := q_ngo (N := N) hN hT2 hP h26 hd hm
  obtain ⟨m2, M2, M2', w1, e2, l2, ⟨⟨q, q1, q2, ⟨d', wa, q3⟩, q4, q5⟩, R', K1, K2, co⟩, l3, l4⟩ := h m1 M1 (p + 1) w P1 (by omega) P1.top l1
  have w01 := co.1
  have t2 : M2'.1 134 p = nI 20 := (K2.1 p (by omega)).trans t1
  have kk : Kp u M2' (pop0 u M2' p w1 20 (d + 1)) p 0 w1 := pop0_kp
  refine ⟨m2, M2, pop0 u M2' p w1 20 (d + 1), w1 + 1, by rw [e1, e2], l2, ⟨⟨q + 1, by omega, ?_, ⟨d', wa, ?_⟩, ?_, q5⟩, ?_, k1.tr K1 (by omega) (Nat.le_refl _) (Nat.le_refl _), (k1.tr K2 (by omega) (Nat.le_refl _) (Nat.le_refl _)).tr kk (Nat.le_refl _) (Nat.le_refl _) (by omega), ?_⟩, by omega, l4⟩
  · intro r e r1 r2
    rw [show e + (q + 1) = (e + 1) + q by omega, q2 r (e + 1) r1 (by omega)]
    exact set_pop R' (by omega) (by omega) (by omega) (by omega) t2 (by show r ≤ 3; omega) (fun e => by omega)
  · rw [show p + (q + 1) = p + 1 + q by omega]
    exact q3
  · rw [show p + (q + 1) = p + 1 + q by omega]
    exact q4
  · have := pop0_rs (k := 20) R'
    rw [if_pos (Or.inr rfl)] at this
    exact this
  · exact RTr.not (co.cong (fun i i1 i2 => kk.2.2.2.1 i i2)) hV pop0_code
theorem q_notF (hN : 4000 ≤ N) (hT2 : ∀ j, kd B n (stk B n j) ≠ 48 → j < T) (h26 : kd B n (stk B n j) = 26) (hd : d < 8) {f jf : Nat} (h : QFl B n u T N 3 (d + 1) (j + 1) f jf) : QFl B n u T N 3 d j f jf := by
  intro m M p w hP hp ht hm
  have b := hP.2.1
  obtain ⟨m1, M1, e1, l1, P1, t1, k1⟩ := q_ngo (N := N) hN hT2 hP h26 hd hm
  obtain ⟨M2, e2, a2, k2⟩ := h m1 M1 (p + 1) w P1 (by omega) P1.top l1
  exact ⟨M2, by rw [e1, e2], a2, k1.tr k2 (by omega) (Nat.le_refl _) (Nat.le_refl _)⟩
theorem q_deep (hN : 4000 ≤ N) (h26 : kd B n (stk B n j) = 26) : QFl B n u T N 3 8 j 3 j := by
  intro m M p w hP hp ht hm
  have b := hP.2.1
  obtain ⟨m', rfl⟩ : ∃ m', m = m' + 1 := ⟨m - 1, by omega⟩
  refine ⟨M, ?_, hP.1.2.1.1, Kp.rf⟩
  have op : f_m_opened N 20 M = some (nI 3, M) := by
    unfold f_m_opened
    rw [if_pos (show gi M 129 20 = (8 : Int32) by show M.1 129 20 = _; rw [hP.1.2.2.2.2.2.1]; rfl)]
    rfl
  rw [f_m_parsed_25, show gi M 129 22 = nI 0 from hP.1.2.2.2.2.2.2.2, if_pos (show nI 0 = (0 : Int32) from rfl), begin_not hN hP h26, op, Option.bind_some]
  exact p43_f N _ 1 M (by omega) (by omega)
/-- and, or -/
theorem q_ago (hN : 4000 ≤ N) (hT2 : ∀ j, kd B n (stk B n j) ≠ 48 → j < T) {M0 M1 M1' : Mem} {w1 m k : Nat} (hP : QPr B n u T M0 j 0 p w) (hW : QW B n u N M0 M1 j1 0 p w lev V M1' w1) (hk : (k = 24 ∧ lev = 1) ∨ (k = 25 ∧ lev = 2)) (hj : kd B n (stk B n j1) = k) (hp : p + 1 ≤ 0 + lev) (ht : TopLt M0 p (tl lev)) (hm : T + 2 ≤ m + j1) (hw : w1 ≤ j1) : ∃ m' M2, f_m_parsed_25 N m 1 M1 = f_m_parsed_25 N m' 1 M2 ∧ T + 2 ≤ m' + (j1 + 1) ∧ QPr B n u T M2 (j1 + 1) 0 (p + 1) w1 ∧ TopLt M2 (p + 1) (tl (lev + 1)) ∧ M2.1 134 p = nI (46 - k) ∧ Kp u M1' M2 p 0 w1 := by
  obtain ⟨⟨q, q1, q2, ⟨d', wa, q3⟩, q4, q5⟩, R', K1, K2, co⟩ := hW
  have b := hP.2.1
  have jT := hT2 j1 (by omega)
  obtain ⟨c1, c2⟩ := q4.cmp (N := N) hN q3.2.2.2.2.1 (by omega)
  have tk := q3.2.1.2.2
  have rk : rkN (46 - k) = lev ∧ tl lev = lev := by
    rcases hk with ⟨rfl, rfl⟩ | ⟨rfl, rfl⟩ <;> decide
  have wa25 := tk.wn (k := 25) (v := 6385252) (by decide) (by decide)
  have wo24 := tk.wn (k := 24) (v := 28530) (by decide) (by decide)
  have bt : f_m_betweenOf N M1 = some (nI (46 - k)) := by
    rw [bt_no tk (by omega), ask_here c2 q5, Option.bind_some, if_neg (show ¬ (1 : Int32) = 0 by decide), c1, Option.bind_some, if_neg (show ¬ (1 : Int32) = 0 by decide)]
    rcases hk with ⟨rfl, -⟩ | ⟨rfl, -⟩
    · rw [if_pos (wa25.mpr (by omega)), if_neg (fun e => wo24.mp e hj)]
      rfl
    · rw [if_neg (fun e => wa25.mp e hj)]
      rfl
  have st : f_m_settle N (nI (rkN (46 - k))) M1 = some M1' := by
    unfold f_m_settle
    obtain ⟨e, he⟩ : ∃ e, N = (e + 1) + q := ⟨N - 1 - q, by omega⟩
    have a1 := q2 lev (e + 1) (by omega) (by omega)
    rw [← he] at a1
    rw [rk.1, a1]
    exact set_stop (p := p) R'.2.2.2.2.1 (by omega) (by omega) (by have := ht.kp K2; rw [rk.2] at this; exact this)
  obtain ⟨m', rfl⟩ : ∃ m', m = m' + 1 := ⟨m - 1, by omega⟩
  obtain ⟨M2, e2, R2, t2, K3⟩ := push_go (N := N) (x := 1) (o := 46 - k) (m := m') hN (by omega) bt st q3 R' (by omega)
  refine ⟨m', M2, e2, by omega, ⟨R2, by omega, ?_, ?_, fun i hi => ?_⟩, Or.inr ⟨46 - k, by omega, t2, ?_⟩, t2, K3⟩
  · rw [K3.2.2.2.2.2.1 14 (by omega), K2.2.2.2.2.2.1 14 (by omega)]
    exact hP.2.2.1
  · rw [K3.2.2.2.2.2.1 23 (by omega), K2.2.2.2.2.2.1 23 (by omega)]
    exact hP.2.2.2.1
  · by_cases z : i = p
    · exact ⟨46 - k, by omega, by omega, by rw [z]; exact t2⟩
    · obtain ⟨k, k1, k2, k3⟩ := hP.2.2.2.2 i (by omega)
      exact ⟨k, k1, k2, (K3.1 i (by omega)).trans ((K2.1 i (by omega)).trans k3)⟩
  · rw [rk.1]
    rcases hk with ⟨-, rfl⟩ | ⟨-, rfl⟩ <;> decide
theorem q_add (hN : 4000 ≤ N) (hT : T ≤ 300) (hT2 : ∀ j, kd B n (stk B n j) ≠ 48 → j < T) {k : Nat} (hk : (k = 24 ∧ lev = 1) ∨ (k = 25 ∧ lev = 2)) (h : QOk B n u T N lev 0 j j1 V) (hj : kd B n (stk B n j1) = k) (hV : VT V) (hV2 : VT V2) (h2 : QOk B n u T N (lev + 1) 0 (j1 + 1) j' V2) : QOk B n u T N lev 0 j j' (fun e => f_l_compared (nI k) (V e) (V2 e) M0) := by
  intro m M p w hP hp ht hm
  have b := hP.2.1
  obtain ⟨m1, M1, M1', w1, e1, l1, W1, l2, l3⟩ := h m M p w hP hp ht hm
  obtain ⟨m2, M2, e2, l4, P2, tt, t2, K2⟩ := q_ago (N := N) hN hT2 hP W1 hk hj hp ht l1 (by omega)
  obtain ⟨m3, M3, M3', w2, e3, l5, ⟨⟨q, q1, q2, ⟨d', wa, q3⟩, q4, q5⟩, R3', K3, K3', co3⟩, l6, l7⟩ := h2 m2 M2 (p + 1) w1 P2 (by omega) tt l4
  obtain ⟨-, R1', -, K1', co1⟩ := W1
  have w01 := co1.1
  have w12 := co3.1
  have rk : rkN (46 - k) = lev ∧ 46 - k < 44 ∧ 46 - k ≠ 3 ∧ 46 - k ≠ 20 := by
    rcases hk with ⟨rfl, rfl⟩ | ⟨rfl, rfl⟩ <;> decide
  have t3' : M3'.1 134 p = nI (46 - k) := (K3'.1 p (by omega)).trans t2
  have kk : Kp u M3' (pop0 u M3' p w2 (46 - k) 0) p 0 w2 := pop0_kp
  have kA : Kp u M1' (pop0 u M3' p w2 (46 - k) 0) p 0 w1 := (K2.tr K3' (by omega) (Nat.le_refl _) (Nat.le_refl _)).tr kk (Nat.le_refl _) (Nat.le_refl _) (by omega)
  refine ⟨m3, M3, pop0 u M3' p w2 (46 - k) 0, w2 + 1, by rw [e1, e2, e3], l5, ⟨⟨q + 1, by omega, ?_, ⟨d', wa, ?_⟩, ?_, q5⟩, ?_, (K1'.tr K2 (Nat.le_refl _) (Nat.le_refl _) (by omega)).tr K3 (by omega) (Nat.le_refl _) (by omega), K1'.tr kA (Nat.le_refl _) (Nat.le_refl _) (by omega), ?_⟩, by omega, l7⟩
  · intro r e r1 r2
    rw [show e + (q + 1) = (e + 1) + q by omega, q2 r (e + 1) r1 (by omega)]
    exact set_pop R3' (by omega) (by omega) (by omega) (by omega) t3' (by omega) (fun e => by omega)
  · rw [show p + (q + 1) = p + 1 + q by omega]
    exact q3
  · rw [show p + (q + 1) = p + 1 + q by omega]
    exact q4
  · have := pop0_rs (k := 46 - k) R3'
    rw [if_neg (by omega)] at this
    exact this
  · exact RTr.bin (co1.cong (fun i i1 i2 => kA.2.2.2.1 i i2)) (co3.cong (fun i i1 i2 => kk.2.2.2.1 i i2)) hV hV2 (by omega) pop0_code
theorem q_addF (hN : 4000 ≤ N) (hT2 : ∀ j, kd B n (stk B n j) ≠ 48 → j < T) {k f jf : Nat} (hk : (k = 24 ∧ lev = 1) ∨ (k = 25 ∧ lev = 2)) (h : QOk B n u T N lev 0 j j1 V) (hj : kd B n (stk B n j1) = k) (h2 : QFl B n u T N (lev + 1) 0 (j1 + 1) f jf) : QFl B n u T N lev 0 j f jf := by
  intro m M p w hP hp ht hm
  have b := hP.2.1
  obtain ⟨m1, M1, M1', w1, e1, l1, W1, l2, l3⟩ := h m M p w hP hp ht hm
  obtain ⟨m2, M2, e2, l4, P2, tt, t2, K2⟩ := q_ago (N := N) hN hT2 hP W1 hk hj hp ht l1 (by omega)
  obtain ⟨M3, e3, a3, K3⟩ := h2 m2 M2 (p + 1) w1 P2 (by omega) tt l4
  obtain ⟨-, R1', -, K1', co1⟩ := W1
  have w01 := co1.1
  exact ⟨M3, by rw [e1, e2, e3], a3, (K1'.tr K2 (Nat.le_refl _) (Nat.le_refl _) (by omega)).tr K3 (by omega) (Nat.le_refl _) (by omega)⟩
/-- the whole question -/
theorem q_end (hN : 4000 ≤ N) (h : QOk B n u T N 1 0 j j' V) (hk : kd B n (stk B n j') < 38 ∨ 41 < kd B n (stk B n j')) (h24 : kd B n (stk B n j') ≠ 24) (h25 : kd B n (stk B n j') ≠ 25) (hP : QPr B n u T M j 0 0 w) {m : Nat} (hm : T + 2 ≤ m + j) : ∃ M' w1, f_m_parsed_25 N m 1 M = some (0, M') ∧ Rs B n u M' j' 0 0 0 w1 1 ∧ Kp u M M' 0 0 w ∧ RTr 0 (M'.1 132) (705 * u + 97) w w1 V ∧ w1 + j ≤ w + j' ∧ j' ≤ T := by
  have b := hP.2.1
  obtain ⟨m1, M1, M1', w1, e1, l1, ⟨⟨q, q1, q2, ⟨d', wa, q3⟩, q4, q5⟩, R', K1, K2, co⟩, l2, l3⟩ := h m M 0 w hP (by omega) (Or.inl rfl) hm
  obtain ⟨c1, c2⟩ := q4.cmp (N := N) hN q3.2.2.2.2.1 (by omega)
  have tk := q3.2.1.2.2
  have wa25 := tk.wn (k := 25) (v := 6385252) (by decide) (by decide)
  have wo24 := tk.wn (k := 24) (v := 28530) (by decide) (by decide)
  have bt : f_m_betweenOf N M1 = some (-1) := by
    rw [bt_no tk hk, ask_here c2 q5, Option.bind_some, if_neg (show ¬ (1 : Int32) = 0 by decide), c1, Option.bind_some, if_neg (show ¬ (1 : Int32) = 0 by decide), if_pos (wa25.mpr h25), if_pos (wo24.mpr h24)]
  have st : f_m_settle N 1 M1 = some M1' := by
    unfold f_m_settle
    obtain ⟨e, he⟩ : ∃ e, N = (e + 1) + q := ⟨N - 1 - q, by omega⟩
    have a1 := q2 1 (e + 1) (by omega) (by omega)
    rw [← he] at a1
    rw [show (1 : Int32) = nI 1 from rfl, a1]
    exact set_stop (p := 0) R'.2.2.2.2.1 (by omega) (by omega) (Or.inl rfl)
  obtain ⟨m', rfl⟩ : ∃ m', m1 = m' + 1 := ⟨m1 - 1, by omega⟩
  refine ⟨M1', w1, ?_, R', K2, co, l2, l3⟩
  rw [e1, end_go hN bt c2 q3, if_neg (show ¬ (1 : Int32) = 0 by decide), c1, Option.bind_some, if_neg (show ¬ (1 : Int32) = 0 by decide), st, Option.bind_some]
end QRULE
section CEND
variable {B : Nat → Nat} {n u so T N : Nat} {j j' : Nat} {V : (Nat → Int32) → Int32} {M : Mem} {w : Nat}
/-- the whole count -/
theorem c_end (hN : 4000 ≤ N) (h : LvOk B n u so T N 0 5 j 0 j' V) (hk : kd B n (stk B n j') < 38 ∨ 41 < kd B n (stk B n j')) (hP : Pr B n u so T M j 0 0 0 w) (h23 : M.1 129 23 = 0) {m : Nat} (hm : T + 2 ≤ m + j) : ∃ M' w1, f_m_parsed_25 N m 0 M = some (0, M') ∧ Rs B n u M' j' 0 0 0 w1 1 ∧ Kp u M M' 0 0 w ∧ RCo so (M'.1 132) (705 * u + 97) w w1 V ∧ w1 + j ≤ w + j' ∧ j' ≤ T := by
  have b := hP.2.1
  obtain ⟨m1, M1, M1', w1, e1, l1, ⟨⟨q, q1, q2, ⟨wa, q3⟩, q4⟩, R', K1, K2, co⟩, l2, l3⟩ := h m M 0 0 w hP (by omega) (Or.inl rfl) hm
  have c2 := now_no (N := N) (M := M1) hN q3.2.2.2.2.1 (by omega) (fun t ht => by
    obtain ⟨k, k1, k2, k3⟩ := q4 t (by omega) ht
    exact ⟨k, k1, k2⟩)
  have g23 : gi M1 129 23 = 0 := (K1.2.2.2.2.2.1 23 (by omega)).trans h23
  have bt : f_m_betweenOf N M1 = some (-1) := by
    rw [bt_no q3.2.1.2.2 hk]
    unfold f_m_isAskHere
    rw [if_pos g23, Option.bind_some, if_pos rfl]
  have st : f_m_settle N 1 M1 = some M1' := by
    unfold f_m_settle
    obtain ⟨e, he⟩ : ∃ e, N = (e + 1) + q := ⟨N - 1 - q, by omega⟩
    have a1 := q2 1 (e + 1) (by omega) (by omega)
    rw [← he] at a1
    rw [show (1 : Int32) = nI 1 from rfl, a1]
    exact set_stop (p := 0) R'.2.2.2.2.1 (by omega) (by omega) (Or.inl rfl)
  obtain ⟨m', rfl⟩ : ∃ m', m1 = m' + 1 := ⟨m1 - 1, by omega⟩
  refine ⟨M1', w1, ?_, R', K2, co, l2, l3⟩
  rw [e1, end_go hN bt c2 q3, if_pos rfl, st, Option.bind_some]
end CEND
