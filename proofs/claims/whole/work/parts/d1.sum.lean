/-! Opening, minus, products and sums in the reference. -/
section OPEN
variable {B : Nat → Nat} {n u so T N : Nat} {x : Int32} {j d j' : Nat} {M : Mem} {p g w : Nat}
theorem opened_k (hN : 4000 ≤ N) (hR : Rs B n u M j d p g w 0) (hp : p < 160) (hd : d < 8) {k : Nat} (hk : k < 41) : ∃ M', f_m_opened N (nI k) M = some (0, M') ∧ Rs B n u M' (j + 1) (d + 1) (p + 1) g w 0 ∧ M'.1 134 p = nI k ∧ Kp u M M' p g w := by
  have hR' := hR
  obtain ⟨a, b, c, d1, d2, d3, d4, d5⟩ := hR'
  have h3 : Rs B n u (si (si (si M 129 20 (nI (d + 1))) 134 p (nI k)) 129 19 (nI (p + 1))) j (d + 1) (p + 1) g w 0 := by
    refine hR.up ?_ rfl ?_ ?_ ?_ ?_ ?_ ?_
    · rw [si_1, if_neg (by decide), si_1, if_neg (by decide), si_1, if_neg (by decide)]
    · intro i hi
      rw [si_at, if_neg (by omega), si_at, if_neg (by omega), si_at, if_neg (by omega)]
    · rw [si_at, if_neg (by omega), si_at, if_neg (by omega), si_at, if_neg (by omega)]; exact d1
    · rw [si_at, if_pos ⟨rfl, rfl⟩]
    · rw [si_at, if_neg (by omega), si_at, if_neg (by omega), si_at, if_pos ⟨rfl, rfl⟩]
    · rw [si_at, if_neg (by omega), si_at, if_neg (by omega), si_at, if_neg (by omega)]; exact d4
    · rw [si_at, if_neg (by omega), si_at, if_neg (by omega), si_at, if_neg (by omega)]; exact d5
  obtain ⟨M2, n1, n2, n3⟩ := h3.next hN
  refine ⟨M2, ?_, n2, ?_, ?_⟩
  · unfold f_m_opened
    rw [if_neg (show ¬ gi M 129 20 = (8 : Int32) by show ¬ M.1 129 20 = _; rw [d3]; exact fun e => by have := (nI_eq (b := 8) (by omega) (by decide)).mp e; omega), show gi M 129 20 = nI d from d3, nI_1, Option.bind_some, show gi (si M 129 20 (nI (d + 1))) 129 19 = nI p from d2, if_pos (am_in_nI hp (by decide)), nI_clamp (by omega), Option.bind_some, show gi (si (si M 129 20 (nI (d + 1))) 134 p (nI k)) 129 19 = nI p from d2, nI_1, Option.bind_some, if_neg (show ¬ nI k = (41 : Int32) from fun e => by have := (nI_eq (b := 41) (by omega) (by decide)).mp e; omega), n1]
    rfl
  · rw [n3.1 _ _ (by omega), si_at, if_neg (by omega), si_at, if_pos ⟨rfl, rfl⟩]
  · exact (((Kp.f 20 _ (by omega)).tr (Kp.pile p _ (Nat.le_refl _)) (Nat.le_refl _) (Nat.le_refl _) (Nat.le_refl _)).tr (Kp.f 19 _ (by omega)) (Nat.le_refl _) (Nat.le_refl _) (Nat.le_refl _)).tr n3.kp (Nat.le_refl _) (Nat.le_refl _) (Nat.le_refl _)
/-- an opening that leads on -/
theorem open_go (hN : 4000 ≤ N) (hT2 : ∀ j, kd B n (stk B n j) ≠ 48 → j < T) (hP : Pr B n u so T M j d p g w) (hd : d < 8) {k m : Nat} (hk : k = 3 ∨ k = 40) (hj : kd B n (stk B n j) = if k = 3 then 39 else 42) (hm : T + 2 ≤ m + j) : ∃ m' M', f_m_parsed_25 N m x M = f_m_parsed_25 N m' x M' ∧ T + 2 ≤ m' + (j + 1) ∧ Pr B n u so T M' (j + 1) (d + 1) (p + 1) g w ∧ M'.1 134 p = nI k ∧ Kp u M M' p g w := by
  obtain ⟨m', rfl, e2⟩ := p25_0 (N := N) (x := x) hP hm
  have b := hP.2.1
  obtain ⟨M', o1, o2, o3, o4⟩ := opened_k (N := N) hN hP.1 (by omega) hd (k := k) (by omega)
  have jT : j < T := hT2 j (by rw [hj]; split <;> omega)
  refine ⟨m', M', ?_, by omega, ⟨o2, by omega, by rw [o4.2.2.2.2.2.1 14 (by omega)]; exact hP.2.2.1, fun _ => ⟨by omega, k, by omega, o3, ?_⟩⟩, o3, o4⟩
  · rw [e2, begin_sign hP (by rw [hj]; split <;> omega) (by rw [hj]; split <;> omega)]
    rcases hk with rfl | rfl
    · rw [if_neg (by rw [hj]; decide), if_pos (show kd B n (stk B n j) = 39 from hj), show (3 : Int32) = nI 3 from rfl, o1, Option.bind_some]
      exact p43_0 N _ x M'
    · rw [if_pos (show kd B n (stk B n j) = 42 from hj), show (40 : Int32) = nI 40 from rfl, o1, Option.bind_some]
      exact p43_0 N _ x M'
  · rcases hk with rfl | rfl
    · exact Or.inr (by decide)
    · exact Or.inl (by decide)
theorem one_neg (hN : 4000 ≤ N) (hT : T ≤ 300) (hT2 : ∀ j, kd B n (stk B n j) ≠ 48 → j < T) (hj : kd B n (stk B n j) = 39) (hd : d < 8) {V : (Nat → Int32) → Int32} (hV : VOk so V) (h : OneOk B n u so T N x (j + 1) (d + 1) j' V) : OneOk B n u so T N x j d j' (fun e => -(V e)) := by
  intro m M p g w hP hm
  obtain ⟨m1, M1, e1, l1, P1, t1, k1⟩ := open_go (N := N) (x := x) hN hT2 hP hd (k := 3) (Or.inl rfl) hj hm
  obtain ⟨m2, e, M2, w1, e2, l2, l3, R2, k2, c2, l4, l5⟩ := h m1 M1 (p + 1) g w P1 l1
  have b := hP.2.1
  have t2 : M2.1 134 p = nI 3 := (k2.1 p (by omega)).trans t1
  obtain ⟨e', rfl⟩ : ∃ e', e = e' + 1 := ⟨e - 1, by omega⟩
  have w01 := c2.1
  have kk : Kp u M2 (pop0 u M2 p w1 3 (d + 1)) p g w1 := pop0_kp
  refine ⟨m2, e', pop0 u M2 p w1 3 (d + 1), w1 + 1, ?_, l2, by omega, ?_, ?_, ?_, by omega, l5⟩
  · rw [e1, e2, show (7 : Int32) = nI 7 from rfl, set_pop (k := 3) (d := d + 1) R2 (by omega) (by omega) (by omega) (by omega) t2 (by decide) (fun _ => by omega)]
  · have := pop0_rs (k := 3) R2
    rw [if_pos (Or.inl rfl)] at this
    exact this
  · exact (k1.tr k2 (by omega) (Nat.le_refl _) (Nat.le_refl _)).tr kk (Nat.le_refl _) (Nat.le_refl _) (by omega)
  · exact RCo.neg (c2.cong (fun i i1 i2 => kk.2.2.2.1 i i2)) hV pop0_code
theorem one_negF (hN : 4000 ≤ N) (hT2 : ∀ j, kd B n (stk B n j) ≠ 48 → j < T) (hj : kd B n (stk B n j) = 39) (hd : d < 8) {f jf : Nat} (h : OneFl B n u so T N x (j + 1) (d + 1) f jf) : OneFl B n u so T N x j d f jf := by
  intro m M p g w hP hm
  obtain ⟨m1, M1, e1, l1, P1, t1, k1⟩ := open_go (N := N) (x := x) hN hT2 hP hd (k := 3) (Or.inl rfl) hj hm
  obtain ⟨M2, e2, a2, k2⟩ := h m1 M1 (p + 1) g w P1 l1
  exact ⟨M2, by rw [e1, e2], a2, k1.tr k2 (by omega) (Nat.le_refl _) (Nat.le_refl _)⟩
end OPEN
/-- a state that settles to one with pile p and the code of V -/
def Wst (B : Nat → Nat) (n u so N : Nat) (M0 M : Mem) (j d p g w lev : Nat) (V : (Nat → Int32) → Int32) (M' : Mem) (w1 : Nat) : Prop := (∃ q, q + lev ≤ 7 ∧ (∀ r e, 1 ≤ r → r ≤ lev → f_m_settle_0 N (e + q) (nI r) M = f_m_settle_0 N e (nI r) M') ∧ (∃ wa, Rs B n u M j d (p + q) g wa 1) ∧ ∀ i, p ≤ i → i < p + q → ∃ k, k < 40 ∧ M.1 134 i = nI k ∧ 5 ≤ rkN k) ∧ Rs B n u M' j d p g w1 1 ∧ Kp u M0 M p g w ∧ Kp u M0 M' p g w ∧ RCo so (M'.1 132) (705 * u + 97) w w1 V
def TopLt (M : Mem) (p r : Nat) : Prop := p = 0 ∨ ∃ k, k < 44 ∧ M.1 134 (p - 1) = nI k ∧ rkN k < r
theorem TopLt.kp {u p g w r : Nat} {M M' : Mem} (h : TopLt M p r) (k : Kp u M M' p g w) : TopLt M' p r := by
  rcases h with h | ⟨q, h1, h2, h3⟩
  · exact Or.inl h
  · by_cases z : p = 0
    · exact Or.inl z
    · exact Or.inr ⟨q, h1, (k.1 (p - 1) (by omega)).trans h2, h3⟩
theorem TopLt.mono {M : Mem} {p r r' : Nat} (h : TopLt M p r) (hr : r ≤ r') : TopLt M p r' := by
  rcases h with h | ⟨q, h1, h2, h3⟩
  · exact Or.inl h
  · exact Or.inr ⟨q, h1, h2, by omega⟩
/-- level 6: products; level 5: sums -/
def LvOk (B : Nat → Nat) (n u so T N : Nat) (x : Int32) (lev j d j' : Nat) (V : (Nat → Int32) → Int32) : Prop := ∀ (m : Nat) (M : Mem) (p g w : Nat), Pr B n u so T M j d p g w → p + 2 ≤ 3 * d + lev → TopLt M p lev → T + 2 ≤ m + j → ∃ m' M1 M' w1, f_m_parsed_25 N m x M = f_m_parsed_25 N m' x M1 ∧ T + 2 ≤ m' + j' ∧ Wst B n u so N M M1 j' d p g w lev V M' w1 ∧ w1 + j ≤ w + j' ∧ j' ≤ T
def LvFl (B : Nat → Nat) (n u so T N : Nat) (x : Int32) (lev j d f jf : Nat) : Prop := ∀ (m : Nat) (M : Mem) (p g w : Nat), Pr B n u so T M j d p g w → p + 2 ≤ 3 * d + lev → TopLt M p lev → T + 2 ≤ m + j → ∃ M1, f_m_parsed_25 N m x M = some (nI f, M1) ∧ M1.1 129 8 = nI (stk B n jf) ∧ Kp u M M1 p g w
section LV
variable {B : Nat → Nat} {n u so T N : Nat} {x : Int32} {j d j' : Nat} {V V2 : (Nat → Int32) → Int32}
theorem one_lv (hN : 4000 ≤ N) (h : OneOk B n u so T N x j d j' V) : LvOk B n u so T N x 7 j d j' V := by
  intro m M p g w hP hp ht hm
  obtain ⟨m2, e, M2, w1, e2, l2, l3, R2, k2, c2, l4, l5⟩ := h m M p g w hP hm
  have b := hP.2.1
  obtain ⟨e', rfl⟩ : ∃ e', e = e' + 1 := ⟨e - 1, by omega⟩
  refine ⟨m2, M2, M2, w1, ?_, l2, ⟨⟨0, by omega, fun r e _ _ => rfl, ⟨w1, R2⟩, fun i i1 i2 => by omega⟩, R2, k2, k2, c2⟩, l4, l5⟩
  rw [e2, show (7 : Int32) = nI 7 from rfl, set_stop (p := p) R2.2.2.2.2.1 (by omega) (by omega) (ht.kp k2), Option.bind_some]
theorem one_lf {f jf : Nat} (h : OneFl B n u so T N x j d f jf) : LvFl B n u so T N x 7 j d f jf := fun m M p g w hP _ _ hm => h m M p g w hP hm
theorem lv_up {lev : Nat} (h : LvOk B n u so T N x (lev + 1) j d j' V) : LvOk B n u so T N x lev j d j' V := by
  intro m M p g w hP hp ht hm
  obtain ⟨m', M1, M', w1, e1, l1, ⟨⟨q, q1, q2, q3, q4⟩, r⟩, l2, l3⟩ := h m M p g w hP (by omega) (ht.mono (by omega)) hm
  exact ⟨m', M1, M', w1, e1, l1, ⟨⟨q, by omega, fun r e r1 r2 => q2 r e r1 (by omega), q3, q4⟩, r⟩, l2, l3⟩
theorem lf_up {lev f jf : Nat} (h : LvFl B n u so T N x (lev + 1) j d f jf) : LvFl B n u so T N x lev j d f jf := fun m M p g w hP hp ht hm => h m M p g w hP (by omega) (ht.mono (by omega)) hm
/-- an operator is pushed -/
theorem op_go (hN : 4000 ≤ N) (hT2 : ∀ j, kd B n (stk B n j) ≠ 48 → j < T) {M0 M M' : Mem} {p g w w1 lev k m : Nat} (hW : Wst B n u so N M0 M j d p g w lev V M' w1) (hk : 38 ≤ k ∧ k ≤ 41) (hj : kd B n (stk B n j) = k) (hl : lev = rkN (k - 34)) (ht : TopLt M0 p lev) (hb : p + 2 ≤ 3 * d + lev ∧ d ≤ 8 ∧ g ≤ d ∧ w1 ≤ j ∧ u < 4) (h14 : M0.1 129 14 = nI so) (hm : T + 2 ≤ m + j) : ∃ m' M2, f_m_parsed_25 N m x M = f_m_parsed_25 N m' x M2 ∧ T + 2 ≤ m' + (j + 1) ∧ Pr B n u so T M2 (j + 1) d (p + 1) g w1 ∧ M2.1 134 p = nI (k - 34) ∧ Kp u M' M2 p g w1 := by
  obtain ⟨⟨q, q1, q2, ⟨wa, q3⟩, q4⟩, R', K1, K2, co⟩ := hW
  have jT : j < T := hT2 j (by omega)
  obtain ⟨m', rfl⟩ : ∃ m', m = m' + 1 := ⟨m - 1, by omega⟩
  have tk := q3.2.1.2.2
  have bt : f_m_betweenOf N M = some (nI (k - 34)) := by
    unfold f_m_betweenOf
    have s38 := tk.sg (k := 38) (by omega) (by omega)
    have s39 := tk.sg (k := 39) (by omega) (by omega)
    have s40 := tk.sg (k := 40) (by omega) (by omega)
    have s41 := tk.sg (k := 41) (by omega) (by omega)
    rcases (show k = 38 ∨ k = 39 ∨ k = 40 ∨ k = 41 by omega) with rfl | rfl | rfl | rfl
    · rw [if_pos (show gi M 129 9 = (43 : Int32) from s38.mpr hj)]; rfl
    · rw [if_neg (show ¬ gi M 129 9 = (43 : Int32) from fun e => by have := s38.mp e; omega), if_pos (show gi M 129 9 = (45 : Int32) from s39.mpr hj)]; rfl
    · rw [if_neg (show ¬ gi M 129 9 = (43 : Int32) from fun e => by have := s38.mp e; omega), if_neg (show ¬ gi M 129 9 = (45 : Int32) from fun e => by have := s39.mp e; omega), if_pos (show gi M 129 9 = (42 : Int32) from s40.mpr hj)]; rfl
    · rw [if_neg (show ¬ gi M 129 9 = (43 : Int32) from fun e => by have := s38.mp e; omega), if_neg (show ¬ gi M 129 9 = (45 : Int32) from fun e => by have := s39.mp e; omega), if_neg (show ¬ gi M 129 9 = (42 : Int32) from fun e => by have := s40.mp e; omega), if_pos (show gi M 129 9 = (47 : Int32) from s41.mpr hj)]; rfl
  have rk : 5 ≤ rkN (k - 34) ∧ rkN (k - 34) ≤ 6 := by
    rcases (show k = 38 ∨ k = 39 ∨ k = 40 ∨ k = 41 by omega) with rfl | rfl | rfl | rfl <;> decide
  have st : f_m_settle N (nI (rkN (k - 34))) M = some M' := by
    unfold f_m_settle
    obtain ⟨e, he⟩ : ∃ e, N = (e + 1) + q := ⟨N - 1 - q, by omega⟩
    have a1 := q2 (rkN (k - 34)) (e + 1) (by omega) (by omega)
    rw [← he] at a1
    rw [a1, set_stop (p := p) R'.2.2.2.2.1 (by omega) (by omega)]
    rw [← hl]
    exact ht.kp K2
  have R2 : Rs B n u (si (si (si M' 134 p (nI (k - 34))) 129 19 (nI (p + 1))) 129 22 0) j d (p + 1) g w1 0 := by
    have R'' := R'
    obtain ⟨a, b, c, d1, d2, d3, d4, d5⟩ := R''
    refine R'.up ?_ rfl ?_ ?_ ?_ ?_ ?_ ?_
    · rw [si_1, if_neg (by decide), si_1, if_neg (by decide), si_1, if_neg (by decide)]
    · intro i hi
      rw [si_at, if_neg (by omega), si_at, if_neg (by omega), si_at, if_neg (by omega)]
    · rw [si_at, if_neg (by omega), si_at, if_neg (by omega), si_at, if_neg (by omega)]; exact d1
    · rw [si_at, if_neg (by omega), si_at, if_pos ⟨rfl, rfl⟩]
    · rw [si_at, if_neg (by omega), si_at, if_neg (by omega), si_at, if_neg (by omega)]; exact d3
    · rw [si_at, if_neg (by omega), si_at, if_neg (by omega), si_at, if_neg (by omega)]; exact d4
    · rw [si_at, if_pos ⟨rfl, rfl⟩]; rfl
  obtain ⟨M2, n1, n2, n3⟩ := R2.next hN
  have K3 : Kp u M' M2 p g w1 := (((Kp.pile p _ (Nat.le_refl _)).tr (Kp.f 19 _ (by omega)) (Nat.le_refl _) (Nat.le_refl _) (Nat.le_refl _)).tr (Kp.f 22 _ (by omega)) (Nat.le_refl _) (Nat.le_refl _) (Nat.le_refl _)).tr n3.kp (Nat.le_refl _) (Nat.le_refl _) (Nat.le_refl _)
  have t2 : M2.1 134 p = nI (k - 34) := by rw [n3.1 _ _ (by omega), si_at, if_neg (by omega), si_at, if_neg (by omega), si_at, if_pos ⟨rfl, rfl⟩]
  refine ⟨m', M2, ?_, by omega, ⟨n2, by omega, ?_, fun _ => ⟨by omega, k - 34, by omega, t2, Or.inr (by omega)⟩⟩, t2, K3⟩
  · rw [f_m_parsed_25, show gi M 129 22 = nI 1 from q3.2.2.2.2.2.2.2, if_neg (show ¬ nI 1 = (0 : Int32) by decide)]
    unfold f_m_behindOne
    rw [bt, Option.bind_some, if_neg (nI_pos (by omega)), rk_all (k - 34) (by omega), st, Option.bind_some, show gi M' 129 19 = nI p from R'.2.2.2.2.1, if_pos (am_in_nI (by omega) (by decide)), nI_clamp (by omega), Option.bind_some, show gi (si M' 134 p (nI (k - 34))) 129 19 = nI p from R'.2.2.2.2.1, nI_1, Option.bind_some, Option.bind_some, n1, Option.bind_some, Option.bind_some]
    exact p43_0 N _ x M2
  · rw [K3.2.2.2.2.2.1 14 (by omega), K2.2.2.2.2.2.1 14 (by omega)]
    exact h14
theorem lv_add (hN : 4000 ≤ N) (hT : T ≤ 300) (hT2 : ∀ j, kd B n (stk B n j) ≠ 48 → j < T) {lev k j1 : Nat} (hk : 38 ≤ k ∧ k ≤ 41) (hl : lev = rkN (k - 34)) (h : LvOk B n u so T N x lev j d j1 V) (hj : kd B n (stk B n j1) = k) (hV : VOk so V) (h2 : LvOk B n u so T N x (lev + 1) (j1 + 1) d j' V2) : LvOk B n u so T N x lev j d j' (fun e => cou k (V e) (V2 e)) := by
  intro m M p g w hP hp ht hm
  have b := hP.2.1
  obtain ⟨m1, M1, M', w1, e1, l1, W1, l2, l3⟩ := h m M p g w hP hp ht hm
  have rk : 5 ≤ rkN (k - 34) ∧ rkN (k - 34) ≤ 6 ∧ k - 34 ≠ 3 ∧ k - 34 ≠ 20 := by
    rcases (show k = 38 ∨ k = 39 ∨ k = 40 ∨ k = 41 by omega) with rfl | rfl | rfl | rfl <;> decide
  obtain ⟨m2, M2, e2, l4, P2, t2, K2⟩ := op_go (N := N) (x := x) hN hT2 W1 hk hj hl ht (by omega) hP.2.2.1 l1
  obtain ⟨m3, M3, M3', w2, e3, l5, ⟨⟨q, q1, q2, ⟨wa, q3⟩, q4⟩, R3', K3, K3', co3⟩, l6, l7⟩ := h2 m2 M2 (p + 1) g w1 P2 (by omega) (Or.inr ⟨k - 34, by omega, t2, by omega⟩) l4
  obtain ⟨-, R1', -, K1', co1⟩ := W1
  have w01 := co1.1
  have w12 := co3.1
  have t3' : M3'.1 134 p = nI (k - 34) := (K3'.1 p (by omega)).trans t2
  have t3 : M3.1 134 p = nI (k - 34) := (K3.1 p (by omega)).trans t2
  have kk : Kp u M3' (pop0 u M3' p w2 (k - 34) d) p g w2 := pop0_kp
  have kA : Kp u M' (pop0 u M3' p w2 (k - 34) d) p g w1 := (K2.tr K3' (by omega) (Nat.le_refl _) (Nat.le_refl _)).tr kk (Nat.le_refl _) (Nat.le_refl _) (by omega)
  refine ⟨m3, M3, pop0 u M3' p w2 (k - 34) d, w2 + 1, by rw [e1, e2, e3], l5, ⟨⟨q + 1, by omega, ?_, ⟨wa, ?_⟩, ?_⟩, ?_, ?_, ?_, ?_⟩, by omega, l7⟩
  · intro r e r1 r2
    rw [show e + (q + 1) = (e + 1) + q by omega, q2 r (e + 1) r1 (by omega)]
    exact set_pop R3' (by omega) (by omega) (by omega) (by omega) t3' (by omega) (fun e => by omega)
  · rw [show p + (q + 1) = p + 1 + q by omega]
    exact q3
  · intro i i1 i2
    by_cases z : i = p
    · exact ⟨k - 34, by omega, by rw [z]; exact t3, by omega⟩
    · exact q4 i (by omega) (by omega)
  · have := pop0_rs (k := k - 34) R3'
    rw [if_neg (by omega)] at this
    exact this
  · exact (K1'.tr K2 (Nat.le_refl _) (Nat.le_refl _) (by omega)).tr K3 (by omega) (Nat.le_refl _) (by omega)
  · exact K1'.tr kA (Nat.le_refl _) (Nat.le_refl _) (by omega)
  · exact RCo.bin (co1.cong (fun i i1 i2 => kA.2.2.2.1 i i2)) (co3.cong (fun i i1 i2 => kk.2.2.2.1 i i2)) hV hk pop0_code
theorem lf_add (hN : 4000 ≤ N) (hT2 : ∀ j, kd B n (stk B n j) ≠ 48 → j < T) {lev k j1 f jf : Nat} (hk : 38 ≤ k ∧ k ≤ 41) (hl : lev = rkN (k - 34)) (h : LvOk B n u so T N x lev j d j1 V) (hj : kd B n (stk B n j1) = k) (h2 : LvFl B n u so T N x (lev + 1) (j1 + 1) d f jf) : LvFl B n u so T N x lev j d f jf := by
  intro m M p g w hP hp ht hm
  have b := hP.2.1
  obtain ⟨m1, M1, M', w1, e1, l1, W1, l2, l3⟩ := h m M p g w hP hp ht hm
  have rk : 5 ≤ rkN (k - 34) ∧ rkN (k - 34) ≤ 6 := by
    rcases (show k = 38 ∨ k = 39 ∨ k = 40 ∨ k = 41 by omega) with rfl | rfl | rfl | rfl <;> decide
  obtain ⟨m2, M2, e2, l4, P2, t2, K2⟩ := op_go (N := N) (x := x) hN hT2 W1 hk hj hl ht (by omega) hP.2.2.1 l1
  obtain ⟨M3, e3, a3, K3⟩ := h2 m2 M2 (p + 1) g w1 P2 (by omega) (Or.inr ⟨k - 34, by omega, t2, by omega⟩) l4
  obtain ⟨-, R1', -, K1', co1⟩ := W1
  have w01 := co1.1
  exact ⟨M3, by rw [e1, e2, e3], a3, (K1'.tr K2 (Nat.le_refl _) (Nat.le_refl _) (by omega)).tr K3 (by omega) (Nat.le_refl _) (by omega)⟩
/-- values of which one speaks -/
theorem VOk.num {s v : Nat} (h : v ≤ 10000) : VOk s (fun _ => nI v) := ⟨fun _ _ => bdI_n (by omega), fun _ _ _ => rfl⟩
theorem VOk.name {s k : Nat} (h : NmOk s k) : VOk s (fun e => e k) := ⟨fun e he => he k h, fun e e' he => he k h⟩
theorem VOk.neg {s : Nat} {V : (Nat → Int32) → Int32} (h : VOk s V) : VOk s (fun e => -(V e)) := by
  refine ⟨fun e he => ?_, fun e e' he => by show -(V e) = -(V e'); rw [h.2 e e' he]⟩
  obtain ⟨h1, h2⟩ := h.1 e he
  show bdI (-(V e))
  unfold bdI
  rw [Int32.toInt_neg, Int.bmod_eq_of_le (by omega) (by omega)]
  omega
theorem VOk.bin {s k : Nat} {V V2 : (Nat → Int32) → Int32} (hk : 38 ≤ k ∧ k ≤ 41) (h : VOk s V) (h2 : VOk s V2) : VOk s (fun e => cou k (V e) (V2 e)) := ⟨fun e he => (two64 hk (h.1 e he) M0).2, fun e e' he => by show cou k (V e) (V2 e) = cou k (V e') (V2 e'); rw [h.2 e e' he, h2.2 e e' he]⟩
end LV
