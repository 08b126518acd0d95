/-! The reference reads one: rules. -/
def Pr (B : Nat → Nat) (n u so T : Nat) (M : Mem) (j d p g w : Nat) : Prop := Rs B n u M j d p g w 0 ∧ (p ≤ 3 * d + 5 ∧ d ≤ 8 ∧ g ≤ d ∧ w ≤ j ∧ j ≤ T ∧ u < 4) ∧ M.1 129 14 = nI so ∧ (kd B n (stk B n j) = 26 → 1 ≤ p ∧ ∃ k, k < 44 ∧ M.1 134 (p - 1) = nI k ∧ (rkN k = 0 ∨ 4 ≤ rkN k))
/-- one is read: what is on top of the pile and waits for it is still to settle -/
def OneOk (B : Nat → Nat) (n u so T N : Nat) (x : Int32) (j d j' : Nat) (V : (Nat → Int32) → Int32) : Prop := ∀ (m : Nat) (M : Mem) (p g w : Nat), Pr B n u so T M j d p g w → T + 2 ≤ m + j → ∃ m' e M1 w1, f_m_parsed_25 N m x M = Option.bind (f_m_settle_0 N e 7 M1) (fun q => f_m_parsed_25 N m' x q) ∧ T + 2 ≤ m' + j' ∧ 3000 + d ≤ e ∧ Rs B n u M1 j' d p g w1 1 ∧ Kp u M M1 p g w ∧ RCo so (M1.1 132) (705 * u + 97) w w1 V ∧ w1 + j ≤ w + j' ∧ j' ≤ T
def OneFl (B : Nat → Nat) (n u so T N : Nat) (x : Int32) (j d f jf : Nat) : Prop := ∀ (m : Nat) (M : Mem) (p g w : Nat), Pr B n u so T M j d p g w → T + 2 ≤ m + j → ∃ M1, f_m_parsed_25 N m x M = some (nI f, M1) ∧ M1.1 129 8 = nI (stk B n jf) ∧ Kp u M M1 p g w
theorem p43_0 (N : Nat) (K : Int32 → Mem → Option (Int32 × Mem)) (x : Int32) (M : Mem) : f_m_parsed_43 N K x 0 M = K x M := by
  unfold f_m_parsed_43
  rw [if_pos (show (0 : Int32) ≤ 0 by decide), if_pos (show (0 : Int32) = 0 from rfl)]
theorem p43_f (N : Nat) (K : Int32 → Mem → Option (Int32 × Mem)) (x : Int32) (M : Mem) {f : Nat} (h1 : 1 ≤ f) (h2 : f ≤ 7) : f_m_parsed_43 N K x (nI f) M = some (nI f, M) := by
  unfold f_m_parsed_43
  rw [if_neg (show ¬ nI f ≤ (0 : Int32) from nI_ge (a := 0) (by omega) (by omega))]
theorem wb43 (N m : Nat) (x : Int32) (o : Option Mem) : (Option.bind (Option.bind o fun q => some ((0 : Int32), q)) fun q6 => f_m_parsed_43 N (f_m_parsed_25 N m) x q6.1 q6.2) = Option.bind o fun q => f_m_parsed_25 N m x q := by
  cases o with
  | none => rfl
  | some q => exact p43_0 N _ x q
section ONE
variable {B : Nat → Nat} {n u so T N : Nat} {x : Int32} {j d j' : Nat} {M : Mem} {p g w : Nat}
theorem p25_0 (h : Pr B n u so T M j d p g w) {m : Nat} (hm : T + 2 ≤ m + j) : ∃ m', m = m' + 1 ∧ f_m_parsed_25 N m x M = Option.bind (f_m_beginOne N M) fun q6 => f_m_parsed_43 N (f_m_parsed_25 N m') x q6.1 q6.2 := by
  obtain ⟨h1, ⟨b1, b2, b3, b4, b5, b6⟩, -⟩ := h
  obtain ⟨m', rfl⟩ : ∃ m', m = m' + 1 := ⟨m - 1, by omega⟩
  refine ⟨m', rfl, ?_⟩
  rw [f_m_parsed_25, show gi M 129 22 = nI 0 from h1.2.2.2.2.2.2.2, if_pos (show nI 0 = (0 : Int32) from rfl)]
/-- it fails at once, where it stands -/
theorem fl_now {f : Nat} (h1 : 1 ≤ f) (h2 : f ≤ 7) (hb : ∀ (M : Mem) (p g w : Nat), Pr B n u so T M j d p g w → f_m_beginOne N M = some (nI f, M)) : OneFl B n u so T N x j d f j := by
  intro m M p g w hP hm
  obtain ⟨m', e1, e2⟩ := p25_0 (N := N) (x := x) hP hm
  refine ⟨M, ?_, hP.1.2.1.1, Kp.rf⟩
  rw [e2, hb M p g w hP, Option.bind_some]
  exact p43_f N _ x M h1 h2
theorem nameOf_lt (h : Pr B n u so T M j d p g w) (hk : 12 ≤ kd B n (stk B n j)) : f_m_nameOf M = -1 := by
  rw [h.1.2.1.2.2.name, if_neg (by omega)]
/-- a word or a number is written down -/
theorem b65 (hN : 4000 ≤ N) (hj : kd B n (stk B n j) ≠ 48) (hT : T ≤ 300) (hT2 : ∀ j, kd B n (stk B n j) ≠ 48 → j < T) {m : Nat} {op v : Nat} {V : (Nat → Int32) → Int32} (hm : T + 2 ≤ m + 1 + j) (hP : Pr B n u so T M j d p g w) (hb : f_m_beginOne N M = Option.bind (f_m_emit (nI op) (nI v) M) fun q6 => Option.bind (f_m_nextToken N q6) fun q7 => Option.bind (some (si q7 129 22 (1 : Int32))) fun q8 => Option.bind (f_m_settle N (7 : Int32) q8) fun q9 => some ((0 : Int32), q9)) (hV : ∀ D : Nat → Int32, D (705 * u + 97 + 2 * w) = nI op → D (705 * u + 97 + 2 * w + 1) = nI v → RCo so D (705 * u + 97) w (w + 1) V) : ∃ m' e M1 w1, (Option.bind (f_m_beginOne N M) fun q6 => f_m_parsed_43 N (f_m_parsed_25 N m) x q6.1 q6.2) = Option.bind (f_m_settle_0 N e 7 M1) (fun q => f_m_parsed_25 N m' x q) ∧ T + 2 ≤ m' + (j + 1) ∧ 3000 + d ≤ e ∧ Rs B n u M1 (j + 1) d p g w1 1 ∧ Kp u M M1 p g w ∧ RCo so (M1.1 132) (705 * u + 97) w w1 V ∧ w1 + j ≤ w + (j + 1) ∧ j + 1 ≤ T := by
  obtain ⟨hR, ⟨b1, b2, b3, b4, b5, b6⟩, -⟩ := hP
  have jT := hT2 j hj
  have em := r_emit (u := u) (w := w) (M := M) hR.2.2.1 hR.2.2.2.1 b6 (by omega) (nI op) (nI v)
  obtain ⟨M2, n1, n2, n3⟩ := (emM_rs hR (nI op) (nI v)).next hN
  have e3 : Rs B n u (si M2 129 22 1) (j + 1) d p g (w + 1) 1 := by
    have n2' := n2
    obtain ⟨a, b, c, d1, d2, d3, d4, d5⟩ := n2'
    refine n2.up rfl rfl ?_ ?_ ?_ ?_ ?_ ?_
    · intro i hi
      rw [si_at, if_neg (by omega)]
    · rw [si_at, if_neg (by omega)]; exact d1
    · rw [si_at, if_neg (by omega)]; exact d2
    · rw [si_at, if_neg (by omega)]; exact d3
    · rw [si_at, if_neg (by omega)]; exact d4
    · rw [si_at, if_pos ⟨rfl, rfl⟩]; rfl
  have kp : Kp u M (si M2 129 22 1) p g w := (emM_kp.tr n3.kp (Nat.le_refl _) (Nat.le_refl _) (Nat.le_refl w)).tr (Kp.f 22 _ (by omega)) (Nat.le_refl _) (Nat.le_refl _) (Nat.le_refl _)
  refine ⟨m, N, si M2 129 22 1, w + 1, ?_, by omega, by omega, e3, kp, ?_, by omega, by omega⟩
  · rw [hb, em, Option.bind_some, n1, Option.bind_some, Option.bind_some]
    exact wb43 N m x _
  · refine hV _ ?_ ?_
    · rw [si_at, if_neg (by omega), n3.1 _ _ (by omega), emM_at, if_neg (by omega), if_neg (by omega), if_pos ⟨rfl, rfl⟩]
    · rw [si_at, if_neg (by omega), n3.1 _ _ (by omega), emM_at, if_neg (by omega), if_pos ⟨rfl, rfl⟩]
theorem one_num (hN : 4000 ≤ N) (hT : T ≤ 300) (hT2 : ∀ j, kd B n (stk B n j) ≠ 48 → j < T) (hk : kd B n (stk B n j) = 33) (hv : nm B n (stk B n j) ≤ 9999) : OneOk B n u so T N x j d (j + 1) (fun _ => nI (nm B n (stk B n j))) := by
  intro m M p g w hP hm
  obtain ⟨m', rfl, e2⟩ := p25_0 (N := N) (x := x) hP hm
  have tk := hP.1.2.1.2.2
  rw [e2]
  refine b65 (op := 0) (v := nm B n (stk B n j)) hN (by omega) hT hT2 hm hP ?_ (fun D h0 h1 => RCo.num (by omega) h0 h1)
  have t1 : gi M 129 9 = (1 : Int32) := tk.one.mpr hk
  unfold f_m_beginOne f_m_beginOne_39 f_m_beginOne_65
  rw [nameOf_lt hP (by omega), t1, if_pos (show (1 : Int32) = 1 from rfl), if_pos ((tk.num hk).2.mpr hv), if_pos (show (-1 : Int32) < 0 by decide), if_pos (show (1 : Int32) = 1 from rfl), if_pos (show (1 : Int32) = 1 from rfl), if_pos (show (1 : Int32) = 1 from rfl), (tk.num hk).1 hv]
  rfl
theorem one_big (hk : kd B n (stk B n j) = 33) (hv : 9999 < nm B n (stk B n j)) : OneFl B n u so T N x j d 2 j := by
  refine fl_now (by omega) (by omega) (fun M p g w hP => ?_)
  have tk := hP.1.2.1.2.2
  unfold f_m_beginOne
  rw [if_pos (tk.one.mpr hk), if_neg (fun e => by have := (tk.num hk).2.mp e; omega)]
  rfl
theorem isOf_k : ∀ k, k < 12 → ∀ M : Mem, M.1 129 14 = nI so → so < 3 → (¬ f_m_isOf (nI k) M = 0 ↔ NmOk so k) := by
  intro k hk M h hs
  have e : f_m_isOf (nI k) M = f_m_isOf (nI k) (si M0 129 14 (nI so)) := by
    have g14 : gi (si M0 129 14 (nI so)) 129 14 = gi M 129 14 := by
      show (si M0 129 14 (nI so)).1 129 14 = M.1 129 14
      rw [si_at, if_pos ⟨rfl, rfl⟩, h]
    unfold f_m_isOf f_m_isOf_16
    rw [g14]
  have all : ∀ s, s < 3 → ∀ k, k < 12 → (f_m_isOf (nI k) (si M0 129 14 (nI s)) = 0 ↔ ¬ (k < 3 ∨ (s < 2 ∧ 3 ≤ k ∧ k < 10) ∨ (s = 2 ∧ 10 ≤ k ∧ k < 12))) := by decide +kernel
  rw [e, all so hs k hk]
  unfold NmOk
  exact Decidable.not_not
theorem one_name (hN : 4000 ≤ N) (hT : T ≤ 300) (hT2 : ∀ j, kd B n (stk B n j) ≠ 48 → j < T) (hs : so < 3) (hk : kd B n (stk B n j) < 12) (hv : NmOk so (kd B n (stk B n j))) : OneOk B n u so T N x j d (j + 1) (fun e => e (kd B n (stk B n j))) := by
  intro m M p g w hP hm
  obtain ⟨m', rfl, e2⟩ := p25_0 (N := N) (x := x) hP hm
  have tk := hP.1.2.1.2.2
  rw [e2]
  refine b65 (op := 1) (v := kd B n (stk B n j)) hN (by omega) hT hT2 hm hP ?_ (fun D h0 h1 => RCo.name hk h0 h1)
  have t1 : ¬ gi M 129 9 = (1 : Int32) := fun e => by have := tk.one.mp e; omega
  have nn : ¬ nI (kd B n (stk B n j)) < (0 : Int32) := nI_pos (by omega)
  unfold f_m_beginOne f_m_beginOne_39 f_m_beginOne_65
  rw [tk.name, if_pos hk, if_neg t1, if_neg nn, if_neg ((isOf_k _ hk M hP.2.2.1 hs).mpr hv), if_neg t1, if_neg nn, if_neg t1, if_neg t1]
  rfl
theorem one_nam5 (hs : so < 3) (hk : kd B n (stk B n j) < 12) (hv : ¬ NmOk so (kd B n (stk B n j))) : OneFl B n u so T N x j d 5 j := by
  refine fl_now (by omega) (by omega) (fun M p g w hP => ?_)
  have tk := hP.1.2.1.2.2
  have t1 : ¬ gi M 129 9 = (1 : Int32) := fun e => by have := tk.one.mp e; omega
  have nn : ¬ nI (kd B n (stk B n j)) < (0 : Int32) := nI_pos (by omega)
  have z : f_m_isOf (nI (kd B n (stk B n j))) M = 0 := Decidable.byContradiction (fun e => hv ((isOf_k _ hk M hP.2.2.1 hs).mp e))
  unfold f_m_beginOne
  rw [tk.name, if_pos hk, if_neg t1, if_neg nn, if_pos z]
  rfl
/-- what is neither a number nor a name -/
theorem begin_sign (hP : Pr B n u so T M j d p g w) (h12 : 12 ≤ kd B n (stk B n j)) (h33 : kd B n (stk B n j) ≠ 33) : f_m_beginOne N M = if kd B n (stk B n j) = 42 then f_m_opened N 40 M else if kd B n (stk B n j) = 39 then f_m_opened N 3 M else if kd B n (stk B n j) = 27 then f_m_opened N 41 M else if kd B n (stk B n j) = 26 then (Option.bind (f_m_isAskAhead N M) fun q3 => if q3 = (0 : Int32) then some ((1 : Int32), M) else f_m_opened N 20 M) else some ((1 : Int32), M) := by
  have tk := hP.1.2.1.2.2
  have t1 : ¬ gi M 129 9 = (1 : Int32) := fun e => h33 (tk.one.mp e)
  have bs : ∀ o : Option (Int32 × Mem), (Option.bind o fun q1 => some (q1.1, q1.2)) = o := fun o => by cases o <;> rfl
  unfold f_m_beginOne f_m_beginOne_39
  rw [nameOf_lt hP h12, if_neg t1, if_pos (show (-1 : Int32) < 0 by decide), if_neg t1, if_pos (show (-1 : Int32) < 0 by decide), bs, bs, bs]
  by_cases a : kd B n (stk B n j) = 42
  · rw [if_pos (show gi M 129 9 = (40 : Int32) from (tk.sg (k := 42) (by omega) (by omega)).mpr a), if_pos a]
  · rw [if_neg (show ¬ gi M 129 9 = (40 : Int32) from fun e => a ((tk.sg (k := 42) (by omega) (by omega)).mp e)), if_neg a]
    by_cases b : kd B n (stk B n j) = 39
    · rw [if_pos (show gi M 129 9 = (45 : Int32) from (tk.sg (k := 39) (by omega) (by omega)).mpr b), if_pos b]
    · rw [if_neg (show ¬ gi M 129 9 = (45 : Int32) from fun e => b ((tk.sg (k := 39) (by omega) (by omega)).mp e)), if_neg b]
      by_cases c : kd B n (stk B n j) = 27
      · rw [if_neg (fun e => (tk.wn (k := 27) (v := 109300197323621) (by decide) (by decide)).mp e c), if_pos c, bs]
      · rw [if_pos ((tk.wn (k := 27) (v := 109300197323621) (by decide) (by decide)).mpr c), if_neg c]
        by_cases e : kd B n (stk B n j) = 26
        · rw [if_neg (fun z => (tk.wn (k := 26) (v := 7237492) (by decide) (by decide)).mp z e), if_pos e]
        · rw [if_pos ((tk.wn (k := 26) (v := 7237492) (by decide) (by decide)).mpr e), if_neg e]
theorem one_bad (hN : 4000 ≤ N) (h12 : 12 ≤ kd B n (stk B n j)) (h33 : kd B n (stk B n j) ≠ 33) (h42 : kd B n (stk B n j) ≠ 42) (h39 : kd B n (stk B n j) ≠ 39) (h27 : kd B n (stk B n j) ≠ 27) : OneFl B n u so T N x j d 1 j := by
  refine fl_now (by omega) (by omega) (fun M p g w hP => ?_)
  rw [begin_sign hP h12 h33, if_neg h42, if_neg h39, if_neg h27]
  by_cases a : kd B n (stk B n j) = 26
  · obtain ⟨a1, k, a2, a3, a4⟩ := hP.2.2.2 a
    have b := hP.2.1
    rw [if_pos a, ahead_no hN hP.1.2.2.2.2.1 (by omega) a1 a2 a3 a4, Option.bind_some, if_pos rfl]
    rfl
  · rw [if_neg a]
    rfl
theorem one_deep (h : kd B n (stk B n j) = 42 ∨ kd B n (stk B n j) = 39 ∨ kd B n (stk B n j) = 27) (hd : d = 8) : OneFl B n u so T N x j d 3 j := by
  refine fl_now (by omega) (by omega) (fun M p g w hP => ?_)
  have op : ∀ y : Int32, f_m_opened N y M = some (nI 3, M) := fun y => by
    unfold f_m_opened
    rw [if_pos (show gi M 129 20 = (8 : Int32) by show M.1 129 20 = _; rw [hP.1.2.2.2.2.2.1, hd]; rfl)]
    rfl
  rw [begin_sign hP (by omega) (by omega), op, op, op]
  rcases h with h | h | h
  · rw [if_pos h]
  · rw [if_neg (by omega), if_pos h]
  · rw [if_neg (by omega), if_neg (by omega), if_pos h]
end ONE
