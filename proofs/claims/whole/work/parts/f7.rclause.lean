/-! Clauses in the reference. -/
def Rc (B : Nat → Nat) (n u : Nat) (M : Mem) (j w : Nat) : Prop := RTB M B n ∧ (M.1 129 8 = nI (stk B n j) ∧ M.1 129 7 = nI (te B n (stk B n j)) ∧ TkR M B n (stk B n j)) ∧ M.1 129 12 = nI (705 * u) ∧ M.1 129 13 = nI w
def ReC (D : Nat → Int32) (u : Nat) (a : Nat → Nat → Nat) (V : Nat → (Nat → Int32) → Int32) (w k : Nat) : Prop := D (705 * u + 1 + 4 * k) = nI (a k 0 - 12) ∧ (a k 0 = 15 → D (705 * u + 2 + 4 * k) = nI (a k 1) ∧ D (705 * u + 3 + 4 * k) = nI (a k 2)) ∧ (16 ≤ a k 0 → a k 0 ≠ 20 → a k 0 ≠ 23 → D (705 * u + 2 + 4 * k) = nI (a k 1)) ∧ (a k 0 ≤ 14 → ∃ ws we, D (705 * u + 2 + 4 * k) = nI ws ∧ D (705 * u + 3 + 4 * k) = nI we ∧ we ≤ w ∧ (a k 0 = 12 → RTr 0 D (705 * u + 97) ws we (V k)) ∧ (a k 0 ≠ 12 → RCo (a k 0 - 12) D (705 * u + 97) ws we (V k)))
theorem ReC.cong {D D' : Nat → Int32} {u w w' k c : Nat} {a : Nat → Nat → Nat} {V : Nat → (Nat → Int32) → Int32} (h : ReC D u a V w k) (hk : k < c) (hw : w ≤ w') (e : ∀ i, 705 * u + 1 ≤ i → (i < 705 * u + 1 + 4 * c ∨ (705 * u + 97 ≤ i ∧ i < 705 * u + 97 + 2 * w)) → D' i = D i) : ReC D' u a V w' k := by
  obtain ⟨h1, h2, h3, h4⟩ := h
  refine ⟨by rw [e _ (by omega) (by omega)]; exact h1, fun q => ?_, fun q1 q2 q3 => by rw [e _ (by omega) (by omega)]; exact h3 q1 q2 q3, fun q => ?_⟩
  · rw [e _ (by omega) (by omega), e _ (by omega) (by omega)]
    exact h2 q
  · obtain ⟨ws, we, g1, g2, g3, g4, g5⟩ := h4 q
    refine ⟨ws, we, by rw [e _ (by omega) (by omega)]; exact g1, by rw [e _ (by omega) (by omega)]; exact g2, by omega, fun z => (g4 z).cong (fun i i1 i2 => e i (by omega) (by omega)), fun z => (g5 z).cong (fun i i1 i2 => e i (by omega) (by omega))⟩
theorem ReC.eq {D : Nat → Int32} {u w k : Nat} {a a' : Nat → Nat → Nat} {V V' : Nat → (Nat → Int32) → Int32} (h : ReC D u a V w k) (e1 : a' k = a k) (e2 : V' k = V k) : ReC D u a' V' w k := by
  unfold ReC
  rw [e1, e2]
  exact h
def RsI (B : Nat → Nat) (n u T : Nat) (M : Mem) (a : Nat → Nat → Nat) (V : Nat → (Nat → Int32) → Int32) (c j w : Nat) : Prop := Rc B n u M j w ∧ (M.1 132 (705 * u) = nI c ∧ c ≤ 24 ∧ w ≤ j ∧ j ≤ T ∧ u < 4) ∧ (∃ o, o < 8 ∧ M.1 129 24 = nI o ∧ ∀ s, s < 3 → (o.testBit s = true ↔ ∃ k, k < c ∧ a k 0 = 12 + s)) ∧ ∀ k, k < c → ReC (M.1 132) u a V w k
def Kr (u : Nat) (M M' : Mem) : Prop := (∀ i, i < 705 * u → M'.1 132 i = M.1 132 i) ∧ (∀ k, k ≠ 129 → k ≠ 132 → (k < 134 ∨ 137 < k) → M'.1 k = M.1 k) ∧ ∀ i, i ≤ 6 → M'.1 129 i = M.1 129 i
theorem Kr.rf {u : Nat} {M : Mem} : Kr u M M := ⟨fun _ _ => rfl, fun _ _ _ _ => rfl, fun _ _ => rfl⟩
theorem Kr.tr {u : Nat} {M M1 M2 : Mem} (h : Kr u M M1) (g : Kr u M1 M2) : Kr u M M2 := ⟨fun i hi => (g.1 i hi).trans (h.1 i hi), fun k a b c => (g.2.1 k a b c).trans (h.2.1 k a b c), fun i hi => (g.2.2 i hi).trans (h.2.2 i hi)⟩
theorem NS.kr {u : Nat} {M M' : Mem} (h : NS M M') : Kr u M M' := ⟨fun i _ => h.1 _ _ (by omega), fun k a b c => by funext i; exact h.1 k i (by omega), fun i hi => h.1 _ _ (by omega)⟩
theorem Kr.f {u : Nat} {M : Mem} {i : Nat} (v : Int32) (hi : 7 ≤ i) : Kr u M (si M 129 i v) := ⟨fun j _ => by rw [si_at, if_neg (by omega)], fun k a b c => by rw [si_1, if_neg a], fun j hj => by rw [si_at, if_neg (by omega)]⟩
theorem Kr.t {u : Nat} {M : Mem} {i : Nat} (v : Int32) (hi : 705 * u ≤ i) : Kr u M (si M 132 i v) := ⟨fun j _ => by rw [si_at, if_neg (by omega)], fun k a b c => by rw [si_1, if_neg b], fun j hj => by rw [si_at, if_neg (by omega)]⟩
/-- what the body of clause c leaves as it was -/
def BK (u c w : Nat) (M M' : Mem) : Prop := (∀ i, (i < 705 * u + 2 + 4 * c ∨ (705 * u + 4 + 4 * c ≤ i ∧ i < 705 * u + 97 + 2 * w)) → M'.1 132 i = M.1 132 i) ∧ (∀ k, k ≠ 129 → k ≠ 132 → (k < 134 ∨ 137 < k) → M'.1 k = M.1 k) ∧ ∀ i, (i ≤ 6 ∨ i = 12 ∨ i = 14 ∨ i = 24) → M'.1 129 i = M.1 129 i
theorem BK.rf {u c w : Nat} {M : Mem} : BK u c w M M := ⟨fun _ _ => rfl, fun _ _ _ _ => rfl, fun _ _ => rfl⟩
theorem BK.tr {u c w : Nat} {M M1 M2 : Mem} (h : BK u c w M M1) (g : BK u c w M1 M2) : BK u c w M M2 := ⟨fun i hi => (g.1 i hi).trans (h.1 i hi), fun k a b d => (g.2.1 k a b d).trans (h.2.1 k a b d), fun i hi => (g.2.2 i hi).trans (h.2.2 i hi)⟩
theorem BK.kr {u c w : Nat} {M M' : Mem} (h : BK u c w M M') : Kr u M M' := ⟨fun i hi => h.1 i (by omega), h.2.1, fun i hi => h.2.2 i (by omega)⟩
theorem NS.bk {u c w : Nat} {M M' : Mem} (h : NS M M') : BK u c w M M' := ⟨fun i _ => h.1 _ _ (by omega), fun k a b c => by funext i; exact h.1 k i (by omega), fun i hi => h.1 _ _ (by omega)⟩
theorem BK.t {u c w i : Nat} {M : Mem} (v : Int32) (hi : i = 705 * u + 2 + 4 * c ∨ i = 705 * u + 3 + 4 * c) : BK u c w M (si M 132 i v) := ⟨fun j _ => by rw [si_at, if_neg (by omega)], fun k a b d => by rw [si_1, if_neg b], fun j hj => by rw [si_at, if_neg (by omega)]⟩
section RCLAUSE
variable {B : Nat → Nat} {n u T N : Nat} {M M' : Mem} {a a' : Nat → Nat → Nat} {V V' : Nat → (Nat → Int32) → Int32} {c j j' w so f jf : Nat}
theorem Rc.up (h : Rc B n u M j w) {w' : Nat} (e133 : M'.1 133 = M.1 133) (e2 : M'.2 129 11 = M.2 129 11) (e : ∀ i, i < 13 → M'.1 129 i = M.1 129 i) (h13 : M'.1 129 13 = nI w') : Rc B n u M' j w' := by
  obtain ⟨x, ⟨b1, b2, b3⟩, y, -⟩ := h
  exact ⟨⟨x.1, by rw [e 4 (by omega)]; exact x.2.1, fun i hi => ⟨(x.2.2 i hi).1, by rw [e133]; exact (x.2.2 i hi).2⟩⟩, ⟨by rw [e 8 (by omega)]; exact b1, by rw [e 7 (by omega)]; exact b2, b3.of (e 9 (by omega)) (e 10 (by omega)) e2⟩, by rw [e 12 (by omega)]; exact y, h13⟩
theorem Rc.fs (h : Rc B n u M j w) {i : Nat} (v : Int32) (hi : 14 ≤ i) : Rc B n u (si M 129 i v) j w := h.up (by rw [si_1, if_neg (by decide)]) rfl (fun k hk => by rw [si_at, if_neg (by omega)]) (by rw [si_at, if_neg (by omega)]; exact h.2.2.2)
theorem Rc.ts (h : Rc B n u M j w) {i : Nat} (v : Int32) : Rc B n u (si M 132 i v) j w := h.up (by rw [si_1, if_neg (by decide)]) rfl (fun k hk => by rw [si_at, if_neg (by omega)]) (by rw [si_at, if_neg (by omega)]; exact h.2.2.2)
theorem Rc.next (h : Rc B n u M j w) (hN : 4000 ≤ N) : ∃ M', f_m_nextToken N M = some M' ∧ Rc B n u M' (j + 1) w ∧ NS M M' := by
  obtain ⟨x, ⟨b1, b2, b3⟩, y, z⟩ := h
  obtain ⟨M', e1, e2, e3, e4, e5⟩ := r_next x hN (te_n (stk_n j)) b2
  exact ⟨M', e1, ⟨x.ns e2, ⟨e3, e4, e5⟩, by rw [e2.1 _ _ (by omega)]; exact y, by rw [e2.1 _ _ (by omega)]; exact z⟩, e2⟩
def BSt (B : Nat → Nat) (n u T : Nat) (M : Mem) (c so j w : Nat) : Prop := Rc B n u M j w ∧ (w ≤ j ∧ j ≤ T ∧ u < 4 ∧ c < 24) ∧ M.1 129 14 = nI so ∧ M.1 132 (705 * u + 1 + 4 * c) = nI so
def BdOk (B : Nat → Nat) (n u T N : Nat) (c so j j' : Nat) (a : Nat → Nat → Nat) (V : Nat → (Nat → Int32) → Int32) : Prop := ∀ (M : Mem) (w : Nat), BSt B n u T M c so j w → ∃ M' w', f_m_body N (nI so) (nI (705 * u + 1 + 4 * c)) M = some (0, M') ∧ Rc B n u M' j' w' ∧ w' + j ≤ w + j' ∧ w ≤ w' ∧ j' ≤ T ∧ ReC (M'.1 132) u a V w' c ∧ BK u c w M M'
def BdFl (B : Nat → Nat) (n u T N : Nat) (c so j f jf : Nat) : Prop := ∀ (M : Mem) (w : Nat), BSt B n u T M c so j w → ∃ M', f_m_body N (nI so) (nI (705 * u + 1 + 4 * c)) M = some (nI f, M') ∧ M'.1 129 8 = nI (stk B n jf) ∧ BK u c w M M'
def COk (B : Nat → Nat) (n u T N : Nat) (c j : Nat) (a : Nat → Nat → Nat) (V : Nat → (Nat → Int32) → Int32) (j' : Nat) (a' : Nat → Nat → Nat) (V' : Nat → (Nat → Int32) → Int32) : Prop := ∀ (M : Mem) (w : Nat), RsI B n u T M a V c j w → ∃ M' w', f_m_clause N M = some (0, M') ∧ RsI B n u T M' a' V' (c + 1) j' w' ∧ Kr u M M'
def CFl (B : Nat → Nat) (n u T N : Nat) (c j : Nat) (a : Nat → Nat → Nat) (V : Nat → (Nat → Int32) → Int32) (f jf : Nat) : Prop := ∀ (M : Mem) (w : Nat), RsI B n u T M a V c j w → ∃ M', f_m_clause N M = some (nI f, M') ∧ M'.1 129 8 = nI (stk B n jf) ∧ Kr u M M'
def clE (N : Nat) (q5 : Int32 × Mem) : Option (Int32 × Mem) :=
  (if q5.1 = (0 : Int32) then
    (if am_in (gi q5.2 129 12) 2820 = true then
      (if am_in (gi q5.2 129 12) 2820 = true then
        Option.bind (some (si q5.2 132 ((gi q5.2 129 12)).toNatClampNeg ((gi q5.2 132 ((gi q5.2 129 12)).toNatClampNeg) + (1 : Int32)))) fun q6 =>
        (if (gi q6 129 9) = (59 : Int32) then
          Option.bind (f_m_nextToken N q6) fun q7 =>
          some ((0 : Int32), q7)
        else
          some ((1 : Int32), q6))
      else none)
    else none)
  else
    some (q5.1, q5.2))
theorem on_all : ∀ o, o < 8 → ∀ so, so < 3 → (nI o ||| ((1 : Int32) <<< (nI so &&& 31)) = nI (o ||| (1 <<< so))) ∧ (f_m_has (nI o) (nI so) M0 = 0 ↔ o.testBit so = false) ∧ (o ||| (1 <<< so)) < 8 := by decide +kernel
theorem on_bit : ∀ o, o < 8 → ∀ so, so < 3 → ∀ s, s < 3 → ((o ||| (1 <<< so)).testBit s = true ↔ (o.testBit s = true ∨ s = so)) := by decide +kernel
/-- up to the body -/
theorem r_pre (hN : 4000 ≤ N) (hT2 : ∀ j, kd B n (stk B n j) ≠ 48 → j < T) (h : RsI B n u T M a V c j w) (hk : kd B n (stk B n j) = 12 + so) (hso : so < 12) (hc : c < 24) (hfr : so < 3 → ∀ k, k < c → a k 0 ≠ 12 + so) : ∃ M4 o, f_m_clause N M = (Option.bind (f_m_body N (nI so) (nI (705 * u + 1 + 4 * c)) M4) (clE N)) ∧ BSt B n u T M4 c so (j + 1) w ∧ Kr u M M4 ∧ (∀ i, 705 * u ≤ i → i ≠ 705 * u + 1 + 4 * c → M4.1 132 i = M.1 132 i) ∧ o < 8 ∧ M4.1 129 24 = nI o ∧ ∀ s, s < 3 → (o.testBit s = true ↔ (s = so ∨ ∃ k, k < c ∧ a k 0 = 12 + s)) := by
  obtain ⟨hR, ⟨b1, b2, b3, b4, b5⟩, ⟨o, o1, o2, o3⟩, re⟩ := h
  have tk := hR.2.1.2.2
  have jT := hT2 j (by omega)
  have sr : f_m_sortOf M = nI so := by rw [tk.sort, if_pos (by omega)]; congr 1; omega
  -- the rest, from any memory with the bits in
  have rest : ∀ M1 o', Rc B n u M1 j w → M1.1 132 = M.1 132 → Kr u M M1 → M1.1 129 24 = nI o' → ∃ M4, f_m_clause_65 N (nI so) (nI c) M1 = (Option.bind (f_m_body N (nI so) (nI (705 * u + 1 + 4 * c)) M4) (clE N)) ∧ BSt B n u T M4 c so (j + 1) w ∧ Kr u M M4 ∧ (∀ i, 705 * u ≤ i → i ≠ 705 * u + 1 + 4 * c → M4.1 132 i = M.1 132 i) ∧ M4.1 129 24 = nI o' := by
    intro M1 o' R1 e1 k1 h24
    obtain ⟨M3, n1, R3, s3⟩ := (R1.fs (i := 14) (nI so) (by omega)).next hN
    have z1 : (nI (705 * u) + (1 : Int32)) + ((4 : Int32) * nI c) = nI (705 * u + 1 + 4 * c) := by
      rw [nI_1, show (4 : Int32) = nI 4 from rfl, nI_mul, nI_add]
    refine ⟨si M3 132 (705 * u + 1 + 4 * c) (nI so), ?_, ⟨R3.ts _, by omega, ?_, ?_⟩, ((k1.tr (Kr.f _ (by omega))).tr s3.kr).tr (Kr.t _ (by omega)), ?_, ?_⟩
    · unfold f_m_clause_65
      rw [Option.bind_some, n1, Option.bind_some, show gi M3 129 12 = nI (705 * u) from R3.2.2.1, z1, if_pos (am_in_nI (by omega) (by decide)), nI_clamp (by omega), Option.bind_some]
      rfl
    · rw [si_at, if_neg (by omega), s3.1 _ _ (by omega), si_at, if_pos ⟨rfl, rfl⟩]
    · rw [si_at, if_pos ⟨rfl, rfl⟩]
    · intro i i1 i2
      rw [si_at, if_neg (by omega), s3.1 _ _ (by omega), si_at, if_neg (by omega), e1]
    · rw [si_at, if_neg (by omega), s3.1 _ _ (by omega), si_at, if_neg (by omega)]
      exact h24
  have c24 : ¬ nI c = (24 : Int32) := fun e => by have := (nI_eq (b := 24) (by omega) (by decide)).mp e; omega
  have c29 : ∀ y : Int32, f_m_clause_29 N y M = if (2 : Int32) < y then f_m_clause_65 N y (nI c) M else Option.bind (some (si M 129 24 ((gi M 129 24) ||| ((1 : Int32) <<< (y &&& 31))))) fun q1 => f_m_clause_65 N y (nI c) q1 := by
    intro y
    unfold f_m_clause_29
    rw [show gi M 129 12 = nI (705 * u) from hR.2.2.1, if_pos (am_in_nI (by omega) (by decide)), nI_clamp (by omega), show gi M 132 (705 * u) = nI c from b1, if_neg c24]
  unfold f_m_clause
  rw [sr, if_pos (show (0 : Int32) ≤ nI so from nI_le (a := 0) (by omega) (by omega)), c29]
  by_cases z : so < 3
  · obtain ⟨x1, x2, x3⟩ := on_all o o1 so z
    have nb : o.testBit so = false := by
      cases hb : o.testBit so with
      | false => rfl
      | true =>
        obtain ⟨k, k1, k2⟩ := (o3 so z).mp hb
        exact absurd k2 (hfr z k k1)
    have nh : f_m_has (gi M 129 24) (nI so) M = 0 := by
      rw [show gi M 129 24 = nI o from o2]
      exact x2.mpr nb
    rw [if_neg (show ¬ (2 : Int32) < nI so from nI_nlt (a := 2) (by omega) (by decide)), if_pos nh, if_neg (show ¬ (2 : Int32) < nI so from nI_nlt (a := 2) (by omega) (by decide)), Option.bind_some, show gi M 129 24 = nI o from o2, x1]
    obtain ⟨M4, r1, r2, r3, r4, r5⟩ := rest (si M 129 24 (nI (o ||| (1 <<< so)))) (o ||| (1 <<< so)) (hR.fs _ (by omega)) (by rw [si_1, if_neg (by decide)]) (Kr.f _ (by omega)) (by rw [si_at, if_pos ⟨rfl, rfl⟩])
    refine ⟨M4, o ||| (1 <<< so), r1, r2, r3, r4, x3, r5, fun s hs => ?_⟩
    rw [on_bit o o1 so z s hs, o3 s hs]
    exact Or.comm
  · rw [if_pos (show (2 : Int32) < nI so from nI_lt (a := 2) (by omega) (by omega)), if_pos (show (2 : Int32) < nI so from nI_lt (a := 2) (by omega) (by omega))]
    obtain ⟨M4, r1, r2, r3, r4, r5⟩ := rest M o hR rfl Kr.rf o2
    refine ⟨M4, o, r1, r2, r3, r4, o1, r5, fun s hs => ?_⟩
    rw [o3 s hs]
    constructor
    · exact fun e => Or.inr e
    · intro e
      rcases e with e | e
      · omega
      · exact e
theorem cl_fl (hN : 4000 ≤ N) (hT2 : ∀ j, kd B n (stk B n j) ≠ 48 → j < T) (hk : kd B n (stk B n j) = 12 + so) (hso : so < 12) (hc : c < 24) (hfr : so < 3 → ∀ k, k < c → a k 0 ≠ 12 + so) (hf1 : 1 ≤ f) (hf2 : f ≤ 7) (h : BdFl B n u T N c so (j + 1) f jf) : CFl B n u T N c j a V f jf := by
  intro M w hI
  obtain ⟨M4, o, e1, b4, k4, -⟩ := r_pre (N := N) hN hT2 hI hk hso hc hfr
  obtain ⟨M5, e5, a5, k5⟩ := h M4 w b4
  refine ⟨M5, ?_, a5, k4.tr k5.kr⟩
  rw [e1, e5, Option.bind_some]
  unfold clE
  rw [if_neg (show ¬ nI f = (0 : Int32) from fun e => by have := (nI_eq (b := 0) (by omega) (by decide)).mp e; omega)]
theorem cl_semi (hN : 4000 ≤ N) (hT2 : ∀ j, kd B n (stk B n j) ≠ 48 → j < T) (hk : kd B n (stk B n j) = 12 + so) (hso : so < 12) (hc : c < 24) (hfr : so < 3 → ∀ k, k < c → a k 0 ≠ 12 + so) (h : BdOk B n u T N c so (j + 1) j' a' V') (hj : kd B n (stk B n j') ≠ 45) : CFl B n u T N c j a V 1 j' := by
  intro M w hI
  obtain ⟨M4, o, e1, b4, k4, -⟩ := r_pre (N := N) hN hT2 hI hk hso hc hfr
  obtain ⟨M5, w', e5, R5, l1, l2, l3, re5, k5⟩ := h M4 w b4
  have b := hI.2.1
  refine ⟨si M5 132 (705 * u) (gi M5 132 (705 * u) + 1), ?_, ?_, (k4.tr k5.kr).tr (Kr.t _ (by omega))⟩
  · rw [e1, e5, Option.bind_some]
    unfold clE
    rw [if_pos rfl]
    show (if am_in (gi M5 129 12) 2820 = true then (if am_in (gi M5 129 12) 2820 = true then Option.bind (some (si M5 132 ((gi M5 129 12)).toNatClampNeg ((gi M5 132 ((gi M5 129 12)).toNatClampNeg) + (1 : Int32)))) fun q6 => (if (gi q6 129 9) = (59 : Int32) then Option.bind (f_m_nextToken N q6) fun q7 => some ((0 : Int32), q7) else some ((1 : Int32), q6)) else none) else none) = _
    rw [show gi M5 129 12 = nI (705 * u) from R5.2.2.1, if_pos (am_in_nI (by omega) (by decide)), if_pos (am_in_nI (by omega) (by decide)), nI_clamp (by omega), Option.bind_some, if_neg (show ¬ gi (si M5 132 (705 * u) (gi M5 132 (705 * u) + 1)) 129 9 = (59 : Int32) from fun e => hj ((R5.2.1.2.2.sg (k := 45) (by omega) (by omega)).mp e))]
    rfl
  · rw [si_at, if_neg (by omega)]
    exact R5.2.1.1
theorem cl_ok (hN : 4000 ≤ N) (hT2 : ∀ j, kd B n (stk B n j) ≠ 48 → j < T) (hk : kd B n (stk B n j) = 12 + so) (hso : so < 12) (hc : c < 24) (hfr : so < 3 → ∀ k, k < c → a k 0 ≠ 12 + so) (h : BdOk B n u T N c so (j + 1) j' a' V') (hj : kd B n (stk B n j') = 45) (ea : ∀ k, k < c → a' k = a k ∧ V' k = V k) (ec : a' c 0 = 12 + so) : COk B n u T N c j a V (j' + 1) a' V' := by
  intro M w hI
  obtain ⟨M4, o, e1, b4, k4, m4, o1, o2, o3⟩ := r_pre (N := N) hN hT2 hI hk hso hc hfr
  obtain ⟨M5, w', e5, R5, l1, l2, l3, re5, k5⟩ := h M4 w b4
  obtain ⟨hR, ⟨b1, b2, b3, b4', b5⟩, -, re⟩ := hI
  have jT := hT2 j' (by omega)
  have c5 : gi M5 132 (705 * u) = nI c := by
    show M5.1 132 (705 * u) = _
    rw [k5.1 _ (by omega), m4 _ (by omega) (by omega)]
    exact b1
  obtain ⟨M7, n1, R7, s7⟩ := (R5.ts (i := 705 * u) (nI (c + 1))).next hN
  have D7 : ∀ i, i ≠ 705 * u → M7.1 132 i = M5.1 132 i := fun i hi => by rw [s7.1 _ _ (by omega), si_at, if_neg (by omega)]
  refine ⟨M7, w', ?_, ⟨R7, ⟨?_, by omega, by omega, by omega, b5⟩, ⟨o, o1, ?_, fun s hs => ?_⟩, fun k hk' => ?_⟩, ((k4.tr k5.kr).tr (Kr.t _ (by omega))).tr s7.kr⟩
  · rw [e1, e5, Option.bind_some]
    unfold clE
    rw [if_pos rfl]
    show (if am_in (gi M5 129 12) 2820 = true then (if am_in (gi M5 129 12) 2820 = true then Option.bind (some (si M5 132 ((gi M5 129 12)).toNatClampNeg ((gi M5 132 ((gi M5 129 12)).toNatClampNeg) + (1 : Int32)))) fun q6 => (if (gi q6 129 9) = (59 : Int32) then Option.bind (f_m_nextToken N q6) fun q7 => some ((0 : Int32), q7) else some ((1 : Int32), q6)) else none) else none) = _
    rw [show gi M5 129 12 = nI (705 * u) from R5.2.2.1, if_pos (am_in_nI (by omega) (by decide)), if_pos (am_in_nI (by omega) (by decide)), nI_clamp (by omega), c5, nI_1, Option.bind_some, if_pos (show gi (si M5 132 (705 * u) (nI (c + 1))) 129 9 = (59 : Int32) from (R5.2.1.2.2.sg (k := 45) (by omega) (by omega)).mpr hj), n1]
    rfl
  · rw [s7.1 _ _ (by omega), si_at, if_pos ⟨rfl, rfl⟩]
  · rw [s7.1 _ _ (by omega), si_at, if_neg (by omega), k5.2.2 _ (by omega)]
    exact o2
  · rw [o3 s hs]
    constructor
    · intro e
      rcases e with e | ⟨k, k1, k2⟩
      · exact ⟨c, by omega, by rw [ec, e]⟩
      · exact ⟨k, by omega, by rw [(ea k k1).1]; exact k2⟩
    · rintro ⟨k, k1, k2⟩
      by_cases z : k = c
      · rw [z, ec] at k2
        exact Or.inl (by omega)
      · rw [(ea k (by omega)).1] at k2
        exact Or.inr ⟨k, by omega, k2⟩
  · by_cases z : k = c
    · rw [z]
      exact re5.cong (c := c + 1) (by omega) (Nat.le_refl _) (fun i i1 i2 => D7 i (by omega))
    · refine ((re k (by omega)).eq (ea k (by omega)).1 (ea k (by omega)).2).cong (c := c) (by omega) l2 (fun i i1 i2 => ?_)
      rw [D7 i (by omega), k5.1 i (by omega), m4 i (by omega) (by omega)]
/-- faults ahead of the body -/
theorem cl_bad (h : kd B n (stk B n j) < 12 ∨ 23 < kd B n (stk B n j)) : CFl B n u T N c j a V 1 j := by
  intro M w hI
  have tk := hI.1.2.1.2.2
  refine ⟨M, ?_, hI.1.2.1.1, Kr.rf⟩
  unfold f_m_clause
  rw [tk.sort, if_neg (show ¬ (12 ≤ kd B n (stk B n j) ∧ kd B n (stk B n j) < 24) by omega), if_neg (show ¬ (0 : Int32) ≤ -1 by decide)]
  rfl
theorem cl_twice (hk : kd B n (stk B n j) = 12 + so) (hso : so < 3) {k : Nat} (hkc : k < c) (hak : a k 0 = 12 + so) : CFl B n u T N c j a V 4 j := by
  intro M w hI
  obtain ⟨hR, -, ⟨o, o1, o2, o3⟩, -⟩ := hI
  have tk := hR.2.1.2.2
  refine ⟨M, ?_, hR.2.1.1, Kr.rf⟩
  have sr : f_m_sortOf M = nI so := by rw [tk.sort, if_pos (by omega)]; congr 1; omega
  have nb : o.testBit so = true := (o3 so hso).mpr ⟨k, hkc, hak⟩
  have nh : ¬ f_m_has (gi M 129 24) (nI so) M = 0 := by
    rw [show gi M 129 24 = nI o from o2]
    intro e
    have := (on_all o o1 so hso).2.1.mp e
    rw [nb] at this
    cases this
  unfold f_m_clause
  rw [sr, if_pos (show (0 : Int32) ≤ nI so from nI_le (a := 0) (by omega) (by omega)), if_neg (show ¬ (2 : Int32) < nI so from nI_nlt (a := 2) (by omega) (by decide)), if_neg nh]
  rfl
theorem cl_full (hk : kd B n (stk B n j) = 12 + so) (hso : so < 12) (hc : c = 24) (hfr : so < 3 → ∀ k, k < c → a k 0 ≠ 12 + so) : CFl B n u T N c j a V 6 j := by
  intro M w hI
  obtain ⟨hR, ⟨b1, b2, b3, b4, b5⟩, ⟨o, o1, o2, o3⟩, -⟩ := hI
  have tk := hR.2.1.2.2
  refine ⟨M, ?_, hR.2.1.1, Kr.rf⟩
  have sr : f_m_sortOf M = nI so := by rw [tk.sort, if_pos (by omega)]; congr 1; omega
  have c29 : f_m_clause_29 N (nI so) M = some (nI 6, M) := by
    unfold f_m_clause_29
    rw [show gi M 129 12 = nI (705 * u) from hR.2.2.1, if_pos (am_in_nI (by omega) (by decide)), nI_clamp (by omega), show gi M 132 (705 * u) = nI c from b1, if_pos (show nI c = (24 : Int32) by rw [hc]; rfl)]
    rfl
  unfold f_m_clause
  rw [sr, if_pos (show (0 : Int32) ≤ nI so from nI_le (a := 0) (by omega) (by omega)), c29]
  by_cases z : so < 3
  · have nh : f_m_has (gi M 129 24) (nI so) M = 0 := by
      rw [show gi M 129 24 = nI o from o2]
      refine (on_all o o1 so z).2.1.mpr ?_
      cases hb : o.testBit so with
      | false => rfl
      | true =>
        obtain ⟨k, k1, k2⟩ := (o3 so z).mp hb
        exact absurd k2 (hfr z k k1)
    rw [if_neg (show ¬ (2 : Int32) < nI so from nI_nlt (a := 2) (by omega) (by decide)), if_pos nh]
  · rw [if_pos (show (2 : Int32) < nI so from nI_lt (a := 2) (by omega) (by omega))]
end RCLAUSE
