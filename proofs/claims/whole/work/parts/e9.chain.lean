/-! The class reads a case's value; the chain of jumps. -/
section BODY
variable {B : Nat → Nat} {n u so T N : Nat} {x : Int32} {M : Mem} {j sz d r : Nat} {RO : Int32 → Mem → Option Mem}
theorem aim_k {a k v S t : Nat} (h3 : M.1 104 3 = nI S) (hS : S ≤ 300) (ha : a < S) (hw : M.1 105 a = nI (k + 64 * v)) (hk : k < 64) (hv : v < 1000000) (ht : t < 1000000) : f_p_aim (nI a) (nI t) M = some (si M 105 a (nI (k + 64 * t))) := by
  unfold f_p_aim
  rw [show gi M 104 3 = nI S from h3, if_neg (nI_pos (by omega)), if_neg (nI_ge ha (by omega)), if_neg (show ¬ (300 : Int32) ≤ nI a from nI_ge (b := 300) (by omega) (by decide)), if_pos (am_in_nI (by omega) (by decide)), if_pos (am_in_nI (by omega) (by decide)), nI_clamp (by omega), show gi M 105 a = nI (k + 64 * v) from hw, wd_op hk hv, wd_or hk ht, Option.bind_some]
theorem puM_o {k v c i : Nat} (h1 : ¬ (c = 105 ∧ i = sz)) (h2 : ¬ (c = 104 ∧ i = 3)) : (puM M sz k v).1 c i = M.1 c i := by
  unfold puM
  rw [si_at, if_neg (by omega), si_at, if_neg (by omega)]
theorem puM_3 {k v : Nat} : (puM M sz k v).1 104 3 = nI (sz + 1) := by
  unfold puM
  rw [si_at, if_pos ⟨rfl, rfl⟩]
theorem He.of {M' : Mem} (h : He B n T M j sz) (e : ∀ c, c ≠ 105 → M'.1 c = M.1 c) : He B n T M' j sz := by
  obtain ⟨h1, h2, h3, h4, h5, h6, h7, h8, h9⟩ := h
  exact ⟨h1, h2, fun i hi => by rw [e 102 (by decide)]; exact h3 i hi, h4, by rw [e 103 (by decide)]; exact h5, by rw [e 103 (by decide)]; exact h6, by rw [e 103 (by decide)]; exact h7, by rw [e 104 (by decide)]; exact h8, h9⟩
theorem CK.ai {a sz : Nat} {v : Int32} (h : sz ≤ a) : CK M (si M 105 a v) sz := by
  refine ⟨fun i hi => ?_, fun k a b c => ?_, fun i a => ?_, fun i a b c d => ?_, rfl⟩
  · rw [si_at, if_neg (by omega)]
  · rw [si_1, if_neg c]
  · rw [si_at, if_neg (by omega)]
  · rw [si_at, if_neg (by omega)]
theorem oc_body (hT2 : ∀ j, kd B n (stk B n j) ≠ 48 → j < T) (hRB : ∀ f p, RoB RO f p) (hS : OcR B n so T r (OkSu B n u so T N x (d + 1)) (FlLv B n u so T N x 5 (d + 1)) (f_r_readSum N RO (nI (d + 1)))) (h : He B n T M j sz) (h5 : M.1 103 5 = nI (12 + so)) (hs : sz + 4 ≤ stk B n j) {lo hi jp : Nat} (hlo : lo ≤ 9999) (hhi : hi ≤ 9999) (hjp : jp ≤ 300) {z : Int32} (hz : z + 1 = nI jp) : (∃ f jf v M', cs9 N RO (nI (d + 1)) z (nI lo) (nI hi) M = some (v, M') ∧ Br M' f (nI (stk B n jf)) ∧ LvFl B n u so T N x 5 j (d + 1) f jf) ∨ (∃ M' j3 b V, cs9 N RO (nI (d + 1)) z (nI lo) (nI hi) M = some (nI b, M') ∧ He B n T M' j3 (b + 1) ∧ b + 1 + stk B n j ≤ sz + 4 + stk B n j3 ∧ j < j3 ∧ CK M M' sz ∧ Cod (M'.1 105) (sz + 3) b r V ∧ VOk so V ∧ OkSu B n u so T N x (d + 1) j j3 V ∧ M'.1 105 sz = nI (28 + 64 * lo) ∧ M'.1 105 (sz + 1) = nI (54 + 64 * hi) ∧ M'.1 105 (sz + 2) = nI (55 + 64 * (b + 1)) ∧ M'.1 105 b = nI (51 + 64 * jp)) := by
  obtain ⟨p1, q1⟩ := h.put (k := 28) (v := lo) (by omega) (by omega) (by omega)
  obtain ⟨p2, q2⟩ := q1.put (k := 54) (v := hi) (by omega) (by omega) (by omega)
  obtain ⟨p3, q3⟩ := q2.put (k := 55) (v := 0) (by omega) (by omega) (by omega)
  have c3 : CK M (puM (puM (puM M sz 28 lo) (sz + 1) 54 hi) (sz + 1 + 1) 55 0) sz := (CK.pu.tr CK.pu (by omega)).tr CK.pu (by omega)
  have X : cs9 N RO (nI (d + 1)) z (nI lo) (nI hi) M = Option.bind (f_r_readSum N RO (nI (d + 1)) (puM (puM (puM M sz 28 lo) (sz + 1) 54 hi) (sz + 1 + 1) 55 0)) fun q12 => Option.bind (f_p_put (51 : Int32) (nI jp) q12) fun q13 => Option.bind (f_p_aim (nI (sz + 2)) (gi q13 104 3) q13) fun q14 => some ((gi q12 104 3), q14) := by
    unfold cs9
    have p1' : f_p_put (28 : Int32) (nI lo) M = some (puM M sz 28 lo) := p1
    have p2' : f_p_put (54 : Int32) (nI hi) (puM M sz 28 lo) = some (puM (puM M sz 28 lo) (sz + 1) 54 hi) := p2
    have p3' : f_p_put (55 : Int32) (0 : Int32) (puM (puM M sz 28 lo) (sz + 1) 54 hi) = some (puM (puM (puM M sz 28 lo) (sz + 1) 54 hi) (sz + 1 + 1) 55 0) := p3
    rw [p1', Option.bind_some, p2', Option.bind_some, p3', Option.bind_some, hz, show gi (puM (puM M sz 28 lo) (sz + 1) 54 hi) 104 3 = nI (sz + 2) from puM_3]
  rw [X]
  rcases hS _ j (sz + 1 + 1 + 1) q3 ((c3.2.2.2.1 5 (by omega) (by omega) (by omega) (by omega)).trans h5) with ⟨M', f, jf, b1, b2, b3⟩ | ⟨M', j', sz', V, b1, b2, b3, b4, b5, b6, b7, b8⟩
  · left
    obtain ⟨M2, e2, g2⟩ := b2.put 51 (nI jp)
    obtain ⟨M3, e3, g3⟩ := g2.aim (nI (sz + 2)) (gi M2 104 3)
    refine ⟨f, jf, gi M' 104 3, M3, ?_, g3, b3⟩
    rw [b1, Option.bind_some, e2, Option.bind_some, e3, Option.bind_some]
  · right
    have s1 := b6.1
    have sj := b2.st j'
    obtain ⟨p4, q4⟩ := b2.put (k := 51) (v := jp) (by omega) (by omega) (by omega)
    have p4' : f_p_put (51 : Int32) (nI jp) M' = some (puM M' sz' 51 jp) := p4
    have c4 : CK (puM (puM (puM M sz 28 lo) (sz + 1) 54 hi) (sz + 1 + 1) 55 0) (puM M' sz' 51 jp) (sz + 1 + 1 + 1) := b5.tr CK.pu (by omega)
    have w2 : (puM M' sz' 51 jp).1 105 (sz + 2) = nI (55 + 64 * 0) := by
      rw [c4.1 _ (by omega)]
      exact puM_c
    have s9 := q4.2.2.2.2.2.2.2.2
    have am := aim_k (M := puM M' sz' 51 jp) (a := sz + 2) (k := 55) (v := 0) (t := sz' + 1) puM_3 (by omega) (by omega) w2 (by omega) (by omega) (by omega)
    have c5 : CK (puM M' sz' 51 jp) (si (puM M' sz' 51 jp) 105 (sz + 2) (nI (55 + 64 * (sz' + 1)))) sz := CK.ai (by omega)
    refine ⟨si (puM M' sz' 51 jp) 105 (sz + 2) (nI (55 + 64 * (sz' + 1))), j', sz', V, ?_, q4.of (fun c hc => by rw [si_1, if_neg hc]), by omega, b4, (c3.tr c4 (by omega)).tr c5 (by omega), b6.cong (fun i i1 i2 => ?_), b7, b8, ?_, ?_, ?_, ?_⟩
    · rw [b1, Option.bind_some, p4', Option.bind_some, show gi (puM M' sz' 51 jp) 104 3 = nI (sz' + 1) from puM_3, am, Option.bind_some, show gi M' 104 3 = nI sz' from b2.2.2.2.2.2.2.2.1]
    · rw [si_at, if_neg (by omega), puM_o (by omega) (by omega)]
    · rw [si_at, if_neg (by omega), c4.1 _ (by omega), puM_o (by omega) (by omega), puM_o (by omega) (by omega)]
      exact puM_c
    · rw [si_at, if_neg (by omega), c4.1 _ (by omega), puM_o (by omega) (by omega)]
      exact puM_c
    · rw [si_at, if_pos ⟨rfl, rfl⟩]
    · rw [si_at, if_neg (by omega)]
      exact puM_c
end BODY
/-- cases in code: case i begins at cs i -/
def Ca1 (C : Nat → Int32) (r : Nat) (cs lo hi : Nat → Nat) (Vs : Nat → (Nat → Int32) → Int32) (jv : Nat → Nat) (i : Nat) : Prop := Cod C (cs i + 3) (cs (i + 1) - 1) r (Vs (i + 1)) ∧ cs i + 4 < cs (i + 1) ∧ lo i ≤ 9999 ∧ hi i ≤ 9999 ∧ C (cs i) = nI (28 + 64 * lo i) ∧ C (cs i + 1) = nI (54 + 64 * hi i) ∧ C (cs i + 2) = nI (55 + 64 * cs (i + 1)) ∧ C (cs (i + 1) - 1) = nI (51 + 64 * jv i)
def CaI (C : Nat → Int32) (r cnt : Nat) (cs lo hi : Nat → Nat) (Vs : Nat → (Nat → Int32) → Int32) (jv : Nat → Nat) : Prop := ∀ i, i < cnt → Ca1 C r cs lo hi Vs jv i
section CHAIN
variable {C C' : Nat → Int32} {r cnt : Nat} {cs lo hi : Nat → Nat} {Vs : Nat → (Nat → Int32) → Int32} {jv : Nat → Nat}
theorem CaI.le (h : CaI C r cnt cs lo hi Vs jv) : ∀ k, k ≤ cnt → ∀ i, i ≤ k → cs i + 5 * (k - i) ≤ cs k := by
  intro k
  induction k with
  | zero => intro h1 i h2; have : i = 0 := by omega
            subst this; omega
  | succ k ih =>
    intro h1 i h2
    by_cases z : i = k + 1
    · subst z; omega
    · have a := ih (by omega) i (by omega)
      have b := (h k (by omega)).2.1
      omega
theorem CaI.cong (h : CaI C r cnt cs lo hi Vs jv) (e : ∀ q, q < cs cnt → C' q = C q) : CaI C' r cnt cs lo hi Vs jv := by
  intro i hi
  have l := h.le cnt (Nat.le_refl _) (i + 1) (by omega)
  obtain ⟨h1, h2, h3, h4, h5, h6, h7, h8⟩ := h i hi
  exact ⟨h1.cong (fun q q1 q2 => e q (by omega)), h2, h3, h4, by rw [e _ (by omega)]; exact h5, by rw [e _ (by omega)]; exact h6, by rw [e _ (by omega)]; exact h7, by rw [e _ (by omega)]; exact h8⟩
theorem CaI.step {cs' lo' hi' jv' : Nat → Nat} {Vs' : Nat → (Nat → Int32) → Int32} (h : CaI C r cnt cs lo hi Vs jv) (e1 : ∀ i, i ≤ cnt → cs' i = cs i) (e2 : ∀ i, i < cnt → lo' i = lo i ∧ hi' i = hi i ∧ jv' i = jv i) (e3 : ∀ i, i ≤ cnt → Vs' i = Vs i) (new : Ca1 C r cs' lo' hi' Vs' jv' cnt) : CaI C r (cnt + 1) cs' lo' hi' Vs' jv' := by
  intro i hi
  by_cases z : i = cnt
  · rw [z]; exact new
  · have a := h i (by omega)
    obtain ⟨x1, x2, x3⟩ := e2 i (by omega)
    unfold Ca1
    rw [e1 i (by omega), e1 (i + 1) (by omega), x1, x2, x3, e3 (i + 1) (by omega)]
    exact a
/-- the chain, as it runs -/
theorem chc {S : Nat} (h : CaI C r cnt cs lo hi Vs (fun _ => S)) (he : Cod C (cs cnt + 1) S r (Vs (cnt + 1))) (hd : C (cs cnt) = nI 52) (hS : S < 1000) : ∀ k i, i + k = cnt → ChC C (cs i) S r (fun e x => Vs (1 + pik lo hi x cnt k) e) := by
  intro k
  induction k with
  | zero =>
    intro i hi
    have e : i = cnt := by omega
    subst e
    have := ChC.els he hd
    rw [Nat.add_comm i 1] at this
    exact this
  | succ k ih =>
    intro i hi'
    have g := ih (i + 1) (by omega)
    obtain ⟨h1, h2, h3, h4, h5, h6, h7, h8⟩ := h i (by omega)
    have l := h.le cnt (Nat.le_refl _) (i + 1) (by omega)
    have sb := he.1
    have b1 : cs (i + 1) - 1 + 1 = cs (i + 1) := by omega
    have := ChC.cas (a := cs i) (b := cs (i + 1) - 1) (e := S) (lo := lo i) (hi := hi i) h1 (by rw [b1]; exact g) (by omega) (by omega) (by omega) hS h5 h6 (by rw [b1]; exact h7) h8
    have f : (fun (e : Nat → Int32) (x : Int32) => Vs (1 + pik lo hi x cnt (k + 1)) e) = (fun n x => if f_w_within x (nI (lo i)) (nI (hi i)) M0 = 0 then Vs (1 + pik lo hi x cnt k) n else Vs (i + 1) n) := by
      funext e x
      have pe : pik lo hi x cnt (k + 1) = if f_w_within x (nI (lo i)) (nI (hi i)) M0 = 0 then pik lo hi x cnt k else i := by
        show (if f_w_within x (nI (lo (cnt - (k + 1)))) (nI (hi (cnt - (k + 1)))) M0 = 0 then pik lo hi x cnt k else cnt - (k + 1)) = _
        rw [show cnt - (k + 1) = i by omega]
      rw [pe]
      by_cases z : f_w_within x (nI (lo i)) (nI (hi i)) M0 = 0
      · rw [if_pos z, if_pos z]
      · rw [if_neg z, if_neg z, Nat.add_comm 1 i]
    rw [f]
    exact this
theorem VOk.cho {so : Nat} (h : ∀ i, i ≤ cnt + 1 → VOk so (Vs i)) : VOk so (fun e => Vs (1 + pik lo hi (Vs 0 e) cnt cnt) e) := by
  refine ⟨fun e he => ?_, fun e e' he => ?_⟩
  · have := pik_le lo hi (Vs 0 e) cnt cnt
    exact (h _ (by omega)).1 e he
  · show Vs (1 + pik lo hi (Vs 0 e) cnt cnt) e = Vs (1 + pik lo hi (Vs 0 e') cnt cnt) e'
    have := pik_le lo hi (Vs 0 e') cnt cnt
    rw [(h 0 (by omega)).2 e e' he]
    exact (h _ (by omega)).2 e e' he
/-- the jumps get their aim -/
theorem c_aim {N S : Nat} {RO : Int32 → Mem → Option Mem} (hS : S ≤ 300) : ∀ (i m t : Nat) (M : Mem), i + t ≤ 6 → i < m → M.1 104 3 = nI S → CaI (M.1 105) r i cs lo hi Vs (fun i => if i = 0 then 0 else cs i) → cs i ≤ S → ∃ M', f_r_readChoose_99 N RO m (if i = 0 then -1 else nI (cs i - 1)) (nI t) M = some M' ∧ CaI (M'.1 105) r i cs lo hi Vs (fun _ => S) ∧ (∀ q, q < cs 0 ∨ cs i ≤ q → M'.1 105 q = M.1 105 q) ∧ (∀ c, c ≠ 105 → M'.1 c = M.1 c) ∧ M'.2 = M.2 := by
  intro i
  induction i with
  | zero =>
    intro m t M h1 h2 h3 h4 h5
    obtain ⟨m', rfl⟩ : ∃ m', m = m' + 1 := ⟨m - 1, by omega⟩
    refine ⟨M, ?_, fun i hi => by omega, fun _ _ => rfl, fun _ _ => rfl, rfl⟩
    rw [if_pos rfl, f_r_readChoose_99, if_pos (show (-1 : Int32) = -1 from rfl)]
    split <;> rfl
  | succ i ih =>
    intro m t M h1 h2 h3 h4 h5
    obtain ⟨m', rfl⟩ : ∃ m', m = m' + 1 := ⟨m - 1, by omega⟩
    have l := h4.le (i + 1) (Nat.le_refl _)
    have l0 := l 0 (by omega)
    have li := l i (by omega)
    obtain ⟨a1, a2, a3, a4, a5, a6, a7, a8⟩ := h4 i (by omega)
    have jl : (if i = 0 then 0 else cs i) < 1000000 := by split <;> omega
    have am := aim_k (M := M) (a := cs (i + 1) - 1) (k := 51) (v := if i = 0 then 0 else cs i) (t := S) h3 hS (by omega) a8 (by omega) jl (by omega)
    have ar : f_p_argumentAt_104 (nI (cs (i + 1) - 1)) M = some (nI (if i = 0 then 0 else cs i)) := by
      unfold f_p_argumentAt_104
      rw [show gi M 104 3 = nI S from h3, if_neg (nI_pos (by omega)), if_neg (nI_ge (by omega) (by omega)), if_neg (show ¬ (300 : Int32) ≤ nI (cs (i + 1) - 1) from nI_ge (b := 300) (by omega) (by decide)), if_pos (am_in_nI (by omega) (by decide)), nI_clamp (by omega), show gi M 105 (cs (i + 1) - 1) = nI (51 + 64 * (if i = 0 then 0 else cs i)) from a8, wd_arg (by omega) jl]
    have nx : nI (if i = 0 then 0 else cs i) - 1 = if i = 0 then -1 else nI (cs i - 1) := by
      by_cases z : i = 0
      · rw [if_pos z, if_pos z]; decide
      · rw [if_neg z, if_neg z]
        have := h4.le (i + 1) (Nat.le_refl _) 0 (by omega)
        have z2 := h4.le i (by omega) 0 (by omega)
        rw [show (1 : Int32) = nI 1 from rfl, nI_sub (by omega)]
    have o : ∀ q, q ≠ cs (i + 1) - 1 → (si M 105 (cs (i + 1) - 1) (nI (51 + 64 * S))).1 105 q = M.1 105 q := fun q hq => by rw [si_at, if_neg (by omega)]
    have I1 : CaI ((si M 105 (cs (i + 1) - 1) (nI (51 + 64 * S))).1 105) r i cs lo hi Vs (fun i => if i = 0 then 0 else cs i) := CaI.cong (fun k hk => h4 k (by omega)) (fun q hq => o q (by omega))
    obtain ⟨M', e1, e2, e3, e4, e5⟩ := ih m' (t + 1) (si M 105 (cs (i + 1) - 1) (nI (51 + 64 * S))) (by omega) (by omega) (by rw [si_at, if_neg (by omega)]; exact h3) I1 (by omega)
    refine ⟨M', ?_, ?_, ?_, ?_, e5⟩
    · rw [if_neg (by omega), f_r_readChoose_99, if_neg (show ¬ (6 : Int32) ≤ nI t from nI_ge (b := 6) (by omega) (by decide)), if_neg (nI_ne_m1 (by omega)), ar, Option.bind_some, show gi M 104 3 = nI S from h3, am, Option.bind_some, nx, nI_1]
      exact e1
    · refine CaI.step e2 (fun _ _ => rfl) (fun _ _ => ⟨rfl, rfl, rfl⟩) (fun _ _ => rfl) ?_
      have g : ∀ q, cs i ≤ q → q ≠ cs (i + 1) - 1 → M'.1 105 q = M.1 105 q := fun q q1 q2 => (e3 q (Or.inr q1)).trans (o q q2)
      refine ⟨a1.cong (fun q q1 q2 => g q (by omega) (by omega)), a2, a3, a4, by rw [g _ (by omega) (by omega)]; exact a5, by rw [g _ (by omega) (by omega)]; exact a6, by rw [g _ (by omega) (by omega)]; exact a7, ?_⟩
      rw [e3 _ (by omega), si_at, if_pos ⟨rfl, rfl⟩]
    · intro q hq
      rw [e3 q (by omega)]
      exact o q (by omega)
    · intro c hc
      rw [e4 c hc, si_1, if_neg hc]
end CHAIN
