/-! Clauses in the class. -/
def ClC (P C : Nat → Int32) (a : Nat → Nat → Nat) (V : Nat → (Nat → Int32) → Int32) (sz k : Nat) : Prop := 12 ≤ a k 0 ∧ a k 0 ≤ 23 ∧ a k 1 ≤ 63 ∧ a k 2 ≤ 9 ∧ P k = nI (a k 0 + 32 * a k 1 + 2048 * a k 2) ∧ (a k 0 ≤ 14 → Cod C (a k 3) (a k 4) 22 (V k) ∧ C (a k 4) = nI 53 ∧ a k 4 < sz ∧ VOk (a k 0 - 12) (V k))
def CsI (B : Nat → Nat) (n T : Nat) (M : Mem) (a : Nat → Nat → Nat) (V : Nat → (Nat → Int32) → Int32) (c j sz : Nat) : Prop := He B n T M j sz ∧ (M.1 104 4 = nI c ∧ c ≤ 24) ∧ (∀ k, k < c → ClC (M.1 106) (M.1 105) a V sz k) ∧ ∀ s, s < 3 → (M.1 107 s = -1 ∧ ∀ k, k < c → a k 0 ≠ 12 + s) ∨ ∃ k, k < c ∧ a k 0 = 12 + s ∧ M.1 107 s = nI (a k 3) ∧ ∀ i, i < k → a i 0 ≠ 12 + s
theorem He.of2 {B : Nat → Nat} {n T j sz : Nat} {M M' : Mem} (h : He B n T M j sz) (e2 : M'.1 102 = M.1 102) (e1 : M'.1 103 1 = M.1 103 1) (e6 : M'.1 103 6 = M.1 103 6) (e7 : M'.1 103 7 = M.1 103 7) (e3 : M'.1 104 3 = M.1 104 3) : He B n T M' j sz := by
  obtain ⟨h1, h2, h3, h4, h5, h6, h7, h8, h9⟩ := h
  exact ⟨h1, h2, fun i hi => by rw [e2]; exact h3 i hi, h4, e1.trans h5, e6.trans h6, e7.trans h7, e3.trans h8, h9⟩
section CCL
variable {B : Nat → Nat} {n u T N : Nat} {M : Mem} {a a' : Nat → Nat → Nat} {V V' : Nat → (Nat → Int32) → Int32} {c j sz so : Nat}
theorem csi_new {M9 : Mem} {j9 sz9 : Nat} (h : CsI B n T M a V c j sz) (hc : c < 24) (hso : so < 12) (hfr : so < 3 → ∀ k, k < c → a k 0 ≠ 12 + so) (H9 : He B n T M9 j9 sz9) (h4 : M9.1 104 4 = nI (c + 1)) (hsz : sz ≤ sz9) (e6 : ∀ i, i < c → M9.1 106 i = M.1 106 i) (e5 : ∀ i, i < sz → M9.1 105 i = M.1 105 i) (e7 : ∀ s, s < 3 → M9.1 107 s = if s = so then nI (a' c 3) else M.1 107 s) (ea : ∀ k, k < c → a' k = a k ∧ V' k = V k) (ec : a' c 0 = 12 + so) (new : ClC (M9.1 106) (M9.1 105) a' V' sz9 c) : CsI B n T M9 a' V' (c + 1) j9 sz9 := by
  obtain ⟨hH, -, hk, hs⟩ := h
  refine ⟨H9, ⟨h4, by omega⟩, fun k hkc => ?_, fun s hs3 => ?_⟩
  · by_cases z : k = c
    · rw [z]; exact new
    · obtain ⟨k1, k2, k3, k4, k5, k6⟩ := hk k (by omega)
      unfold ClC
      rw [(ea k (by omega)).1, (ea k (by omega)).2]
      refine ⟨k1, k2, k3, k4, (e6 k (by omega)).trans k5, fun q => ?_⟩
      obtain ⟨q1, q2, q3, q4⟩ := k6 q
      exact ⟨q1.cong (fun i i1 i2 => e5 i (by omega)), (e5 _ q3).trans q2, by omega, q4⟩
  · rw [e7 s hs3]
    by_cases z : s = so
    · subst z
      right
      refine ⟨c, by omega, ec, if_pos rfl, fun i hi => ?_⟩
      rw [(ea i hi).1]
      exact hfr hs3 i hi
    · rw [if_neg z]
      rcases hs s hs3 with ⟨h1, h2⟩ | ⟨k, k1, k2, k3, k4⟩
      · left
        refine ⟨h1, fun k hk => ?_⟩
        by_cases y : k = c
        · rw [y, ec]; omega
        · rw [(ea k (by omega)).1]; exact h2 k (by omega)
      · right
        refine ⟨k, by omega, by rw [(ea k k1).1]; exact k2, by rw [(ea k k1).1]; exact k3, fun i hi => ?_⟩
        rw [(ea i (by omega)).1]
        exact k4 i hi
def adC (M : Mem) (c v : Nat) : Mem := si (si M 106 c (nI v)) 104 4 (nI (c + 1))
theorem add_cl {hd f g : Nat} (h4 : M.1 104 4 = nI c) (hc : c < 24) (h1 : hd < 32) (h2 : f < 64) (h3 : g < 1000) : f_p_addClause (nI hd) (nI f) (nI g) M = some (adC M c (hd + 32 * f + 2048 * g)) := by
  have wi : ∀ k, k < 24 → ¬ f_w_within (nI k) 0 23 M0 = 0 := by decide +kernel
  have e : nI hd ||| (nI f <<< (5 : Int32)) ||| (nI g <<< (11 : Int32)) = nI (hd + 32 * f + 2048 * g) := by
    rw [pk_shlN 5 5 (by decide) (by omega), pk_shlN 11 11 (by decide) (by omega), fa_or, fa_or, or_add (a := hd) (b := f) (i := 5) (by omega), or_add (a := hd + f * 2 ^ 5) (b := g) (i := 11) (by omega)]
    congr 1
    omega
  unfold f_p_addClause
  rw [show gi M 104 4 = nI c from h4, if_neg (show ¬ f_w_within (nI c) 0 23 M = 0 from wi c hc), if_pos (am_in_nI hc (by decide)), nI_clamp (by omega), e, Option.bind_some, show gi (si M 106 c (nI (hd + 32 * f + 2048 * g))) 104 4 = nI c from h4, nI_1, Option.bind_some]
  rfl
theorem adC_he {v : Nat} (h : He B n T M j sz) : He B n T (adC M c v) j sz := by
  unfold adC
  refine h.of2 ?_ ?_ ?_ ?_ ?_
  · rw [si_1, if_neg (by decide), si_1, if_neg (by decide)]
  · rw [si_at, if_neg (by omega), si_at, if_neg (by omega)]
  · rw [si_at, if_neg (by omega), si_at, if_neg (by omega)]
  · rw [si_at, if_neg (by omega), si_at, if_neg (by omega)]
  · rw [si_at, if_neg (by omega), si_at, if_neg (by omega)]
theorem adC_at {v k i : Nat} : (adC M c v).1 k i = if k = 104 ∧ i = 4 then nI (c + 1) else if k = 106 ∧ i = c then nI v else M.1 k i := by
  unfold adC
  rw [si_at, si_at]
theorem adM_at {k i : Nat} : (adM B n M j).1 k i = if k = 103 ∧ i = 7 then nI (kd B n (stk B n (j + 1))) else if k = 103 ∧ i = 6 then nI (j + 1) else M.1 k i := by
  unfold adM
  rw [si_at, si_at]
def tl9 (so : Nat) (q : Mem) : Option Mem := Option.bind (f_r_readRest (nI (12 + so)) q) fun q7 => Option.bind (f_r_expect (45 : Int32) q7) fun q8 => some q8
theorem Br.tl {f : Nat} {p : Int32} (h : Br M f p) : Bo f p (tl9 so M) := by
  unfold tl9
  obtain ⟨M1, e1, b1⟩ := h.rest (nI (12 + so))
  obtain ⟨M2, e2, b2⟩ := b1.exp 45 (by decide)
  exact ⟨M2, by rw [e1, Option.bind_some, e2]; rfl, b2⟩
theorem w_all : ∀ so, so < 12 → ¬ f_w_within (nI (12 + so)) 12 23 M0 = 0 ∧ (so < 3 → ¬ f_w_within (nI (12 + so)) 12 14 M0 = 0) ∧ (3 ≤ so → f_w_within (nI (12 + so)) 12 14 M0 = 0) ∧ (so < 3 → nI (12 + so) - (12 : Int32) = nI so) ∧ (nI (12 + so) = (12 : Int32) ↔ so = 0) ∧ ((14 : Int32) < nI (12 + so) ↔ 3 ≤ so) := by decide +kernel
/-- up to the body -/
def m5 (B : Nat → Nat) (n : Nat) (M : Mem) (j sz so : Nat) : Mem := if so < 3 then si (si (adM B n M j) 103 5 (nI (12 + so))) 107 so (nI sz) else si (adM B n M j) 103 5 (nI (12 + so))
theorem m5_at {k i : Nat} : (m5 B n M j sz so).1 k i = if k = 107 ∧ i = so ∧ so < 3 then nI sz else if k = 103 ∧ i = 5 then nI (12 + so) else (adM B n M j).1 k i := by
  unfold m5
  by_cases z : so < 3
  · rw [if_pos z, si_at, si_at]
    by_cases y : k = 107 ∧ i = so
    · rw [if_pos y, if_pos ⟨y.1, y.2, z⟩]
    · rw [if_neg y, if_neg (show ¬ (k = 107 ∧ i = so ∧ so < 3) from fun e => y ⟨e.1, e.2.1⟩)]
  · rw [if_neg z, si_at, if_neg (show ¬ (k = 107 ∧ i = so ∧ so < 3) from fun e => z e.2.2)]
theorem cs_pre (hT2 : ∀ j, kd B n (stk B n j) ≠ 48 → j < T) (h : CsI B n T M a V c j sz) (hk : kd B n (stk B n j) = 12 + so) (hso : so < 12) (hc : c < 24) (hfr : so < 3 → M.1 107 so = -1) : f_r_readClause N M = (if so = 0 then Option.bind (f_r_readEither N (f_r_readOne N 12) (m5 B n M j sz so)) (tl9 so) else if 3 ≤ so then tl9 so (m5 B n M j sz so) else Option.bind (f_r_readSum N (f_r_readOne N 12) (nI 0) (m5 B n M j sz so)) (tl9 so)) ∧ He B n T (m5 B n M j sz so) (j + 1) sz ∧ (m5 B n M j sz so).1 103 5 = nI (12 + so) ∧ (m5 B n M j sz so).1 104 4 = nI c := by
  obtain ⟨hH, ⟨h4, -⟩, -⟩ := h
  obtain ⟨w1, w2, w3, w4, w5, w6⟩ := w_all so hso
  obtain ⟨a1, a2⟩ := hH.adv (hT2 j (by omega))
  have t7 : gi M 103 7 = nI (12 + so) := hH.t7.trans (by rw [hk])
  have st : f_p_startOf_104 (nI (12 + so)) M = some (-1) := by
    unfold f_p_startOf_104
    by_cases z : so < 3
    · rw [if_neg (show ¬ f_w_within (nI (12 + so)) 12 14 M = 0 from w2 z), w4 z, if_pos (am_in_nI z (by decide)), nI_clamp (by omega)]
      exact congrArg some (hfr z)
    · rw [if_pos (show f_w_within (nI (12 + so)) 12 14 M = 0 from w3 (by omega))]
  have sh : f_p_startHere (nI (12 + so)) (si (adM B n M j) 103 5 (nI (12 + so))) = some (m5 B n M j sz so) := by
    unfold f_p_startHere m5
    by_cases z : so < 3
    · rw [if_neg (show ¬ f_w_within (nI (12 + so)) 12 14 (si (adM B n M j) 103 5 (nI (12 + so))) = 0 from w2 z), w4 z, if_pos (am_in_nI z (by decide)), nI_clamp (by omega), if_pos z, show gi (si (adM B n M j) 103 5 (nI (12 + so))) 104 3 = nI sz from a2.2.2.2.2.2.2.2.1, Option.bind_some]
    · rw [if_pos (show f_w_within (nI (12 + so)) 12 14 (si (adM B n M j) 103 5 (nI (12 + so))) = 0 from w3 (by omega)), if_neg z]
  refine ⟨?_, ?_, ?_, ?_⟩
  · unfold f_r_readClause
    rw [t7, if_neg (show ¬ f_w_within (nI (12 + so)) 12 23 M = 0 from w1), st, Option.bind_some, if_pos rfl, show gi M 104 4 = nI c from h4, if_pos (show nI c < (24 : Int32) from nI_lt (b := 24) hc (by decide)), a1, Option.bind_some, Option.bind_some, sh, Option.bind_some]
    by_cases z : so = 0
    · rw [if_pos z, if_pos (w5.mpr z)]
      rfl
    · rw [if_neg z, if_neg (fun e => z (w5.mp e))]
      by_cases y : 3 ≤ so
      · rw [if_pos y, if_pos (w6.mpr y)]
        rfl
      · rw [if_neg y, if_neg (fun e => y (w6.mp e))]
        rfl
  · refine a2.of2 ?_ ?_ ?_ ?_ ?_
    · funext i
      rw [m5_at, if_neg (by omega), if_neg (by omega)]
    · rw [m5_at, if_neg (by omega), if_neg (by omega)]
    · rw [m5_at, if_neg (by omega), if_neg (by omega)]
    · rw [m5_at, if_neg (by omega), if_neg (by omega)]
    · rw [m5_at, if_neg (by omega), if_neg (by omega)]
  · rw [m5_at, if_neg (by omega), if_pos ⟨rfl, rfl⟩]
  · rw [m5_at, if_neg (by omega), if_neg (by omega), adM_at, if_neg (by omega), if_neg (by omega)]
    exact h4
/-- behind the rest: the semicolon -/
theorem tl_end (hT2 : ∀ j, kd B n (stk B n j) ≠ 48 → j < T) {M6 M8 : Mem} {j8 sz8 : Nat} (e : f_r_readRest (nI (12 + so)) M6 = some M8) (H : He B n T M8 j8 sz8) : (kd B n (stk B n j8) = 45 → tl9 so M6 = some (adM B n M8 j8) ∧ He B n T (adM B n M8 j8) (j8 + 1) sz8) ∧ (kd B n (stk B n j8) ≠ 45 → Bo 1 (nI (stk B n j8)) (tl9 so M6)) := by
  obtain ⟨x1, x2⟩ := H.exp (k := 45) (by omega) hT2
  unfold tl9
  rw [e, Option.bind_some]
  refine ⟨fun k => ?_, fun k => ?_⟩
  · obtain ⟨y1, y2⟩ := x1 k
    have y1' : f_r_expect (45 : Int32) M8 = some (adM B n M8 j8) := y1
    rw [y1']
    exact ⟨rfl, y2⟩
  · obtain ⟨M9, y1, y2⟩ := x2 k
    have y1' : f_r_expect (45 : Int32) M8 = some M9 := y1
    exact ⟨M9, by rw [y1']; rfl, y2⟩
def StF (B : Nat → Nat) (n u T N : Nat) (a : Nat → Nat → Nat) (V : Nat → (Nat → Int32) → Int32) (c j : Nat) (o : Option Mem) : Prop := ∃ M' f jf, o = some M' ∧ Br M' f (nI (stk B n jf)) ∧ CFl B n u T N c j a V f jf
def StO (B : Nat → Nat) (n u T N : Nat) (a : Nat → Nat → Nat) (V : Nat → (Nat → Int32) → Int32) (c j : Nat) (o : Option Mem) : Prop := ∃ M' j' sz' a' V', o = some M' ∧ CsI B n T M' a' V' (c + 1) j' sz' ∧ COk B n u T N c j a V j' a' V'
/-- new data for clause c -/
def ext (a : Nat → Nat → Nat) (c : Nat) (b : Nat → Nat) : Nat → Nat → Nat := fun k => if k = c then b else a k
def ext5 (x0 x1 x2 x3 x4 : Nat) : Nat → Nat := fun i => if i = 0 then x0 else if i = 1 then x1 else if i = 2 then x2 else if i = 3 then x3 else x4
def extV (V : Nat → (Nat → Int32) → Int32) (c : Nat) (W : (Nat → Int32) → Int32) : Nat → (Nat → Int32) → Int32 := fun k => if k = c then W else V k
theorem ext_c {b : Nat → Nat} : ext a c b c = b := if_pos rfl
theorem ext_k {b : Nat → Nat} {k : Nat} (h : k < c) : ext a c b k = a k := if_neg (by omega)
theorem extV_c {W : (Nat → Int32) → Int32} : extV V c W c = W := if_pos rfl
theorem extV_k {W : (Nat → Int32) → Int32} {k : Nat} (h : k < c) : extV V c W k = V k := if_neg (by omega)
/-- laws -/
theorem st_law (hN : 4000 ≤ N) (hT2 : ∀ j, kd B n (stk B n j) ≠ 48 → j < T) (h : CsI B n T M a V c j sz) (hk : kd B n (stk B n j) = 12 + so) (hso : so < 3) (hc : c < 24) (hfr : ∀ k, k < c → a k 0 ≠ 12 + so) (H5 : He B n T (m5 B n M j sz so) (j + 1) sz) (h45 : (m5 B n M j sz so).1 104 4 = nI c) {o : Option Mem} {r : Nat} (hr : r ≤ 22) {OkP : Nat → ((Nat → Int32) → Int32) → Prop} {FlP : Nat → Nat → Prop} (hO : Oc B n so T r OkP FlP (m5 B n M j sz so) (j + 1) sz o) (hF : ∀ f jf, FlP f jf → BdFl B n u T N c so (j + 1) f jf) (hK : ∀ j' W a' V', OkP j' W → a' c 0 = 12 + so → V' c = W → BdOk B n u T N c so (j + 1) j' a' V') : StF B n u T N a V c j (Option.bind o (tl9 so)) ∨ StO B n u T N a V c j (Option.bind o (tl9 so)) := by
  have up := stk_up hT2 (j := j) (by omega)
  have s9 := h.1.2.2.2.2.2.2.2.2
  rcases hO with ⟨M6, f, jf, b1, b2, b3⟩ | ⟨M6, j', sz', W, b1, b2, b3, b4, b5, b6, b7, b8⟩
  · left
    obtain ⟨M7, e7, b7⟩ := b2.tl (so := so)
    exact ⟨M7, f, jf, by rw [b1, Option.bind_some]; exact e7, b7, cl_fl hN hT2 hk (by omega) hc (fun _ => hfr) b2.1 b2.2.1 (hF f jf b3)⟩
  · have s6 := b6.1
    have sj := b2.st j'
    obtain ⟨p1, p2⟩ := b2.put (k := 53) (v := 0) (by omega) (by omega) (by omega)
    have p1' : f_p_put (53 : Int32) (0 : Int32) M6 = some (puM M6 sz' 53 0) := p1
    have h46 : (puM M6 sz' 53 0).1 104 4 = nI c := by
      rw [puM_o (by omega) (by omega), b5.2.2.1 4 (by omega)]
      exact h45
    have ac := add_cl (M := puM M6 sz' 53 0) (hd := 12 + so) (f := 0) (g := 0) h46 hc (by omega) (by omega) (by omega)
    have rr : f_r_readRest (nI (12 + so)) M6 = some (adC (puM M6 sz' 53 0) c (12 + so)) := by
      unfold f_r_readRest
      have ac' : f_p_addClause (nI (12 + so)) (0 : Int32) (0 : Int32) (puM M6 sz' 53 0) = some (adC (puM M6 sz' 53 0) c (12 + so)) := ac
      rw [if_neg (fun e => by have := (w_all so (by omega)).2.2.2.2.2.mp e; omega), p1', Option.bind_some, ac']
      rfl
    have H8 : He B n T (adC (puM M6 sz' 53 0) c (12 + so)) j' (sz' + 1) := adC_he p2
    obtain ⟨t1, t2⟩ := tl_end hT2 rr H8
    have bk := hK j' W (ext a c (ext5 (12 + so) 0 0 sz sz')) (extV V c W) b8 (by rw [ext_c]; rfl) extV_c
    by_cases k45 : kd B n (stk B n j') = 45
    · right
      obtain ⟨y1, y2⟩ := t1 k45
      refine ⟨_, j' + 1, sz' + 1, ext a c (ext5 (12 + so) 0 0 sz sz'), extV V c W, by rw [b1, Option.bind_some]; exact y1, ?_, cl_ok hN hT2 hk (by omega) hc (fun _ => hfr) bk k45 (fun k hkc => ⟨ext_k hkc, extV_k hkc⟩) (by rw [ext_c]; rfl)⟩
      refine csi_new h hc (by omega) (fun _ => hfr) y2 ?_ (by omega) (fun i hi => ?_) (fun i hi => ?_) (fun s hs => ?_) (fun k hkc => ⟨ext_k hkc, extV_k hkc⟩) (by rw [ext_c]; rfl) ?_
      · rw [adM_at, if_neg (by omega), if_neg (by omega), adC_at, if_pos ⟨rfl, rfl⟩]
      · rw [adM_at, if_neg (by omega), if_neg (by omega), adC_at, if_neg (by omega), if_neg (by omega), puM_o (by omega) (by omega), b5.2.1 106 (by decide) (by decide) (by decide), m5_at, if_neg (by omega), if_neg (by omega), adM_at, if_neg (by omega), if_neg (by omega)]
      · rw [adM_at, if_neg (by omega), if_neg (by omega), adC_at, if_neg (by omega), if_neg (by omega), puM_o (by omega) (by omega), b5.1 i hi, m5_at, if_neg (by omega), if_neg (by omega), adM_at, if_neg (by omega), if_neg (by omega)]
      · rw [adM_at, if_neg (by omega), if_neg (by omega), adC_at, if_neg (by omega), if_neg (by omega), puM_o (by omega) (by omega), b5.2.1 107 (by decide) (by decide) (by decide), m5_at, ext_c]
        by_cases z : s = so
        · rw [if_pos ⟨rfl, z, hso⟩, if_pos z]
          rfl
        · rw [if_neg (by omega), if_neg (by omega), adM_at, if_neg (by omega), if_neg (by omega), if_neg z]
      · unfold ClC
        rw [ext_c, extV_c]
        have o5 : ∀ i, i < sz' + 1 → (adM B n (adC (puM M6 sz' 53 0) c (12 + so)) j').1 105 i = (puM M6 sz' 53 0).1 105 i := fun i hi => by
          rw [adM_at, if_neg (by omega), if_neg (by omega), adC_at, if_neg (by omega), if_neg (by omega)]
        refine ⟨by show 12 ≤ 12 + so; omega, by show 12 + so ≤ 23; omega, by show 0 ≤ 63; omega, by show 0 ≤ 9; omega, ?_, fun _ => ⟨?_, ?_, by show sz' < sz' + 1; omega, ?_⟩⟩
        · rw [adM_at, if_neg (by omega), if_neg (by omega), adC_at, if_neg (by omega), if_pos ⟨rfl, rfl⟩]
          rfl
        · show Cod _ sz sz' 22 W
          exact (b6.mono hr).cong (fun i i1 i2 => by rw [o5 i (by omega), puM_o (by omega) (by omega)])
        · show (adM B n (adC (puM M6 sz' 53 0) c (12 + so)) j').1 105 sz' = nI 53
          rw [o5 sz' (by omega)]
          exact puM_c
        · show VOk (12 + so - 12) W
          rw [show 12 + so - 12 = so by omega]
          exact b7
    · left
      obtain ⟨M9, y1, y2⟩ := t2 k45
      exact ⟨M9, 1, j', by rw [b1, Option.bind_some]; exact y1, y2, cl_semi hN hT2 hk (by omega) hc (fun _ => hfr) bk k45⟩
end CCL
