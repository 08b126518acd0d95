/-! What a stretch of the class's code does. -/
def Sk (M M' : Mem) (p : Nat) (v : Int32) : Prop := M'.1 108 2 = nI (p + 1) ∧ M'.1 110 p = v ∧ (∀ i, i < p → M'.1 110 i = M.1 110 i) ∧ (∀ k, k ≠ 108 → k ≠ 110 → M'.1 k = M.1 k) ∧ M'.2 = M.2
def Cod (C : Nat → Int32) (a b r : Nat) (V : (Nat → Int32) → Int32) : Prop := a < b ∧ ∀ (N u S p x m : Nat) (M : Mem), 113 ≤ u → M.1 u 3 = nI S → S ≤ 300 → b ≤ S → (∀ i, a ≤ i → i < b → M.1 (u + 1) i = C i) → M.1 108 2 = nI p → p + r ≤ 64 → x ≤ a → b < m + a → ∃ M' x' m', f_l_run_10 N u m (nI a) (nI x) M = f_l_run_10 N u m' (nI b) (nI x') M' ∧ x' ≤ b ∧ m + a ≤ m' + b ∧ Sk M M' p (V (M.1 109))
/-- with a value on top, which it takes -/
def ChC (C : Nat → Int32) (a b r : Nat) (W : (Nat → Int32) → Int32 → Int32) : Prop := a < b ∧ ∀ (N u S p x m : Nat) (M : Mem), 113 ≤ u → M.1 u 3 = nI S → S ≤ 300 → b ≤ S → (∀ i, a ≤ i → i < b → M.1 (u + 1) i = C i) → M.1 108 2 = nI (p + 1) → p + 1 ≤ 64 → p + r ≤ 64 → x ≤ a → b < m + a → ∃ M' x' m', f_l_run_10 N u m (nI a) (nI x) M = f_l_run_10 N u m' (nI b) (nI x') M' ∧ x' ≤ b ∧ m + a ≤ m' + b ∧ Sk M M' p (W (M.1 109) (M.1 110 p))
theorem wd_or {k v : Nat} (hk : k < 64) (hv : v < 1000000) : nI k ||| nI v <<< (6 : Int32) = nI (k + 64 * v) := by
  rw [pk_shlN 6 6 (by decide) (by omega), fa_or, or_add (a := k) (b := v) (i := 6) (by omega)]
  congr 1
  omega
theorem wd_op {k v : Nat} (hk : k < 64) (hv : v < 1000000) : nI (k + 64 * v) &&& (63 : Int32) = nI k := by
  rw [show (63 : Int32) = nI 63 from rfl, fa_and, show (63 : Nat) = 2 ^ 6 - 1 from rfl, Nat.and_two_pow_sub_one_eq_mod]
  congr 1
  omega
theorem wd_arg {k v : Nat} (hk : k < 64) (hv : v < 1000000) : nI (k + 64 * v) >>> (6 : Int32) = nI v := by
  rw [pk_shrN (by omega) 6 6 (by decide)]
  congr 1
  omega
theorem cl_push {M : Mem} {p : Nat} (h : M.1 108 2 = nI p) (hp : p < 64) (v : Int32) : f_l_push v M = some (si (si M 110 p v) 108 2 (nI (p + 1))) := by
  unfold f_l_push
  rw [show gi M 108 2 = nI p from h, if_neg (nI_pos (by omega)), if_neg (show ¬ (64 : Int32) ≤ nI p from nI_ge (b := 64) hp (by decide)), if_pos (am_in_nI hp (by decide)), nI_clamp (by omega), Option.bind_some, show gi (si M 110 p v) 108 2 = nI p from h, nI_1, Option.bind_some]
theorem cl_pop {M : Mem} {p : Nat} (h : M.1 108 2 = nI (p + 1)) (hp : p < 64) : f_l_pop M = some (M.1 110 p, si M 108 2 (nI p)) := by
  unfold f_l_pop
  have e : nI (p + 1) - (1 : Int32) = nI p := by
    rw [show (1 : Int32) = nI 1 from rfl, nI_sub (by omega)]
    congr 1
  rw [show gi M 108 2 = nI (p + 1) from h, if_neg (show ¬ nI (p + 1) < (1 : Int32) from nI_nlt (b := 1) (by omega) (by omega)), if_pos (show nI (p + 1) ≤ (64 : Int32) from nI_le (b := 64) (by omega) (by decide)), e, Option.bind_some, show gi (si M 108 2 (nI p)) 108 2 = nI p by show (si M 108 2 (nI p)).1 108 2 = _; rw [si_at, if_pos ⟨rfl, rfl⟩], if_pos (am_in_nI hp (by decide)), nI_clamp (by omega)]
  rfl
section CODE
variable {N u S a x k v : Nat} {M : Mem}
theorem op_at (h3 : M.1 u 3 = nI S) (hS : S ≤ 300) (ha : a < S) (hw : M.1 (u + 1) a = nI (k + 64 * v)) (hk : k < 64) (hv : v < 1000000) : f_p_opAt u (nI a) M = some (nI k) ∧ f_p_argumentAt_a u (nI a) M = some (nI v) := by
  unfold f_p_opAt f_p_argumentAt_a
  rw [show gi M u 3 = nI S from h3, if_neg (nI_pos (by omega)), if_neg (nI_ge ha (by omega)), if_neg (show ¬ (300 : Int32) ≤ nI a from nI_ge (b := 300) (by omega) (by decide)), if_pos (am_in_nI (by omega) (by decide)), nI_clamp (by omega), show gi M (u + 1) a = nI (k + 64 * v) from hw, wd_op hk hv, wd_arg hk hv, if_neg (nI_pos (by omega)), if_neg (nI_ge ha (by omega)), if_neg (show ¬ (300 : Int32) ≤ nI a from nI_ge (b := 300) (by omega) (by decide)), if_pos (am_in_nI (by omega) (by decide))]
  exact ⟨rfl, rfl⟩
/-- one step -/
theorem run1 (h3 : M.1 u 3 = nI S) (hS : S ≤ 300) (ha : a < S) (hx : x ≤ a) (hw : M.1 (u + 1) a = nI (k + 64 * v)) (hk : k < 64) (hv : v < 1000000) (n53 : k ≠ 53) (n51 : k ≠ 51) (n28 : k ≠ 28) (m : Nat) : f_l_run_10 N u (m + 1) (nI a) (nI x) M = Option.bind (f_l_work (nI k) (nI v) M) fun q => f_l_run_10 N u m (nI (a + 1)) (nI (x + 1)) q := by
  obtain ⟨o1, o2⟩ := op_at h3 hS ha hw hk hv
  rw [f_l_run_10, if_neg (show ¬ (300 : Int32) ≤ nI x from nI_ge (b := 300) (by omega) (by decide)), o1, o2, Option.bind_some, if_neg (show ¬ nI k = (53 : Int32) from fun e => n53 ((nI_eq (b := 53) (by omega) (by decide)).mp e)), Option.bind_some, if_neg (show ¬ nI k = (51 : Int32) from fun e => n51 ((nI_eq (b := 51) (by omega) (by decide)).mp e)), if_neg (show ¬ nI k = (28 : Int32) from fun e => n28 ((nI_eq (b := 28) (by omega) (by decide)).mp e)), Option.bind_some, nI_1, nI_1]
theorem run51 (h3 : M.1 u 3 = nI S) (hS : S ≤ 300) (ha : a < S) (hx : x ≤ a) (hw : M.1 (u + 1) a = nI (51 + 64 * v)) (hv : v < 1000000) (m : Nat) : f_l_run_10 N u (m + 1) (nI a) (nI x) M = f_l_run_10 N u m (nI v) (nI (x + 1)) M := by
  obtain ⟨o1, o2⟩ := op_at h3 hS ha hw (by decide) hv
  rw [f_l_run_10, if_neg (show ¬ (300 : Int32) ≤ nI x from nI_ge (b := 300) (by omega) (by decide)), o1, o2, Option.bind_some, if_neg (show ¬ nI 51 = (53 : Int32) by decide), Option.bind_some, if_pos (show nI 51 = (51 : Int32) from rfl), Option.bind_some, nI_1]
theorem w_lo : ∀ k, k < 64 → ((f_w_within (nI k) 0 11 M0 = 0) ↔ 12 ≤ k) := by decide +kernel
theorem Sk.push {p : Nat} (v : Int32) : Sk M (si (si M 110 p v) 108 2 (nI (p + 1))) p v := by
  refine ⟨?_, ?_, ?_, ?_, rfl⟩
  · rw [si_at, if_pos ⟨rfl, rfl⟩]
  · rw [si_at, if_neg (by omega), si_at, if_pos ⟨rfl, rfl⟩]
  · intro i hi
    rw [si_at, if_neg (by omega), si_at, if_neg (by omega)]
  · intro k h1 h2
    rw [si_1, if_neg h1, si_1, if_neg h2]
/-- pop, then push -/
theorem Sk.pp {M1 : Mem} {p : Nat} {v : Int32} (h : Sk M M1 p v) (w : Int32) : Sk M (si (si (si M1 108 2 (nI p)) 110 p w) 108 2 (nI (p + 1))) p w := by
  obtain ⟨h1, h2, h3, h4, h5⟩ := h
  refine ⟨?_, ?_, ?_, ?_, h5⟩
  · rw [si_at, if_pos ⟨rfl, rfl⟩]
  · rw [si_at, if_neg (by omega), si_at, if_pos ⟨rfl, rfl⟩]
  · intro i hi
    rw [si_at, if_neg (by omega), si_at, if_neg (by omega), si_at, if_neg (by omega)]
    exact h3 i hi
  · intro k g1 g2
    rw [si_1, if_neg g1, si_1, if_neg g2, si_1, if_neg g1]
    exact h4 k g1 g2
theorem Cod.num {C : Nat → Int32} (hv : v < 1000000) (hC : C a = nI (33 + 64 * v)) : Cod C a (a + 1) 1 (fun _ => nI v) := by
  refine ⟨by omega, fun N u S p x m M hu h3 hS hb hc h2 hp hx hm => ?_⟩
  obtain ⟨m', rfl⟩ : ∃ m', m = m' + 1 := ⟨m - 1, by omega⟩
  refine ⟨_, x + 1, m', ?_, by omega, by omega, Sk.push (M := M) (p := p) (nI v)⟩
  rw [run1 h3 hS (by omega) hx (by rw [hc a (by omega) (by omega), hC]) (by decide) hv (by decide) (by decide) (by decide)]
  unfold f_l_work
  rw [if_pos (show f_w_within (nI 33) 0 11 M = 0 from rfl), if_pos (show nI 33 = (33 : Int32) from rfl), cl_push h2 (by omega)]
  rfl
theorem Cod.name {C : Nat → Int32} (hk : k < 12) (hC : C a = nI k) : Cod C a (a + 1) 1 (fun e => e k) := by
  refine ⟨by omega, fun N u S p x m M hu h3 hS hb hc h2 hp hx hm => ?_⟩
  obtain ⟨m', rfl⟩ : ∃ m', m = m' + 1 := ⟨m - 1, by omega⟩
  refine ⟨_, x + 1, m', ?_, by omega, by omega, Sk.push (M := M) (p := p) (M.1 109 k)⟩
  rw [run1 (k := k) (v := 0) h3 hS (by omega) hx (by rw [hc a (by omega) (by omega), hC]; rfl) (by omega) (by decide) (by omega) (by omega) (by omega)]
  unfold f_l_work
  rw [if_neg (show ¬ f_w_within (nI k) 0 11 M = 0 from fun e => by have := (w_lo k (by omega)).mp e; omega), if_pos (am_in_nI hk (by decide)), nI_clamp (by omega), show gi M 109 k = M.1 109 k from rfl, cl_push h2 (by omega)]
  rfl
/-- an operation on the top: minus (50), not (26) -/
theorem Cod.un {C : Nat → Int32} {b r : Nat} {V : (Nat → Int32) → Int32} (h : Cod C a b r V) (hr : 1 ≤ r) (g : Int32 → Int32) (hk : k < 64) (hC : C b = nI k) (hop : ∀ (M : Mem) (p : Nat), p < 64 → M.1 108 2 = nI (p + 1) → f_l_work (nI k) (nI 0) M = some (si (si (si M 108 2 (nI p)) 110 p (g (M.1 110 p))) 108 2 (nI (p + 1)))) (n53 : k ≠ 53) (n51 : k ≠ 51) (n28 : k ≠ 28) : Cod C a (b + 1) r (fun e => g (V e)) := by
  obtain ⟨hab, h⟩ := h
  refine ⟨by omega, fun N u S p x m M hu h3 hS hb hc h2 hp hx hm => ?_⟩
  obtain ⟨M1, x1, m1, e1, l1, l2, sk⟩ := h N u S p x m M hu h3 hS (by omega) (fun i i1 i2 => hc i i1 (by omega)) h2 hp hx (by omega)
  obtain ⟨m2, rfl⟩ : ∃ m2, m1 = m2 + 1 := ⟨m1 - 1, by omega⟩
  have k3 : M1.1 u 3 = nI S := by rw [sk.2.2.2.1 u (by omega) (by omega)]; exact h3
  have kc : M1.1 (u + 1) b = nI (k + 64 * 0) := by rw [sk.2.2.2.1 (u + 1) (by omega) (by omega), hc b (by omega) (by omega), hC]; rfl
  refine ⟨_, x1 + 1, m2, ?_, by omega, by omega, sk.pp (g (V (M.1 109)))⟩
  rw [e1, run1 k3 hS (by omega) l1 kc hk (by decide) n53 n51 n28, hop M1 p (by omega) sk.1, Option.bind_some, sk.2.1]
theorem op_neg (M : Mem) (p : Nat) (hp : p < 64) (h : M.1 108 2 = nI (p + 1)) : f_l_work (nI 50) (nI 0) M = some (si (si (si M 108 2 (nI p)) 110 p (-(M.1 110 p))) 108 2 (nI (p + 1))) := by
  unfold f_l_work
  rw [if_pos (show f_w_within (nI 50) 0 11 M = 0 from rfl), if_neg (show ¬ nI 50 = (33 : Int32) by decide), if_pos (show nI 50 = (50 : Int32) from rfl), cl_pop h hp, Option.bind_some]
  show (Option.bind (f_l_push (-(M.1 110 p)) (si M 108 2 (nI p))) fun q3 => some q3) = _
  rw [cl_push (p := p) (by rw [si_at, if_pos ⟨rfl, rfl⟩]) hp]
  rfl
theorem op_not (M : Mem) (p : Nat) (hp : p < 64) (h : M.1 108 2 = nI (p + 1)) : f_l_work (nI 26) (nI 0) M = some (si (si (si M 108 2 (nI p)) 110 p (1 - (M.1 110 p))) 108 2 (nI (p + 1))) := by
  unfold f_l_work
  rw [if_pos (show f_w_within (nI 26) 0 11 M = 0 from rfl), if_neg (show ¬ nI 26 = (33 : Int32) by decide), if_neg (show ¬ nI 26 = (50 : Int32) by decide), if_pos (show nI 26 = (26 : Int32) from rfl), cl_pop h hp, Option.bind_some]
  show (Option.bind (f_l_push (1 - (M.1 110 p)) (si M 108 2 (nI p))) fun q3 => some q3) = _
  rw [cl_push (p := p) (by rw [si_at, if_pos ⟨rfl, rfl⟩]) hp]
  rfl
/-- an operation on the two on top -/
theorem Cod.bin {C : Nat → Int32} {b c r1 r2 r : Nat} {V1 V2 : (Nat → Int32) → Int32} (h : Cod C a b r1 V1) (h' : Cod C b c r2 V2) (hr1 : r1 ≤ r) (hr2 : r2 + 1 ≤ r) (hr : 2 ≤ r) (g : Int32 → Int32 → Int32) (hk : k < 64) (hC : C c = nI k) (hop : ∀ (M : Mem) (p : Nat), p + 1 < 64 → M.1 108 2 = nI (p + 2) → f_l_work (nI k) (nI 0) M = some (si (si (si (si M 108 2 (nI (p + 1))) 108 2 (nI p)) 110 p (g (M.1 110 p) (M.1 110 (p + 1)))) 108 2 (nI (p + 1)))) (n53 : k ≠ 53) (n51 : k ≠ 51) (n28 : k ≠ 28) : Cod C a (c + 1) r (fun e => g (V1 e) (V2 e)) := by
  obtain ⟨hab, h⟩ := h
  obtain ⟨hbc, h'⟩ := h'
  refine ⟨by omega, fun N u S p x m M hu h3 hS hb hc h2 hp hx hm => ?_⟩
  obtain ⟨M1, x1, m1, e1, l1, l2, sk⟩ := h N u S p x m M hu h3 hS (by omega) (fun i i1 i2 => hc i i1 (by omega)) h2 (by omega) hx (by omega)
  have k3 : M1.1 u 3 = nI S := by rw [sk.2.2.2.1 u (by omega) (by omega)]; exact h3
  obtain ⟨M2, x2, m2, e2, q1, q2, tk⟩ := h' N u S (p + 1) x1 m1 M1 hu k3 hS (by omega) (fun i i1 i2 => by rw [sk.2.2.2.1 (u + 1) (by omega) (by omega)]; exact hc i (by omega) (by omega)) sk.1 (by omega) l1 (by omega)
  obtain ⟨m3, rfl⟩ : ∃ m3, m2 = m3 + 1 := ⟨m2 - 1, by omega⟩
  have k3' : M2.1 u 3 = nI S := by rw [tk.2.2.2.1 u (by omega) (by omega)]; exact k3
  have kc : M2.1 (u + 1) c = nI (k + 64 * 0) := by rw [tk.2.2.2.1 (u + 1) (by omega) (by omega), sk.2.2.2.1 (u + 1) (by omega) (by omega), hc c (by omega) (by omega), hC]; rfl
  refine ⟨_, x2 + 1, m3, by rw [e1, e2, run1 k3' hS (by omega) q1 kc hk (by decide) n53 n51 n28, hop M2 p (by omega) tk.1, Option.bind_some], by omega, by omega, ?_, ?_, ?_, ?_, ?_⟩
  · rw [si_at, if_pos ⟨rfl, rfl⟩]
  · rw [si_at, if_neg (by omega), si_at, if_pos ⟨rfl, rfl⟩, tk.2.2.1 p (by omega), sk.2.1, tk.2.1, sk.2.2.2.1 109 (by decide) (by decide)]
  · intro i hi
    rw [si_at, if_neg (by omega), si_at, if_neg (by omega), si_at, if_neg (by omega), si_at, if_neg (by omega), tk.2.2.1 i (by omega)]
    exact sk.2.2.1 i hi
  · intro k g1 g2
    rw [si_1, if_neg g1, si_1, if_neg g2, si_1, if_neg g1, si_1, if_neg g1, tk.2.2.2.1 k g1 g2]
    exact sk.2.2.2.1 k g1 g2
  · exact tk.2.2.2.2.trans sk.2.2.2.2
theorem op_cmp : ∀ k, k < 64 → (k = 24 ∨ k = 25 ∨ (34 ≤ k ∧ k ≤ 37) ∨ k = 46 ∨ k = 47) → f_w_within (nI k) 0 11 M0 = 0 ∧ ¬ nI k = (33 : Int32) ∧ ¬ nI k = (50 : Int32) ∧ ¬ nI k = (26 : Int32) ∧ ¬ nI k = (52 : Int32) ∧ (nI k ≤ (37 : Int32) ∨ ¬ nI k < (46 : Int32)) := by decide +kernel
theorem op_cmp2 (hk : k = 24 ∨ k = 25 ∨ (34 ≤ k ∧ k ≤ 37) ∨ k = 46 ∨ k = 47) (M : Mem) (p : Nat) (hp : p + 1 < 64) (h : M.1 108 2 = nI (p + 2)) : f_l_work (nI k) (nI 0) M = some (si (si (si (si M 108 2 (nI (p + 1))) 108 2 (nI p)) 110 p (f_l_compared (nI k) (M.1 110 p) (M.1 110 (p + 1)) M0)) 108 2 (nI (p + 1))) := by
  obtain ⟨o1, o2, o3, o4, o5, o6⟩ := op_cmp k (by omega) hk
  unfold f_l_work
  rw [if_pos (show f_w_within (nI k) 0 11 M = 0 from o1), if_neg o2, if_neg o3, if_neg o4, if_neg o5, cl_pop (p := p + 1) h (by omega), Option.bind_some]
  show (Option.bind (f_l_pop (si M 108 2 (nI (p + 1)))) fun q8 => (if nI k ≤ (37 : Int32) then Option.bind (f_l_push (f_l_compared (nI k) q8.1 (M.1 110 (p + 1)) q8.2) q8.2) fun q9 => some q9 else (if nI k < (46 : Int32) then Option.bind (f_l_counted (nI k) q8.1 (M.1 110 (p + 1)) q8.2) fun q10 => Option.bind (f_l_push q10 q8.2) fun q11 => some q11 else Option.bind (f_l_push (f_l_compared (nI k) q8.1 (M.1 110 (p + 1)) q8.2) q8.2) fun q12 => some q12))) = _
  have pu : f_l_push (f_l_compared (nI k) (M.1 110 p) (M.1 110 (p + 1)) M0) (si (si M 108 2 (nI (p + 1))) 108 2 (nI p)) = some (si (si (si (si M 108 2 (nI (p + 1))) 108 2 (nI p)) 110 p (f_l_compared (nI k) (M.1 110 p) (M.1 110 (p + 1)) M0)) 108 2 (nI (p + 1))) := cl_push (p := p) (by rw [si_at, if_pos ⟨rfl, rfl⟩]) (by omega) _
  rw [cl_pop (M := si M 108 2 (nI (p + 1))) (p := p) (by rw [si_at, if_pos ⟨rfl, rfl⟩]) (by omega), Option.bind_some]
  show (if nI k ≤ (37 : Int32) then Option.bind (f_l_push (f_l_compared (nI k) (M.1 110 p) (M.1 110 (p + 1)) M0) (si (si M 108 2 (nI (p + 1))) 108 2 (nI p))) fun q9 => some q9 else (if nI k < (46 : Int32) then Option.bind (f_l_counted (nI k) (M.1 110 p) (M.1 110 (p + 1)) (si (si M 108 2 (nI (p + 1))) 108 2 (nI p))) fun q10 => Option.bind (f_l_push q10 (si (si M 108 2 (nI (p + 1))) 108 2 (nI p))) fun q11 => some q11 else Option.bind (f_l_push (f_l_compared (nI k) (M.1 110 p) (M.1 110 (p + 1)) M0) (si (si M 108 2 (nI (p + 1))) 108 2 (nI p))) fun q12 => some q12)) = _
  rw [pu]
  rcases o6 with o | o
  · rw [if_pos o]; rfl
  · by_cases z : nI k ≤ (37 : Int32)
    · rw [if_pos z]; rfl
    · rw [if_neg z, if_neg o]; rfl
def cou (k : Nat) (x y : Int32) : Int32 := (f_l_counted (nI k) x y M0).getD 0
theorem cou_some (hk : 38 ≤ k ∧ k ≤ 41) (x y : Int32) (M : Mem) : f_l_counted (nI k) x y M = some (cou k x y) := by
  have : ∀ M', f_l_counted (nI k) x y M' = f_l_counted (nI k) x y M0 := fun M' => rfl
  rw [this M]
  unfold cou f_l_counted
  by_cases a : nI k = (38 : Int32)
  · rw [if_pos a]; rfl
  · rw [if_neg a]
    by_cases b : nI k = (39 : Int32)
    · rw [if_pos b]; rfl
    · rw [if_neg b]
      by_cases c : nI k = (40 : Int32)
      · rw [if_pos c]; rfl
      · rw [if_neg c]
        by_cases d : y = 0
        · rw [if_pos d]; rfl
        · rw [if_neg d, if_neg d]; rfl
theorem op_cou : ∀ k, k < 42 → 38 ≤ k → f_w_within (nI k) 0 11 M0 = 0 ∧ ¬ nI k = (33 : Int32) ∧ ¬ nI k = (50 : Int32) ∧ ¬ nI k = (26 : Int32) ∧ ¬ nI k = (52 : Int32) ∧ ¬ nI k ≤ (37 : Int32) ∧ nI k < (46 : Int32) := by decide +kernel
theorem op_cou2 (hk : 38 ≤ k ∧ k ≤ 41) (M : Mem) (p : Nat) (hp : p + 1 < 64) (h : M.1 108 2 = nI (p + 2)) : f_l_work (nI k) (nI 0) M = some (si (si (si (si M 108 2 (nI (p + 1))) 108 2 (nI p)) 110 p (cou k (M.1 110 p) (M.1 110 (p + 1)))) 108 2 (nI (p + 1))) := by
  obtain ⟨o1, o2, o3, o4, o5, o6, o7⟩ := op_cou k (by omega) (by omega)
  unfold f_l_work
  rw [if_pos (show f_w_within (nI k) 0 11 M = 0 from o1), if_neg o2, if_neg o3, if_neg o4, if_neg o5, cl_pop (p := p + 1) h (by omega), Option.bind_some]
  show (Option.bind (f_l_pop (si M 108 2 (nI (p + 1)))) fun q8 => (if nI k ≤ (37 : Int32) then Option.bind (f_l_push (f_l_compared (nI k) q8.1 (M.1 110 (p + 1)) q8.2) q8.2) fun q9 => some q9 else (if nI k < (46 : Int32) then Option.bind (f_l_counted (nI k) q8.1 (M.1 110 (p + 1)) q8.2) fun q10 => Option.bind (f_l_push q10 q8.2) fun q11 => some q11 else Option.bind (f_l_push (f_l_compared (nI k) q8.1 (M.1 110 (p + 1)) q8.2) q8.2) fun q12 => some q12))) = _
  rw [cl_pop (M := si M 108 2 (nI (p + 1))) (p := p) (by rw [si_at, if_pos ⟨rfl, rfl⟩]) (by omega), Option.bind_some, if_neg o6, if_pos o7]
  show (Option.bind (f_l_counted (nI k) (M.1 110 p) (M.1 110 (p + 1)) (si (si M 108 2 (nI (p + 1))) 108 2 (nI p))) fun q10 => Option.bind (f_l_push q10 (si (si M 108 2 (nI (p + 1))) 108 2 (nI p))) fun q11 => some q11) = _
  rw [cou_some hk, Option.bind_some, cl_push (p := p) (by rw [si_at, if_pos ⟨rfl, rfl⟩]) (by omega)]
  rfl
/-- the cases of a choose -/
theorem ChC.els {C : Nat → Int32} {b r : Nat} {V : (Nat → Int32) → Int32} (h : Cod C (a + 1) b r V) (hC : C a = nI 52) : ChC C a b r (fun e _ => V e) := by
  obtain ⟨hab, h⟩ := h
  refine ⟨by omega, fun N u S p x m M hu h3 hS hb hc h2 hp1 hp hx hm => ?_⟩
  obtain ⟨m', rfl⟩ : ∃ m', m = m' + 1 := ⟨m - 1, by omega⟩
  have kc : M.1 (u + 1) a = nI (52 + 64 * 0) := by rw [hc a (by omega) (by omega), hC]
  have wk : f_l_work (nI 52) (nI 0) M = some (si M 108 2 (nI p)) := by
    unfold f_l_work
    rw [if_pos (show f_w_within (nI 52) 0 11 M = 0 from rfl), if_neg (show ¬ nI 52 = (33 : Int32) by decide), if_neg (show ¬ nI 52 = (50 : Int32) by decide), if_neg (show ¬ nI 52 = (26 : Int32) by decide), if_pos (show nI 52 = (52 : Int32) from rfl), cl_pop h2 (by omega)]
    rfl
  obtain ⟨M1, x1, m1, e1, l1, l2, sk⟩ := h N u S p (x + 1) m' (si M 108 2 (nI p)) hu (by rw [si_at, if_neg (by omega)]; exact h3) hS hb (fun i i1 i2 => by rw [si_at, if_neg (by omega)]; exact hc i (by omega) i2) (by rw [si_at, if_pos ⟨rfl, rfl⟩]) hp (by omega) (by omega)
  refine ⟨M1, x1, m1, ?_, l1, by omega, ?_⟩
  · rw [run1 h3 hS (by omega) hx kc (by decide) (by decide) (by decide) (by decide) (by decide), wk, Option.bind_some, e1]
  · obtain ⟨s1, s2, s3, s4, s5⟩ := sk
    refine ⟨s1, ?_, ?_, ?_, s5⟩
    · rw [s2, si_1, if_neg (by decide)]
    · intro i hi
      rw [s3 i hi, si_at, if_neg (by omega)]
    · intro k g1 g2
      rw [s4 k g1 g2, si_1, if_neg g1]
theorem ChC.cas {C : Nat → Int32} {b e lo hi r : Nat} {V : (Nat → Int32) → Int32} {W : (Nat → Int32) → Int32 → Int32} (h : Cod C (a + 3) b r V) (g : ChC C (b + 1) e r W) (hlo : lo < 10000) (hhi : hi < 10000) (hb300 : b < 1000) (he300 : e < 1000) (c0 : C a = nI (28 + 64 * lo)) (c1 : C (a + 1) = nI (54 + 64 * hi)) (c2 : C (a + 2) = nI (55 + 64 * (b + 1))) (c3 : C b = nI (51 + 64 * e)) : ChC C a e r (fun n x => if f_w_within x (nI lo) (nI hi) M0 = 0 then W n x else V n) := by
  obtain ⟨hab, h⟩ := h
  obtain ⟨hbe, g⟩ := g
  refine ⟨by omega, fun N u S p x m M hu h3 hS hb hc h2 hp1 hp hx hm => ?_⟩
  obtain ⟨m', rfl⟩ : ∃ m', m = m' + 1 := ⟨m - 1, by omega⟩
  have k0 : M.1 (u + 1) a = nI (28 + 64 * lo) := by rw [hc a (by omega) (by omega), c0]
  have k1 : M.1 (u + 1) (a + 1) = nI (54 + 64 * hi) := by rw [hc (a + 1) (by omega) (by omega), c1]
  have k2 : M.1 (u + 1) (a + 2) = nI (55 + 64 * (b + 1)) := by rw [hc (a + 2) (by omega) (by omega), c2]
  obtain ⟨o1, o2⟩ := op_at h3 hS (by omega) k0 (by decide) (by omega)
  have MP : ∀ q, q ≠ 108 → (si M 108 2 (nI p)).1 q = M.1 q := fun q hq => by rw [si_1, if_neg hq]
  have p3 : (si M 108 2 (nI p)).1 u 3 = nI S := by rw [MP u (by omega)]; exact h3
  obtain ⟨-, o3⟩ := op_at (M := si M 108 2 (nI p)) (u := u) p3 hS (show a < S by omega) (by rw [MP (u + 1) (by omega)]; exact k0) (by decide) (show lo < 1000000 by omega)
  obtain ⟨-, o4⟩ := op_at (M := si M 108 2 (nI p)) (u := u) p3 hS (show a + 1 < S by omega) (by rw [MP (u + 1) (by omega)]; exact k1) (by decide) (show hi < 1000000 by omega)
  have st : f_l_run_10 N u (m' + 1) (nI a) (nI x) M = Option.bind (f_l_behindCase u (nI a) M) fun q7 => f_l_run_10 N u m' q7.1 (nI (x + 1)) q7.2 := by
    rw [f_l_run_10, if_neg (show ¬ (300 : Int32) ≤ nI x from nI_ge (b := 300) (by omega) (by decide)), o1, Option.bind_some, if_neg (show ¬ nI 28 = (53 : Int32) by decide), Option.bind_some, if_neg (show ¬ nI 28 = (51 : Int32) by decide), if_pos (show nI 28 = (28 : Int32) from rfl), nI_1]
  have bh : f_l_behindCase u (nI a) M = if f_w_within (M.1 110 p) (nI lo) (nI hi) M0 = 0 then some (nI (b + 1), si (si (si M 108 2 (nI p)) 110 p (M.1 110 p)) 108 2 (nI (p + 1))) else some (nI (a + 3), si M 108 2 (nI p)) := by
    unfold f_l_behindCase
    rw [cl_pop h2 (by omega), Option.bind_some]
    show (Option.bind (f_p_argumentAt_a u (nI a) (si M 108 2 (nI p))) fun q2 => Option.bind (f_p_argumentAt_a u (nI a + 1) (si M 108 2 (nI p))) fun q3 => (if f_w_within (M.1 110 p) q2 q3 M0 = 0 then Option.bind (f_l_push (M.1 110 p) (si M 108 2 (nI p))) fun q4 => Option.bind (f_p_argumentAt_a u (nI a + 2) q4) fun q5 => some (q5, q4) else some (nI a + 3, si M 108 2 (nI p)))) = _
    rw [o3, Option.bind_some, nI_1, o4, Option.bind_some, show nI a + (3 : Int32) = nI (a + 3) from nI_add a 3, show nI a + (2 : Int32) = nI (a + 2) from nI_add a 2, cl_push (M := si M 108 2 (nI p)) (p := p) (by rw [si_at, if_pos ⟨rfl, rfl⟩]) (by omega), Option.bind_some]
    obtain ⟨-, o5⟩ := op_at (M := si (si (si M 108 2 (nI p)) 110 p (M.1 110 p)) 108 2 (nI (p + 1))) (u := u) (S := S) (a := a + 2) (k := 55) (v := b + 1) (by rw [si_1, if_neg (by omega), si_1, if_neg (by omega)]; exact p3) hS (by omega) (by rw [si_1, if_neg (by omega), si_1, if_neg (by omega), MP (u + 1) (by omega)]; exact k2) (by decide) (by omega)
    rw [o5, Option.bind_some]
  rw [st, bh]
  show ∃ M' x' m1, _ ∧ x' ≤ e ∧ _ ∧ Sk M M' p (if f_w_within (M.1 110 p) (nI lo) (nI hi) M0 = 0 then W (M.1 109) (M.1 110 p) else V (M.1 109))
  by_cases z : f_w_within (M.1 110 p) (nI lo) (nI hi) M0 = 0
  · rw [if_pos z, if_pos z, Option.bind_some]
    have MQ : ∀ q, q ≠ 108 → q ≠ 110 → (si (si (si M 108 2 (nI p)) 110 p (M.1 110 p)) 108 2 (nI (p + 1))).1 q = M.1 q := fun q hq hq2 => by rw [si_1, if_neg hq, si_1, if_neg hq2, MP q hq]
    have v0 : (si (si (si M 108 2 (nI p)) 110 p (M.1 110 p)) 108 2 (nI (p + 1))).1 110 p = M.1 110 p := by rw [si_at, if_neg (by omega), si_at, if_pos ⟨rfl, rfl⟩]
    obtain ⟨M1, x1, m1, e1, l1, l2, s1, s2, s3, s4, s5⟩ := g N u S p (x + 1) m' (si (si (si M 108 2 (nI p)) 110 p (M.1 110 p)) 108 2 (nI (p + 1))) hu (by rw [MQ u (by omega) (by omega)]; exact h3) hS hb (fun i i1 i2 => by rw [MQ (u + 1) (by omega) (by omega)]; exact hc i (by omega) i2) (by rw [si_at, if_pos ⟨rfl, rfl⟩]) hp1 hp (by omega) (by omega)
    refine ⟨M1, x1, m1, e1, l1, by omega, s1, ?_, ?_, ?_, s5⟩
    · rw [s2, v0, MQ 109 (by decide) (by decide)]
    · intro i hi
      rw [s3 i hi, si_at, if_neg (by omega), si_at, if_neg (by omega), si_at, if_neg (by omega)]
    · intro k g1 g2
      rw [s4 k g1 g2, MQ k g1 g2]
  · rw [if_neg z, if_neg z, Option.bind_some]
    obtain ⟨M1, x1, m1, e1, l1, l2, s1, s2, s3, s4, s5⟩ := h N u S p (x + 1) m' (si M 108 2 (nI p)) hu p3 hS (by omega) (fun i i1 i2 => by rw [MP (u + 1) (by omega)]; exact hc i (by omega) (by omega)) (by rw [si_at, if_pos ⟨rfl, rfl⟩]) hp (by omega) (by omega)
    obtain ⟨m2, rfl⟩ : ∃ m2, m1 = m2 + 1 := ⟨m1 - 1, by omega⟩
    refine ⟨M1, x1 + 1, m2, ?_, by omega, by omega, s1, ?_, ?_, ?_, s5⟩
    · show f_l_run_10 N u m' (nI (a + 3)) (nI (x + 1)) (si M 108 2 (nI p)) = _
      rw [e1, run51 (S := S) (v := e) (by rw [s4 u (by omega) (by omega)]; exact p3) hS (by omega) l1 (by rw [s4 (u + 1) (by omega) (by omega), MP (u + 1) (by omega), hc b (by omega) (by omega), c3]) (by omega)]
    · rw [s2, MP 109 (by decide)]
    · intro i hi
      rw [s3 i hi, si_at, if_neg (by omega)]
    · intro k g1 g2
      rw [s4 k g1 g2, MP k g1]
theorem Cod.cho {C : Nat → Int32} {b c r1 r2 r : Nat} {V : (Nat → Int32) → Int32} {W : (Nat → Int32) → Int32 → Int32} (h : Cod C a b r1 V) (g : ChC C b c r2 W) (hr1 : r1 ≤ r) (hr2 : r2 ≤ r) (hr : 1 ≤ r) : Cod C a c r (fun e => W e (V e)) := by
  obtain ⟨hab, h⟩ := h
  obtain ⟨hbc, g⟩ := g
  refine ⟨by omega, fun N u S p x m M hu h3 hS hb hc h2 hp hx hm => ?_⟩
  obtain ⟨M1, x1, m1, e1, l1, l2, sk⟩ := h N u S p x m M hu h3 hS (by omega) (fun i i1 i2 => hc i i1 (by omega)) h2 (by omega) hx (by omega)
  obtain ⟨M2, x2, m2, e2, q1, q2, s1, s2, s3, s4, s5⟩ := g N u S p x1 m1 M1 hu (by rw [sk.2.2.2.1 u (by omega) (by omega)]; exact h3) hS (by omega) (fun i i1 i2 => by rw [sk.2.2.2.1 (u + 1) (by omega) (by omega)]; exact hc i (by omega) (by omega)) sk.1 (by omega) (by omega) l1 (by omega)
  refine ⟨M2, x2, m2, by rw [e1, e2], q1, by omega, s1, ?_, ?_, ?_, s5.trans sk.2.2.2.2⟩
  · rw [s2, sk.2.1, sk.2.2.2.1 109 (by decide) (by decide)]
  · intro i hi
    rw [s3 i hi]
    exact sk.2.2.1 i hi
  · intro k g1 g2
    rw [s4 k g1 g2]
    exact sk.2.2.2.1 k g1 g2
theorem Cod.mono {C : Nat → Int32} {b r r' : Nat} {V : (Nat → Int32) → Int32} (h : Cod C a b r V) (hr : r ≤ r') : Cod C a b r' V := ⟨h.1, fun N u S p x m M hu h3 hS hb hc h2 hp hx hm => h.2 N u S p x m M hu h3 hS hb hc h2 (by omega) hx hm⟩
theorem Cod.cong {C C' : Nat → Int32} {b r : Nat} {V : (Nat → Int32) → Int32} (h : Cod C a b r V) (e : ∀ i, a ≤ i → i < b → C' i = C i) : Cod C' a b r V := ⟨h.1, fun N u S p x m M hu h3 hS hb hc h2 hp hx hm => h.2 N u S p x m M hu h3 hS hb (fun i i1 i2 => (hc i i1 i2).trans (e i i1 i2)) h2 hp hx hm⟩
theorem ChC.cong {C C' : Nat → Int32} {b r : Nat} {W : (Nat → Int32) → Int32 → Int32} (h : ChC C a b r W) (e : ∀ i, a ≤ i → i < b → C' i = C i) : ChC C' a b r W := ⟨h.1, fun N u S p x m M hu h3 hS hb hc h2 hp1 hp hx hm => h.2 N u S p x m M hu h3 hS hb (fun i i1 i2 => (hc i i1 i2).trans (e i i1 i2)) h2 hp1 hp hx hm⟩
end CODE
