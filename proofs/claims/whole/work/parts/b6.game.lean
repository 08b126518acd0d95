/-! A game of two who have a word left. -/
def gmn (a b : Int64) : Int64 := if (0 : Int32) < lg_cmp a b then b else a
def gmx (a b : Int64) : Int64 := if lg_cmp a b < (0 : Int32) then b else a
def goc (p : Nat) (u : Int64) (w : Nat → Int64) (now lf : Nat) : Int64 := (if now = 1 then Int32.toInt64 (nI p) else if now = 2 then Int32.toInt64 (-nI p) else 0) * u + Int32.toInt64 (nI (100 - p)) * w (4 * now + lf)
def gA0 (p : Nat) (u : Int64) (w : Nat → Int64) (h lf : Nat) : Int64 := if lf / 2 = 0 then goc p u w h lf else gmn (goc p u w h lf) (goc p u w 2 (lf % 2))
def gA1 (p : Nat) (u : Int64) (w : Nat → Int64) (lf : Nat) : Int64 := if lf / 2 = 0 then goc p u w 1 (lf / 2 * 2) else gmn (goc p u w 1 (lf / 2 * 2)) (goc p u w 3 0)
def gST (p : Nat) (u : Int64) (w : Nat → Int64) (k : Nat) : Int64 := if k % 2 = 0 then gA0 p u w (k / 4) (k % 4) else gmx (gA0 p u w (k / 4) (k % 4)) (gA1 p u w (k % 4))
def gW (pv : Nat → Nat) (m : Nat) : Nat → Nat → Int64
  | 0 => fun _ => 0
  | j + 1 => gST (pv (m - 1 - j)) (lN (100 ^ j)) (gW pv m j)
theorem gix : ∀ now, now < 4 → ∀ lf, lf < 4 → ((nI now &&& 3) <<< (2 : Int32)) ||| (nI lf &&& 3) = nI (4 * now + lf) := by decide +kernel
theorem gnb : ∀ lf, lf < 4 → ∀ s, s < 4 → nI lf &&& (nI s ^^^ -1) = nI (lf - (lf &&& s)) := by decide +kernel
theorem gb2 : ∀ lf, lf < 4 → ((nI lf &&& 2 = 0) ↔ lf / 2 = 0) ∧ nI lf &&& 1 = nI (lf % 2) ∧ nI lf &&& 2 = nI (lf / 2 * 2) ∧ lf - (lf &&& 2) = lf % 2 ∧ lf - (lf &&& 1) = lf / 2 * 2 ∧ lf - (lf &&& 3) = 0 ∧ (lf / 2 * 2) / 2 = lf / 2 ∧ (lf / 2 * 2) % 2 = 0 := by decide +kernel
section GAME
variable {M : Mem} {p t : Nat} {u : Int64} {w : Nat → Int64} {N : Nat}
theorem c_oc (ht : t < 6) (hp : p ≤ 100) (h48 : M.1 48 t = nI p) (hu : M.2 46 5 = u) (hw : ∀ i, i < 16 → M.2 52 i = w i) {now lf : Nat} (hn : now < 4) (hl : lf < 4) : f_c_outcome (nI t) (nI now) (nI lf) M = some (goc p u w now lf) := by
  have e42 : ∀ s : Int32, f_c_outcome_42 (nI now) (nI lf) (nI p) s M = some (Int32.toInt64 (nI p * s) * u + Int32.toInt64 (nI (100 - p)) * w (4 * now + lf)) := by
    intro s
    unfold f_c_outcome_42
    rw [gix now hn lf hl, if_pos (am_in_nI (by omega) (by decide)), nI_clamp (by omega), show (100 : Int32) - nI p = nI (100 - p) from nI_sub (a := 100) hp, show gj M 46 5 = u from hu, show gj M 52 (4 * now + lf) = w (4 * now + lf) from hw _ (by omega)]
  unfold f_c_outcome
  rw [if_neg (show ¬ f_w_within (nI t) 0 5 M = 0 from within_yes M (n := 5) (by omega) (by decide)), if_pos (am_in_nI ht (by decide)), nI_clamp (by omega), show gi M 48 t = nI p from h48, e42, e42, e42]
  unfold goc
  have n1 : (nI now = (1 : Int32)) ↔ now = 1 := nI_eq (b := 1) (by omega) (by decide)
  have n2 : (nI now = (2 : Int32)) ↔ now = 2 := nI_eq (b := 2) (by omega) (by decide)
  by_cases q1 : now = 1
  · rw [if_pos (n1.mpr q1), if_pos q1, Int32.mul_one]
  · rw [if_neg (fun e => q1 (n1.mp e)), if_neg q1]
    by_cases q2 : now = 2
    · rw [if_pos (n2.mpr q2), if_pos q2, show nI p * (-1 : Int32) = -nI p by rw [Int32.mul_neg, Int32.mul_one]]
    · rw [if_neg (fun e => q2 (n2.mp e)), if_neg q2, Int32.mul_zero]
      rfl
theorem c_bs (ht : t < 6) (hp : p ≤ 100) (h48 : M.1 48 t = nI p) (hu : M.2 46 5 = u) (hw : ∀ i, i < 16 → M.2 52 i = w i) {h lf s : Nat} (hh : h < 4) (hl : lf < 4) (hs : s < 2) : f_c_bestOfSecond (nI t) (nI h) (nI lf) (nI s) M = some (if lf / 2 = 0 then goc p u w (if s = 0 then h else s) lf else gmn (goc p u w (if s = 0 then h else s) lf) (goc p u w (s + 2) (lf % 2))) := by
  have key : ∀ s2 : Nat, s2 < 4 → f_c_bestOfSecond_13 (nI t) (nI lf) (nI s) (nI t) (nI s2) M = some (if lf / 2 = 0 then goc p u w s2 lf else gmn (goc p u w s2 lf) (goc p u w (s + 2) (lf % 2))) := by
    intro s2 h2
    obtain ⟨b1, b2, -⟩ := gb2 lf hl
    have es : nI s ||| 2 = nI (s + 2) := by
      have : ∀ s, s < 2 → nI s ||| 2 = nI (s + 2) := by decide +kernel
      exact this s hs
    unfold f_c_bestOfSecond_13
    rw [c_oc ht hp h48 hu hw h2 hl, Option.bind_some, es, b2, c_oc ht hp h48 hu hw (now := s + 2) (lf := lf % 2) (by omega) (by omega), Option.bind_some]
    by_cases q : lf / 2 = 0
    · rw [if_pos (b1.mpr q), if_pos q]
    · rw [if_neg (fun e => q (b1.mp e)), if_neg q]
      rfl
  unfold f_c_bestOfSecond
  by_cases q : s = 0
  · rw [if_pos (show nI s = (0 : Int32) by rw [q]; rfl), key h hh, if_pos q]
  · rw [if_neg (show ¬ nI s = (0 : Int32) from nI_ne0 (by omega) (by omega)), key s (by omega), if_neg q]
theorem c_bf (ht : t < 6) (hp : p ≤ 100) (h48 : M.1 48 t = nI p) (hu : M.2 46 5 = u) (hw : ∀ i, i < 16 → M.2 52 i = w i) {k : Nat} (hk : k < 16) : f_c_bestOfFirst (nI t) (nI (k / 4)) (nI (k % 4)) M = some (gST p u w k) := by
  obtain ⟨b1, b2, b3, b4, b5, b6, b7, b8⟩ := gb2 (k % 4) (by omega)
  have s0 := c_bs ht hp h48 hu hw (h := k / 4) (lf := k % 4) (s := 0) (by omega) (by omega) (by omega)
  have s1 := c_bs ht hp h48 hu hw (h := k / 4) (lf := k % 4 / 2 * 2) (s := 1) (by omega) (by omega) (by omega)
  rw [if_pos rfl] at s0
  rw [if_neg (show ¬ (1 : Nat) = 0 by omega), b7, b8] at s1
  have s0' : f_c_bestOfSecond (nI t) (nI (k / 4)) (nI (k % 4)) (0 : Int32) M = some (gA0 p u w (k / 4) (k % 4)) := s0
  have s1' : f_c_bestOfSecond (nI t) (nI (k / 4)) (nI (k % 4 / 2 * 2)) (1 : Int32) M = some (gA1 p u w (k % 4)) := s1
  unfold f_c_bestOfFirst
  rw [s0', Option.bind_some, b2, b3, s1', Option.bind_some]
  unfold gST
  by_cases q : k % 2 = 0
  · rw [if_pos (show nI (k % 4 % 2) = (0 : Int32) by rw [show k % 4 % 2 = 0 by omega]; rfl), if_pos q]
  · rw [if_neg (show ¬ nI (k % 4 % 2) = (0 : Int32) from nI_ne0 (by omega) (by omega)), if_neg q]
    rfl
/-! the reference's -/
theorem r_sp (ht : t < 6) (hp : p ≤ 100) (h130 : M.1 130 (108 + t) = nI p) (hw : ∀ i, i < 16 → M.2 142 i = w i) {h lf s : Nat} (hh : h < 4) (hl : lf < 4) (hs : s < 4) : f_m_spoken (nI t) (nI h) (nI lf) (nI s) u M = some (goc p u w (if s = 0 then h else s) (lf - (lf &&& s))) := by
  have e1 : (108 : Int32) + nI t = nI (108 + t) := nI_add 108 t
  have key : ∀ s2 : Nat, s2 < 4 → f_m_spoken_11 (nI t) (nI lf) (nI s) u (nI s2) M = some (goc p u w s2 (lf - (lf &&& s))) := by
    intro s2 h2
    have e50 : ∀ g : Int64, f_m_spoken_50 (nI lf) (nI s) u (nI s2) (nI p) g M = some (g * u + Int32.toInt64 (nI (100 - p)) * w (4 * s2 + (lf - (lf &&& s)))) := by
      intro g
      unfold f_m_spoken_50
      rw [gnb lf hl s hs, show (4 : Int32) * nI s2 + nI (lf - (lf &&& s)) = nI (4 * s2 + (lf - (lf &&& s))) by rw [show (4 : Int32) = nI 4 from rfl, nI_mul, nI_add], if_pos (am_in_nI (by omega) (by decide)), nI_clamp (by omega), show (100 : Int32) - nI p = nI (100 - p) from nI_sub (a := 100) hp, show gj M 142 (4 * s2 + (lf - (lf &&& s))) = _ from hw _ (by omega)]
    unfold f_m_spoken_11
    rw [e1, if_pos (am_in_nI (by omega) (by decide)), nI_clamp (by omega), show gi M 130 (108 + t) = nI p from h130, e50, e50, e50]
    unfold goc
    have n1 : (nI s2 = (1 : Int32)) ↔ s2 = 1 := nI_eq (b := 1) (by omega) (by decide)
    have n2 : (nI s2 = (2 : Int32)) ↔ s2 = 2 := nI_eq (b := 2) (by omega) (by decide)
    by_cases q1 : s2 = 1
    · rw [if_pos (n1.mpr q1), if_pos q1]
    · rw [if_neg (fun e => q1 (n1.mp e)), if_neg q1]
      by_cases q2 : s2 = 2
      · rw [if_pos (n2.mpr q2), if_pos q2]
      · rw [if_neg (fun e => q2 (n2.mp e)), if_neg q2]
  unfold f_m_spoken
  by_cases q : s = 0
  · rw [if_pos (show nI s = (0 : Int32) by rw [q]; rfl), key h hh, if_pos q]
  · rw [if_neg (show ¬ nI s = (0 : Int32) from nI_ne0 (by omega) (by omega)), key s hs, if_neg q]
theorem gmn_r (a b : Int64) : (if (0 : Int32) ≤ lg_cmp b a then some a else some b) = some (gmn a b) := by
  unfold gmn
  by_cases q : a ≤ b
  · rw [if_pos ((lg_cmp_ge b a).mpr q), if_neg (fun e => by have := (lg_cmp_gt a b).mp e; rw [Int64.le_iff_toInt_le] at q; rw [Int64.lt_iff_toInt_lt] at this; omega)]
  · rw [if_neg (fun e => q ((lg_cmp_ge b a).mp e)), if_pos ((lg_cmp_gt a b).mpr (by rw [Int64.le_iff_toInt_le] at q; rw [Int64.lt_iff_toInt_lt]; omega))]
theorem r_an0 (ht : t < 6) (hp : p ≤ 100) (h130 : M.1 130 (108 + t) = nI p) (hw : ∀ i, i < 16 → M.2 142 i = w i) {h lf : Nat} (hh : h < 4) (hl : lf < 4) : f_m_answered (nI t) (nI h) (nI lf) (0 : Int32) u M = some (gA0 p u w h lf) := by
  obtain ⟨b1, b2, b3, b4, b5, b6, b7, b8⟩ := gb2 lf hl
  have s0 : f_m_spoken (nI t) (nI h) (nI lf) (0 : Int32) u M = _ := r_sp (u := u) ht hp h130 hw (h := h) (lf := lf) (s := 0) hh hl (by omega)
  have s2 : f_m_spoken (nI t) (nI h) (nI lf) ((0 : Int32) ||| (2 : Int32)) u M = _ := r_sp (u := u) ht hp h130 hw (h := h) (lf := lf) (s := 2) hh hl (by omega)
  rw [if_pos rfl, Nat.and_zero, Nat.sub_zero] at s0
  rw [if_neg (by omega), b4] at s2
  unfold f_m_answered
  rw [s0, Option.bind_some, s2, Option.bind_some, gmn_r]
  unfold gA0
  by_cases q : lf / 2 = 0
  · rw [if_pos (b1.mpr q), if_pos q]
  · rw [if_neg (fun e => q (b1.mp e)), if_neg q]
theorem r_an1 (ht : t < 6) (hp : p ≤ 100) (h130 : M.1 130 (108 + t) = nI p) (hw : ∀ i, i < 16 → M.2 142 i = w i) {h lf : Nat} (hh : h < 4) (hl : lf < 4) : f_m_answered (nI t) (nI h) (nI lf) (1 : Int32) u M = some (gA1 p u w lf) := by
  obtain ⟨b1, b2, b3, b4, b5, b6, b7, b8⟩ := gb2 lf hl
  have s0 : f_m_spoken (nI t) (nI h) (nI lf) (1 : Int32) u M = _ := r_sp (u := u) ht hp h130 hw (h := h) (lf := lf) (s := 1) hh hl (by omega)
  have s2 : f_m_spoken (nI t) (nI h) (nI lf) ((1 : Int32) ||| (2 : Int32)) u M = _ := r_sp (u := u) ht hp h130 hw (h := h) (lf := lf) (s := 3) hh hl (by omega)
  rw [if_neg (by omega), b5] at s0
  rw [if_neg (by omega), b6] at s2
  unfold f_m_answered
  rw [s0, Option.bind_some, s2, Option.bind_some, gmn_r]
  unfold gA1
  by_cases q : lf / 2 = 0
  · rw [if_pos (b1.mpr q), if_pos q]
  · rw [if_neg (fun e => q (b1.mp e)), if_neg q]
end GAME
/-! all of it -/
section PLAY
variable {Mc Mr : Mem} {pv : Nat → Nat} {m N : Nat}
theorem gST_congr {p : Nat} {u : Int64} {w w' : Nat → Int64} {k : Nat} (hk : k < 16) (h : ∀ i, i < 16 → w' i = w i) : gST p u w' k = gST p u w k := by
  have ho : ∀ now lf, now < 4 → lf < 4 → goc p u w' now lf = goc p u w now lf := fun now lf hn hl => by
    unfold goc
    rw [h _ (by omega)]
  have h0 : gA0 p u w' (k / 4) (k % 4) = gA0 p u w (k / 4) (k % 4) := by
    unfold gA0
    rw [ho _ _ (by omega) (by omega), ho _ _ (by omega) (by omega)]
  have h1 : gA1 p u w' (k % 4) = gA1 p u w (k % 4) := by
    unfold gA1
    rw [ho _ _ (by omega) (by omega), ho _ _ (by omega) (by omega)]
  unfold gST
  rw [h0, h1]
theorem c_play23 (hN : 4000 ≤ N) (K : Int32 → Mem → Option Mem) {Mb : Mem} {t p : Nat} {u : Int64} {w : Nat → Int64} (ht : t < 6) (hp : p ≤ 100) (h48 : Mb.1 48 t = nI p) (hu : Mb.2 46 5 = u) (hw : ∀ i, i < 16 → Mb.2 52 i = w i) : ∃ M2, f_c_play_23 N K N (nI t) 0 Mb = K (nI t + (-1)) M2 ∧ M2.1 = Mb.1 ∧ (∀ i, i < 16 → M2.2 52 i = gST p u w i) ∧ M2.2 46 5 = u * 100 ∧ (∀ q, q ≠ 46 → q ≠ 51 → q ≠ 52 → M2.2 q = Mb.2 q) := by
  have go : ∀ n k (M' : Mem), M'.1 = Mb.1 → (∀ q, q ≠ 51 → M'.2 q = Mb.2 q) → (∀ i, i < k → M'.2 51 i = gST p u w i) → k ≤ 16 → 16 < k + n → ∃ M2, f_c_play_23 N K n (nI t) (nI k) M' = K (nI t + (-1)) M2 ∧ M2.1 = Mb.1 ∧ (∀ i, i < 16 → M2.2 52 i = gST p u w i) ∧ M2.2 46 5 = u * 100 ∧ (∀ q, q ≠ 46 → q ≠ 51 → q ≠ 52 → M2.2 q = Mb.2 q) := by
    intro n
    induction n with
    | zero => intro k M' _ _ _ a b; omega
    | succ n ih =>
      intro k M' e1 e2 e3 a b
      rw [f_c_play_23]
      by_cases e : k = 16
      · subst e
        rw [if_pos (show (16 : Int32) ≤ nI 16 by decide), Option.bind_some, Option.bind_some]
        refine ⟨_, rfl, e1, fun i hi => ?_, ?_, fun q q1 q2 q3 => ?_⟩
        · show va_cpy (M'.2 51) (M'.2 52) 0 0 16 i = _
          rw [pk_cpy_in (by omega) (by omega), show 0 + (i - 0) = i by omega, e3 i hi]
        · show (M'.2 46 5) * 100 = u * 100
          rw [e2 46 (by omega), hu]
        · show (if q = 46 then vp_updL _ _ _ else if q = 52 then _ else M'.2 q) = _
          rw [if_neg q1, if_neg q3, e2 q q2]
      · have s1 : nI k >>> (2 : Int32) = nI (k / 4) := pk_shrN (by omega) 2 2 (by decide)
        have s2 : nI k &&& (3 : Int32) = nI (k % 4) := pkA (by omega) 2 (by decide)
        rw [if_neg (show ¬ (16 : Int32) ≤ nI k from nI_ge (b := 16) (by omega) (by decide)), s1, s2, c_bf (w := w) (u := u) ht hp (by rw [e1]; exact h48) (by rw [e2 46 (by omega)]; exact hu) (fun i hi => by rw [e2 52 (by omega)]; exact hw i hi) (show k < 16 by omega), Option.bind_some, if_pos (am_in_nI (by omega) (by decide)), nI_clamp (by omega), Option.bind_some, nI_1]
        refine ih (k + 1) _ e1 (fun q hq => ?_) (fun i hi => ?_) (by omega) (by omega)
        · show (if q = 51 then _ else M'.2 q) = _
          rw [if_neg hq, e2 q hq]
        · show (if 51 = 51 then vp_updL (M'.2 51) k (gST p u w k) else M'.2 51) i = _
          rw [if_pos rfl]
          by_cases z : i = k
          · rw [z, pk_uLs]
          · rw [pk_uLn z, e3 i (by omega)]
  exact go N 0 Mb rfl (fun _ _ => rfl) (fun i hi => by omega) (by omega) (by omega)
/-- what the class has at its end -/
theorem c_play (hN : 4000 ≤ N) (hm1 : 1 ≤ m) (hm : m ≤ 5) (hpv : ∀ t, t < 6 → pv t ≤ 100 ∧ Mc.1 48 t = nI (pv t)) : ∃ M2, f_c_play N (nI m) Mc = some M2 ∧ M2.1 46 7 = (if lg_cmp (gA1 (pv 0) (lN (100 ^ (m - 1))) (gW pv m (m - 1)) 3) (gA0 (pv 0) (lN (100 ^ (m - 1))) (gW pv m (m - 1)) 0 3) ≤ 0 then 0 else 1) ∧ M2.2 46 6 = gmx (gA1 (pv 0) (lN (100 ^ (m - 1))) (gW pv m (m - 1)) 3) (gA0 (pv 0) (lN (100 ^ (m - 1))) (gW pv m (m - 1)) 0 3) ∧ (∀ q, q ≠ 46 → M2.1 q = Mc.1 q) ∧ (∀ q, q ≠ 46 → q ≠ 51 → q ≠ 52 → M2.2 q = Mc.2 q) := by
  have fil : ∃ M1, f_k_fill1_52 N 0 Mc = some M1 ∧ M1.1 = Mc.1 ∧ (∀ i, i < 16 → M1.2 52 i = 0) ∧ (∀ q, q ≠ 52 → M1.2 q = Mc.2 q) := by
    unfold f_k_fill1_52
    have go : ∀ n k (M' : Mem), M'.1 = Mc.1 → (∀ i, i < k → M'.2 52 i = 0) → (∀ q, q ≠ 52 → M'.2 q = Mc.2 q) → k ≤ 16 → 16 < k + n → ∃ M1, f_k_fill1_52_6 N n 0 (nI k) 16 M' = some M1 ∧ M1.1 = Mc.1 ∧ (∀ i, i < 16 → M1.2 52 i = 0) ∧ (∀ q, q ≠ 52 → M1.2 q = Mc.2 q) := by
      intro n
      induction n with
      | zero => intro k M' _ _ _ a b; omega
      | succ n ih =>
        intro k M' e1 e2 e3 a b
        rw [f_k_fill1_52_6]
        by_cases e : k = 16
        · subst e
          exact ⟨M', by rw [if_pos (show (16 : Int32) ≤ nI 16 by decide)], e1, e2, e3⟩
        · rw [if_neg (show ¬ (16 : Int32) ≤ nI k from nI_ge (b := 16) (by omega) (by decide)), if_pos (am_in_nI (by omega) (by decide)), nI_clamp (by omega), Option.bind_some, nI_1]
          refine ih (k + 1) _ e1 (fun i hi => ?_) (fun q hq => ?_) (by omega) (by omega)
          · show (if 52 = 52 then vp_updL (M'.2 52) k 0 else M'.2 52) i = _
            rw [if_pos rfl]
            by_cases z : i = k
            · rw [z, pk_uLs]
            · rw [pk_uLn z, e2 i (by omega)]
          · show (if q = 52 then _ else M'.2 q) = _
            rw [if_neg hq, e3 q hq]
    exact go N 0 Mc rfl (fun i hi => by omega) (fun _ _ => rfl) (by omega) (by omega)
  obtain ⟨M1, f1, f2, f3, f4⟩ := fil
  have go : ∀ n t (Mb : Mem), Mb.1 = Mc.1 → Mb.2 46 5 = lN (100 ^ (m - 1 - t)) → (∀ i, i < 16 → Mb.2 52 i = gW pv m (m - 1 - t) i) → (∀ q, q ≠ 46 → q ≠ 51 → q ≠ 52 → Mb.2 q = Mc.2 q) → t ≤ m - 1 → t < n → ∃ M2, f_c_play_17 N n (nI t) Mb = some M2 ∧ M2.1 46 7 = (if lg_cmp (gA1 (pv 0) (lN (100 ^ (m - 1))) (gW pv m (m - 1)) 3) (gA0 (pv 0) (lN (100 ^ (m - 1))) (gW pv m (m - 1)) 0 3) ≤ 0 then 0 else 1) ∧ M2.2 46 6 = gmx (gA1 (pv 0) (lN (100 ^ (m - 1))) (gW pv m (m - 1)) 3) (gA0 (pv 0) (lN (100 ^ (m - 1))) (gW pv m (m - 1)) 0 3) ∧ (∀ q, q ≠ 46 → M2.1 q = Mc.1 q) ∧ (∀ q, q ≠ 46 → q ≠ 51 → q ≠ 52 → M2.2 q = Mc.2 q) := by
    intro n
    induction n with
    | zero => intro t Mb _ _ _ _ a b; omega
    | succ n ih =>
      intro t Mb e1 e2 e3 e4 a b
      rw [f_c_play_17]
      by_cases e : t = 0
      · subst e
        rw [Nat.sub_zero] at e2 e3
        have h0 := hpv 0 (by omega)
        have s0 : f_c_bestOfSecond (0 : Int32) (0 : Int32) (3 : Int32) (0 : Int32) Mb = some (gA0 (pv 0) (lN (100 ^ (m - 1))) (gW pv m (m - 1)) 0 3) := c_bs (t := 0) (h := 0) (lf := 3) (s := 0) (by omega) h0.1 (by rw [e1]; exact h0.2) e2 e3 (by omega) (by omega) (by omega)
        have s1 : f_c_bestOfSecond (0 : Int32) (0 : Int32) (2 : Int32) (1 : Int32) Mb = some (gA1 (pv 0) (lN (100 ^ (m - 1))) (gW pv m (m - 1)) 3) := c_bs (t := 0) (h := 0) (lf := 2) (s := 1) (by omega) h0.1 (by rw [e1]; exact h0.2) e2 e3 (by omega) (by omega) (by omega)
        rw [if_pos (show nI 0 ≤ (0 : Int32) by decide), s0, Option.bind_some, s1, Option.bind_some]
        generalize gA0 (pv 0) (lN (100 ^ (m - 1))) (gW pv m (m - 1)) 0 3 = a0
        generalize gA1 (pv 0) (lN (100 ^ (m - 1))) (gW pv m (m - 1)) 3 = a1
        have fr : ∀ (v : Int32) (x : Int64), (∀ q, q ≠ 46 → (sj (si Mb 46 7 v) 46 6 x).1 q = Mc.1 q) ∧ (∀ q, q ≠ 46 → q ≠ 51 → q ≠ 52 → (sj (si Mb 46 7 v) 46 6 x).2 q = Mc.2 q) := fun v x => by
          refine ⟨fun q hq => ?_, fun q q1 q2 q3 => ?_⟩
          · show (if q = 46 then _ else Mb.1 q) = _
            rw [if_neg hq, e1]
          · show (if q = 46 then _ else Mb.2 q) = _
            rw [if_neg q1, e4 q q1 q2 q3]
        by_cases z : lg_cmp a1 a0 ≤ 0
        · rw [if_pos z, if_pos z, Option.bind_some, Option.bind_some]
          exact ⟨_, rfl, rfl, rfl, (fr _ _).1, (fr _ _).2⟩
        · rw [if_neg z, if_neg z, Option.bind_some, Option.bind_some]
          exact ⟨_, rfl, rfl, rfl, (fr _ _).1, (fr _ _).2⟩
      · obtain ⟨h1, h2⟩ := hpv t (by omega)
        obtain ⟨M2, c1, c2, c3, c4, c5⟩ := c_play23 hN (f_c_play_17 N n) (t := t) (p := pv t) (by omega) h1 (by rw [e1]; exact h2) e2 e3
        obtain ⟨t', rfl⟩ : ∃ t', t = t' + 1 := ⟨t - 1, by omega⟩
        have ej : m - 1 - t' = (m - 1 - (t' + 1)) + 1 := by omega
        rw [if_neg (show ¬ nI (t' + 1) ≤ (0 : Int32) from nI_nle (by omega) (by omega)), c1, pk_m1]
        refine ih t' M2 (by rw [c2, e1]) ?_ (fun i hi => ?_) (fun q q1 q2 q3 => by rw [c5 q q1 q2 q3, e4 q q1 q2 q3]) (by omega) (by omega)
        · rw [c4, ej, Nat.pow_succ, show (100 : Int64) = lN 100 from rfl, lN_mul]
        · rw [c3 i hi, ej]
          show _ = gST (pv (m - 1 - (m - 1 - (t' + 1)))) (lN (100 ^ (m - 1 - (t' + 1)))) (gW pv m (m - 1 - (t' + 1))) i
          rw [show m - 1 - (m - 1 - (t' + 1)) = t' + 1 by omega]
  unfold f_c_play
  obtain ⟨m', rfl⟩ : ∃ m', m = m' + 1 := ⟨m - 1, by omega⟩
  rw [f1, Option.bind_some, Option.bind_some, nI_pred]
  refine go N m' (sj M1 46 5 1) f2 ?_ (fun i hi => ?_) (fun q q1 q2 q3 => ?_) (by omega) (by omega)
  · rw [show m' + 1 - 1 - m' = 0 by omega, Nat.pow_zero]
    rfl
  · rw [show m' + 1 - 1 - m' = 0 by omega]
    show M1.2 52 i = 0
    exact f3 i hi
  · show (if q = 46 then _ else M1.2 q) = _
    rw [if_neg q1, f4 q q3]
/-- the reference's round over the states -/
theorem r_game61 (hN : 4000 ≤ N) (K : Int32 → Int64 → Int32 → Int32 → Mem → Option (Int64 × Mem)) {Mb : Mem} {t p : Nat} {u : Int64} {w : Nat → Int64} {x2 x5 : Int32} (ht : t < 6) (hp : p ≤ 100) (h130 : Mb.1 130 (108 + t) = nI p) (hw : ∀ i, i < 16 → Mb.2 142 i = w i) : ∃ M2, f_m_game_61 N K N x2 u x5 (nI t) 0 Mb = f_m_game_169 N K N x2 u (if lg_cmp (gA1 p u w 3) (gA0 p u w 0 3) ≤ 0 then 0 else 1) (nI t) 0 M2 ∧ M2.1 = Mb.1 ∧ (∀ i, i < 16 → M2.2 143 i = gST p u w i) ∧ (∀ q, q ≠ 143 → M2.2 q = Mb.2 q) := by
  have go : ∀ n k (M' : Mem) (a5 : Int32), M'.1 = Mb.1 → (∀ q, q ≠ 143 → M'.2 q = Mb.2 q) → (∀ i, i < k → M'.2 143 i = gST p u w i) → (4 ≤ k → a5 = if lg_cmp (gA1 p u w 3) (gA0 p u w 0 3) ≤ 0 then 0 else 1) → k ≤ 16 → 16 < k + n → ∃ M2, f_m_game_61 N K n x2 u a5 (nI t) (nI k) M' = f_m_game_169 N K N x2 u (if lg_cmp (gA1 p u w 3) (gA0 p u w 0 3) ≤ 0 then 0 else 1) (nI t) 0 M2 ∧ M2.1 = Mb.1 ∧ (∀ i, i < 16 → M2.2 143 i = gST p u w i) ∧ (∀ q, q ≠ 143 → M2.2 q = Mb.2 q) := by
    intro n
    induction n with
    | zero => intro k M' a5 _ _ _ _ a b; omega
    | succ n ih =>
      intro k M' a5 e1 e2 e3 e5 a b
      rw [f_m_game_61]
      by_cases e : k = 16
      · subst e
        rw [if_pos (show (16 : Int32) ≤ nI 16 by decide), e5 (by omega)]
        exact ⟨M', rfl, e1, e3, e2⟩
      · have hk : k < 16 := by omega
        have s1 : nI k / (4 : Int32) = nI (k / 4) := pk_div (d := 4) (by omega) (by decide) (by decide)
        have s2 : nI k - nI k / (4 : Int32) * (4 : Int32) = nI (k % 4) := pk_rem (d := 4) (by omega) (by decide) (by decide)
        have s3 : nI k &&& (1 : Int32) = nI (k % 2) := pkA (by omega) 1 (by decide)
        have hw' : ∀ i, i < 16 → M'.2 142 i = w i := fun i hi => by rw [e2 142 (by omega)]; exact hw i hi
        have a0 := r_an0 (M := M') (u := u) (w := w) ht hp (by rw [e1]; exact h130) hw' (h := k / 4) (lf := k % 4) (by omega) (by omega)
        have a1 := r_an1 (M := M') (u := u) (w := w) ht hp (by rw [e1]; exact h130) hw' (h := k / 4) (lf := k % 4) (by omega) (by omega)
        have cnt : ∀ (x8 x10 : Int64), (k = 3 → x8 = gA0 p u w 0 3 ∧ x10 = gA1 p u w 3) → ∃ M2, f_m_game_138 N K (f_m_game_61 N K n) x2 u a5 (nI t) (nI k) x8 x10 (nI k) (gST p u w k) M' = f_m_game_169 N K N x2 u (if lg_cmp (gA1 p u w 3) (gA0 p u w 0 3) ≤ 0 then 0 else 1) (nI t) 0 M2 ∧ M2.1 = Mb.1 ∧ (∀ i, i < 16 → M2.2 143 i = gST p u w i) ∧ (∀ q, q ≠ 143 → M2.2 q = Mb.2 q) := by
          intro x8 x10 h3
          unfold f_m_game_138
          have m1 : (sj M' 143 k (gST p u w k)).1 = Mb.1 := e1
          have m2 : ∀ q, q ≠ 143 → (sj M' 143 k (gST p u w k)).2 q = Mb.2 q := fun q hq => by
            show (if q = 143 then _ else M'.2 q) = _
            rw [if_neg hq, e2 q hq]
          have m3 : ∀ i, i < k + 1 → (sj M' 143 k (gST p u w k)).2 143 i = gST p u w i := fun i hi => by
            show (if 143 = 143 then vp_updL (M'.2 143) k (gST p u w k) else M'.2 143) i = _
            rw [if_pos rfl]
            by_cases z : i = k
            · rw [z, pk_uLs]
            · rw [pk_uLn z, e3 i (by omega)]
          rw [if_pos (am_in_nI hk (by decide)), nI_clamp (by omega), Option.bind_some, nI_1]
          by_cases q3 : k = 3
          · obtain ⟨x1, x2'⟩ := h3 q3
            rw [if_pos (show nI k = (3 : Int32) by rw [q3]; rfl), x1, x2']
            by_cases z : lg_cmp (gA1 p u w 3) (gA0 p u w 0 3) ≤ 0
            · rw [if_pos z]
              exact ih (k + 1) _ 0 m1 m2 m3 (fun _ => by rw [if_pos z]) (by omega) (by omega)
            · rw [if_neg z]
              exact ih (k + 1) _ 1 m1 m2 m3 (fun _ => by rw [if_neg z]) (by omega) (by omega)
          · rw [if_neg (show ¬ nI k = (3 : Int32) from fun e => q3 ((nI_eq (b := 3) (by omega) (by decide)).mp e))]
            exact ih (k + 1) _ a5 m1 m2 m3 (fun h => e5 (by omega)) (by omega) (by omega)
        rw [if_neg (show ¬ (16 : Int32) ≤ nI k from nI_ge (b := 16) (by omega) (by decide)), s2, s1, s3, a0, Option.bind_some, a1, Option.bind_some]
        by_cases q : k % 2 = 0
        · have es : gST p u w k = gA0 p u w (k / 4) (k % 4) := by unfold gST; rw [if_pos q]
          rw [if_neg (show ¬ nI (k % 2) = (1 : Int32) by rw [q]; decide), ← es, ite_self]
          exact cnt _ _ (fun h => by omega)
        · rw [if_pos (show nI (k % 2) = (1 : Int32) by rw [show k % 2 = 1 by omega]; rfl)]
          have es : gST p u w k = gmx (gA0 p u w (k / 4) (k % 4)) (gA1 p u w (k % 4)) := by unfold gST; rw [if_neg q]
          have c3 : k = 3 → gA0 p u w (k / 4) (k % 4) = gA0 p u w 0 3 ∧ gA1 p u w (k % 4) = gA1 p u w 3 := fun h => by subst h; exact ⟨rfl, rfl⟩
          unfold gmx at es
          generalize gA0 p u w (k / 4) (k % 4) = b0 at es c3
          generalize gA1 p u w (k % 4) = b1 at es c3
          by_cases z : lg_cmp b1 b0 ≤ 0
          · have z' : ¬ lg_cmp b0 b1 < 0 := fun e => by
              have e1 := (lg_cmp_le _ _).mp z
              have e2 := (lg_cmp_lt _ _).mp e
              rw [Int64.le_iff_toInt_le] at e1
              rw [Int64.lt_iff_toInt_lt] at e2
              omega
            rw [if_neg z'] at es
            have := cnt b0 b1 c3
            rw [es] at this
            rw [if_pos z]
            exact this
          · have z' : lg_cmp b0 b1 < 0 := by
              rw [lg_cmp_lt]
              have e1 : ¬ b1 ≤ b0 := fun e => z ((lg_cmp_le _ _).mpr e)
              rw [Int64.le_iff_toInt_le] at e1
              rw [Int64.lt_iff_toInt_lt]
              omega
            rw [if_pos z'] at es
            have := cnt b0 b1 c3
            rw [es] at this
            rw [if_neg z]
            exact this
  exact go N 0 Mb x5 rfl (fun _ _ => rfl) (fun i hi => by omega) (fun h => by omega) (by omega) (by omega)
theorem r_game169 (hN : 4000 ≤ N) (K : Int32 → Int64 → Int32 → Int32 → Mem → Option (Int64 × Mem)) {Mb : Mem} {t : Nat} {u : Int64} {x2 x5 : Int32} : ∃ M2, f_m_game_169 N K N x2 u x5 (nI t) 0 Mb = K x2 (u * 100) x5 (nI t + (-1)) M2 ∧ M2.1 = Mb.1 ∧ (∀ i, i < 16 → M2.2 142 i = Mb.2 143 i) ∧ (∀ q, q ≠ 142 → M2.2 q = Mb.2 q) := by
  have go : ∀ n k (M' : Mem), M'.1 = Mb.1 → (∀ q, q ≠ 142 → M'.2 q = Mb.2 q) → (∀ i, i < k → M'.2 142 i = Mb.2 143 i) → k ≤ 16 → 16 < k + n → ∃ M2, f_m_game_169 N K n x2 u x5 (nI t) (nI k) M' = K x2 (u * 100) x5 (nI t + (-1)) M2 ∧ M2.1 = Mb.1 ∧ (∀ i, i < 16 → M2.2 142 i = Mb.2 143 i) ∧ (∀ q, q ≠ 142 → M2.2 q = Mb.2 q) := by
    intro n
    induction n with
    | zero => intro k M' _ _ _ a b; omega
    | succ n ih =>
      intro k M' e1 e2 e3 a b
      rw [f_m_game_169]
      by_cases e : k = 16
      · subst e
        rw [if_pos (show (16 : Int32) ≤ nI 16 by decide)]
        exact ⟨M', rfl, e1, e3, e2⟩
      · rw [if_neg (show ¬ (16 : Int32) ≤ nI k from nI_ge (b := 16) (by omega) (by decide)), if_pos (am_in_nI (by omega) (by decide)), if_pos (am_in_nI (by omega) (by decide)), nI_clamp (by omega), Option.bind_some, nI_1]
        refine ih (k + 1) _ e1 (fun q hq => ?_) (fun i hi => ?_) (by omega) (by omega)
        · show (if q = 142 then _ else M'.2 q) = _
          rw [if_neg hq, e2 q hq]
        · show (if 142 = 142 then vp_updL (M'.2 142) k (M'.2 143 k) else M'.2 142) i = _
          rw [if_pos rfl]
          by_cases z : i = k
          · rw [z, pk_uLs, e2 143 (by omega)]
          · rw [pk_uLn z, e3 i (by omega)]
  exact go N 0 Mb rfl (fun _ _ => rfl) (fun i hi => by omega) (by omega) (by omega)
/-- what the reference has when its last round is through -/
theorem r_game (hN : 4000 ≤ N) (hm1 : 1 ≤ m) (hm : m ≤ 5) (x2 : Int32) (hpv : ∀ t, t < 6 → pv t ≤ 100 ∧ Mr.1 130 (108 + t) = nI (pv t)) : ∃ M2 n, f_m_game_24 N N (nI m) x2 0 Mr = f_m_game_53 N (n + 1) x2 (lN (100 ^ m)) (if lg_cmp (gA1 (pv 0) (lN (100 ^ (m - 1))) (gW pv m (m - 1)) 3) (gA0 (pv 0) (lN (100 ^ (m - 1))) (gW pv m (m - 1)) 0 3) ≤ 0 then 0 else 1) (-1) M2 ∧ M2.1 = Mr.1 ∧ M2.2 142 3 = gW pv m m 3 ∧ (∀ q, q ≠ 142 → q ≠ 143 → M2.2 q = Mr.2 q) := by
  have fil : ∃ M1, f_m_game_24 N N (nI m) x2 0 Mr = f_m_game_53 N N x2 1 0 (nI m - 1) M1 ∧ M1.1 = Mr.1 ∧ (∀ i, i < 16 → M1.2 142 i = 0) ∧ (∀ q, q ≠ 142 → M1.2 q = Mr.2 q) := by
    have go : ∀ n k (M' : Mem), M'.1 = Mr.1 → (∀ i, i < k → M'.2 142 i = 0) → (∀ q, q ≠ 142 → M'.2 q = Mr.2 q) → k ≤ 16 → 16 < k + n → ∃ M1, f_m_game_24 N n (nI m) x2 (nI k) M' = f_m_game_53 N N x2 1 0 (nI m - 1) M1 ∧ M1.1 = Mr.1 ∧ (∀ i, i < 16 → M1.2 142 i = 0) ∧ (∀ q, q ≠ 142 → M1.2 q = Mr.2 q) := by
      intro n
      induction n with
      | zero => intro k M' _ _ _ a b; omega
      | succ n ih =>
        intro k M' e1 e2 e3 a b
        rw [f_m_game_24]
        by_cases e : k = 16
        · subst e
          exact ⟨M', by rw [if_pos (show (16 : Int32) ≤ nI 16 by decide)], e1, e2, e3⟩
        · rw [if_neg (show ¬ (16 : Int32) ≤ nI k from nI_ge (b := 16) (by omega) (by decide)), if_pos (am_in_nI (by omega) (by decide)), nI_clamp (by omega), Option.bind_some, nI_1]
          refine ih (k + 1) _ e1 (fun i hi => ?_) (fun q hq => ?_) (by omega) (by omega)
          · show (if 142 = 142 then vp_updL (M'.2 142) k 0 else M'.2 142) i = _
            rw [if_pos rfl]
            by_cases z : i = k
            · rw [z, pk_uLs]
            · rw [pk_uLn z, e2 i (by omega)]
          · show (if q = 142 then _ else M'.2 q) = _
            rw [if_neg hq, e3 q hq]
    exact go N 0 Mr rfl (fun i hi => by omega) (fun _ _ => rfl) (by omega) (by omega)
  obtain ⟨M1, f1, f2, f3, f4⟩ := fil
  have go : ∀ n t (Mb : Mem) (a5 : Int32), Mb.1 = Mr.1 → (∀ i, i < 16 → Mb.2 142 i = gW pv m (m - t) i) → (∀ q, q ≠ 142 → q ≠ 143 → Mb.2 q = Mr.2 q) → t ≤ m → t < n → (t = 0 → a5 = if lg_cmp (gA1 (pv 0) (lN (100 ^ (m - 1))) (gW pv m (m - 1)) 3) (gA0 (pv 0) (lN (100 ^ (m - 1))) (gW pv m (m - 1)) 0 3) ≤ 0 then 0 else 1) → ∃ M2 n', f_m_game_53 N n x2 (lN (100 ^ (m - t))) a5 (nI t - 1) Mb = f_m_game_53 N (n' + 1) x2 (lN (100 ^ m)) (if lg_cmp (gA1 (pv 0) (lN (100 ^ (m - 1))) (gW pv m (m - 1)) 3) (gA0 (pv 0) (lN (100 ^ (m - 1))) (gW pv m (m - 1)) 0 3) ≤ 0 then 0 else 1) (-1) M2 ∧ M2.1 = Mr.1 ∧ M2.2 142 3 = gW pv m m 3 ∧ (∀ q, q ≠ 142 → q ≠ 143 → M2.2 q = Mr.2 q) := by
    intro n
    induction n with
    | zero => intro t Mb a5 _ _ _ a b; omega
    | succ n ih =>
      intro t Mb a5 e1 e2 e3 a b e5
      by_cases e : t = 0
      · subst e
        rw [Nat.sub_zero] at e2 ⊢
        rw [e5 rfl]
        exact ⟨Mb, n, rfl, e1, e2 3 (by omega), e3⟩
      · obtain ⟨t', rfl⟩ : ∃ t', t = t' + 1 := ⟨t - 1, by omega⟩
        obtain ⟨h1, h2⟩ := hpv t' (by omega)
        rw [f_m_game_53, nI_pred, if_neg (nI_pos (by omega))]
        obtain ⟨M2, c1, c2, c3, c4⟩ := r_game61 (u := lN (100 ^ (m - (t' + 1)))) (x2 := x2) (x5 := a5) hN (f_m_game_53 N n) (t := t') (p := pv t') (w := gW pv m (m - (t' + 1))) (by omega) h1 (by rw [e1]; exact h2) e2
        obtain ⟨M3, d1, d2, d3, d4⟩ := r_game169 (Mb := M2) (t := t') (u := lN (100 ^ (m - (t' + 1)))) (x2 := x2) (x5 := (if lg_cmp (gA1 (pv t') (lN (100 ^ (m - (t' + 1)))) (gW pv m (m - (t' + 1))) 3) (gA0 (pv t') (lN (100 ^ (m - (t' + 1)))) (gW pv m (m - (t' + 1))) 0 3) ≤ 0 then 0 else 1)) hN (f_m_game_53 N n)
        have ej : m - t' = (m - (t' + 1)) + 1 := by omega
        have eu : lN (100 ^ (m - (t' + 1))) * (100 : Int64) = lN (100 ^ (m - t')) := by
          rw [ej, Nat.pow_succ, show (100 : Int64) = lN 100 from rfl, lN_mul]
        have em : nI t' + (-1 : Int32) = nI t' - 1 := by rw [Int32.sub_eq_add_neg]
        rw [c1, d1, eu, em]
        refine ih t' M3 _ (by rw [d2, c2, e1]) (fun i hi => ?_) (fun q q1 q2 => by rw [d4 q q1, c4 q q2, e3 q q1 q2]) (by omega) (by omega) (fun z => ?_)
        · rw [d3 i hi, c3 i hi, ej]
          show _ = gST (pv (m - 1 - (m - (t' + 1)))) (lN (100 ^ (m - (t' + 1)))) (gW pv m (m - (t' + 1))) i
          rw [show m - 1 - (m - (t' + 1)) = t' by omega]
        · subst z
          rfl
  have := go N m M1 0 f2 (fun i hi => by rw [Nat.sub_self]; exact f3 i hi) (fun q q1 _ => f4 q q1) (Nat.le_refl _) (by omega) (fun z => by omega)
  rw [Nat.sub_self, Nat.pow_zero] at this
  obtain ⟨M2, n, g1, g2, g3, g4⟩ := this
  refine ⟨M2, n, ?_, g2, g3, g4⟩
  rw [f1]
  exact g1
end PLAY
