/-! A case's head in the reference. -/
/-- what a head keeps: g chooses are open outside, c cases are written down -/
def Kc (u : Nat) (M M' : Mem) (p g c w : Nat) : Prop := Kp u M M' p g w ∧ ∀ i, i < 6 * g + c → M'.1 136 i = M.1 136 i ∧ M'.1 137 i = M.1 137 i
theorem Kc.tr {u p g c w : Nat} {M M1 M2 : Mem} (h : Kc u M M1 p g c w) (k : Kc u M1 M2 p g c w) : Kc u M M2 p g c w := ⟨h.1.tr k.1 (Nat.le_refl _) (Nat.le_refl _) (Nat.le_refl _), fun i hi => ⟨(k.2 i hi).1.trans (h.2 i hi).1, (k.2 i hi).2.trans (h.2 i hi).2⟩⟩
theorem Kc.rf {u p g c w : Nat} {M : Mem} : Kc u M M p g c w := ⟨Kp.rf, fun _ _ => ⟨rfl, rfl⟩⟩
theorem NS.kc {u p g c w : Nat} {M M' : Mem} (h : NS M M') : Kc u M M' p g c w := ⟨h.kp, fun i _ => ⟨h.1 _ _ (by omega), h.1 _ _ (by omega)⟩⟩
theorem Kc.ft {u p g c w i k : Nat} {M : Mem} (v : Int32) (hk : k = 136 ∨ k = 137) (hi : 6 * g + c ≤ i) : Kc u M (si M k i v) p g c w := by
  refine ⟨⟨fun j _ => ?_, fun j _ => ?_, fun j _ => ⟨?_, ?_⟩, fun j _ => ?_, fun q h1 h2 _ => ?_, fun j hj => ?_, fun _ _ _ => rfl⟩, fun j hj => ⟨?_, ?_⟩⟩
  · rw [si_at, if_neg (by omega)]
  · rw [si_at, if_neg (by omega)]
  · rw [si_at, if_neg (by omega)]
  · rw [si_at, if_neg (by omega)]
  · rw [si_at, if_neg (by omega)]
  · rw [si_1, if_neg (by omega)]
  · rw [si_at, if_neg (by omega)]
  · rw [si_at, if_neg (by omega)]
  · rw [si_at, if_neg (by omega)]
theorem Kc.ct {u p g c w : Nat} {M : Mem} (v : Int32) : Kc u M (si M 135 g v) p g c w := by
  refine ⟨⟨fun j _ => ?_, fun j _ => ?_, fun j _ => ⟨?_, ?_⟩, fun j _ => ?_, fun q h1 h2 _ => ?_, fun j hj => ?_, fun _ _ _ => rfl⟩, fun j hj => ⟨?_, ?_⟩⟩
  · rw [si_at, if_neg (by omega)]
  · rw [si_at, if_neg (by omega)]
  · rw [si_at, if_neg (by omega)]
  · rw [si_at, if_neg (by omega)]
  · rw [si_at, if_neg (by omega)]
  · rw [si_1, if_neg (by omega)]
  · rw [si_at, if_neg (by omega)]
  · rw [si_at, if_neg (by omega)]
  · rw [si_at, if_neg (by omega)]
section CASE
variable {B : Nat → Nat} {n u N : Nat} {M : Mem} {j d p g w wh c : Nat}
theorem Rs.oth (h : Rs B n u M j d p g w wh) {k i : Nat} (v : Int32) (hk : 134 ≤ k) : Rs B n u (si M k i v) j d p g w wh := by
  have h' := h
  obtain ⟨a, b, c, d1, d2, d3, d4, d5⟩ := h'
  refine h.up ?_ rfl ?_ ?_ ?_ ?_ ?_ ?_
  · rw [si_1, if_neg (by omega)]
  · intro i hi
    rw [si_at, if_neg (by omega)]
  · rw [si_at, if_neg (by omega)]; exact d1
  · rw [si_at, if_neg (by omega)]; exact d2
  · rw [si_at, if_neg (by omega)]; exact d3
  · rw [si_at, if_neg (by omega)]; exact d4
  · rw [si_at, if_neg (by omega)]; exact d5
/-- the colon -/
theorem case131 (hN : 4000 ≤ N) (hR : Rs B n u M j d p (g + 1) w wh) (hg : g < 9) (hc : M.1 135 g = nI c) : (kd B n (stk B n j) = 44 → ∃ M', f_m_oneCase_131 N (nI g) M = some (0, M') ∧ Rs B n u M' (j + 1) d p (g + 1) w wh ∧ M'.1 135 g = nI (c + 1) ∧ M'.1 136 = M.1 136 ∧ M'.1 137 = M.1 137 ∧ ∀ q, Kc u M M' q g (6 * 0 + 6) w) ∧ (kd B n (stk B n j) ≠ 44 → f_m_oneCase_131 N (nI g) M = some (1, M)) := by
  have tk := hR.2.1.2.2
  have s44 := tk.sg (k := 44) (by omega) (by omega)
  unfold f_m_oneCase_131
  constructor
  · intro h
    obtain ⟨M', n1, n2, n3⟩ := (hR.oth (k := 135) (i := g) (nI (c + 1)) (by omega)).next hN
    refine ⟨M', ?_, n2, ?_, ?_, ?_, fun q => (Kc.ct _).tr n3.kc⟩
    · rw [if_pos (show gi M 129 9 = (58 : Int32) from s44.mpr h), if_pos (am_in_nI hg (by decide)), if_pos (am_in_nI hg (by decide)), nI_clamp (by omega), show gi M 135 g = nI c from hc, nI_1, Option.bind_some, n1]
      rfl
    · rw [n3.1 _ _ (by omega), si_at, if_pos ⟨rfl, rfl⟩]
    · funext i
      rw [n3.1 _ _ (by omega), si_at, if_neg (by omega)]
    · funext i
      rw [n3.1 _ _ (by omega), si_at, if_neg (by omega)]
  · intro h
    rw [if_neg (show ¬ gi M 129 9 = (58 : Int32) from fun e => h (s44.mp e))]
theorem any_num (tk : TkR M B n (stk B n j)) : f_m_anyNumber M = if kd B n (stk B n j) = 33 then (if nm B n (stk B n j) ≤ 9999 then 0 else 2) else 1 := by
  unfold f_m_anyNumber
  by_cases a : kd B n (stk B n j) = 33
  · rw [if_pos (tk.one.mpr a), if_pos a]
    by_cases b : nm B n (stk B n j) ≤ 9999
    · rw [if_pos ((tk.num a).2.mpr b), if_pos b]
    · rw [if_neg (fun e => b ((tk.num a).2.mp e)), if_neg b]
  · rw [if_neg (fun e => a (tk.one.mp e)), if_neg a]
/-- heads that are as they should be; heads that aren't -/
def HdOk (B : Nat → Nat) (n j j2 lo hi : Nat) : Prop := kd B n (stk B n (j + 1)) = 33 ∧ nm B n (stk B n (j + 1)) ≤ 9999 ∧ lo = nm B n (stk B n (j + 1)) ∧ ((kd B n (stk B n (j + 2)) = 44 ∧ j2 = j + 3 ∧ hi = lo) ∨ (kd B n (stk B n (j + 2)) = 29 ∧ kd B n (stk B n (j + 3)) = 33 ∧ nm B n (stk B n (j + 3)) ≤ 9999 ∧ hi = nm B n (stk B n (j + 3)) ∧ lo ≤ hi ∧ kd B n (stk B n (j + 4)) = 44 ∧ j2 = j + 5))
def HdFl (B : Nat → Nat) (n j f jf : Nat) : Prop := (kd B n (stk B n (j + 1)) ≠ 33 ∧ f = 1 ∧ jf = j + 1) ∨ (kd B n (stk B n (j + 1)) = 33 ∧ 9999 < nm B n (stk B n (j + 1)) ∧ f = 2 ∧ jf = j + 1) ∨ (kd B n (stk B n (j + 1)) = 33 ∧ nm B n (stk B n (j + 1)) ≤ 9999 ∧ ((kd B n (stk B n (j + 2)) ≠ 29 ∧ kd B n (stk B n (j + 2)) ≠ 44 ∧ f = 1 ∧ jf = j + 2) ∨ (kd B n (stk B n (j + 2)) = 29 ∧ ((kd B n (stk B n (j + 3)) ≠ 33 ∧ f = 1 ∧ jf = j + 3) ∨ (kd B n (stk B n (j + 3)) = 33 ∧ 9999 < nm B n (stk B n (j + 3)) ∧ f = 2 ∧ jf = j + 3) ∨ (kd B n (stk B n (j + 3)) = 33 ∧ nm B n (stk B n (j + 3)) ≤ 9999 ∧ nm B n (stk B n (j + 3)) < nm B n (stk B n (j + 1)) ∧ f = 7 ∧ jf = j + 3) ∨ (kd B n (stk B n (j + 3)) = 33 ∧ nm B n (stk B n (j + 3)) ≤ 9999 ∧ nm B n (stk B n (j + 1)) ≤ nm B n (stk B n (j + 3)) ∧ kd B n (stk B n (j + 4)) ≠ 44 ∧ f = 1 ∧ jf = j + 4)))))
theorem case_head (hN : 4000 ≤ N) (hR : Rs B n u M j d p (g + 1) w wh) (hg : g < 9) (hc : M.1 135 g = nI c) (hc6 : c < 6) : (∀ j2 lo hi, HdOk B n j j2 lo hi → ∃ M', f_m_oneCase N M = some (0, M') ∧ Rs B n u M' j2 d p (g + 1) w wh ∧ M'.1 135 g = nI (c + 1) ∧ M'.1 136 (6 * g + c) = nI lo ∧ M'.1 137 (6 * g + c) = nI hi ∧ ∀ q, Kc u M M' q g c w) ∧ (∀ f jf, HdFl B n j f jf → ∃ M', f_m_oneCase N M = some (nI f, M') ∧ M'.1 129 8 = nI (stk B n jf) ∧ ∀ q, Kc u M M' q g c w) := by
  have h21 : gi M 129 21 = nI (g + 1) := hR.2.2.2.2.2.2.1
  obtain ⟨M1, n1, R1, s1⟩ := hR.next hN
  have tk1 := R1.2.1.2.2
  have an1 := any_num tk1
  have ix : (6 : Int32) * nI g + nI c = nI (6 * g + c) := by rw [show (6 : Int32) = nI 6 from rfl, nI_mul, nI_add]
  have ai : am_in (nI (6 * g + c)) 54 = true := am_in_nI (by omega) (by decide)
  have ag : am_in (nI g) 9 = true := am_in_nI hg (by decide)
  have c1 : gi M1 135 g = nI c := (s1.1 _ _ (by omega)).trans hc
  have nc6 : ¬ nI c = (6 : Int32) := fun e => by have := (nI_eq (b := 6) (by omega) (by decide)).mp e; omega
  have X : f_m_oneCase N M = if f_m_anyNumber M1 = 0 then Option.bind (f_m_nextToken N (si (si M1 136 (6 * g + c) (gi M1 129 10)) 137 (6 * g + c) (gi M1 129 10))) (fun q4 => (if f_m_isWord (29807 : Int64) q4 = 0 then f_m_oneCase_131 N (nI g) q4 else Option.bind (f_m_nextToken N q4) fun q5 => (if f_m_anyNumber q5 = 0 then (if am_in (nI (6 * g + c)) 54 = true then (if gi q5 136 (6 * g + c) ≤ gi q5 129 10 then (if am_in (nI (6 * g + c)) 54 = true then Option.bind (some (si q5 137 (6 * g + c) (gi q5 129 10))) fun q6 => Option.bind (f_m_nextToken N q6) fun q7 => f_m_oneCase_131 N (nI g) q7 else none) else some ((7 : Int32), q5)) else none) else some (f_m_anyNumber q5, q5)))) else some (f_m_anyNumber M1, M1) := by
    unfold f_m_oneCase
    rw [h21, nI_s1, if_pos ag, nI_clamp (by omega), show gi M 135 g = nI c from hc, if_neg nc6, n1, Option.bind_some, c1, ix, if_pos ag, if_pos ai, nI_clamp (by omega), Option.bind_some, if_pos ai, Option.bind_some]
    rfl
  by_cases a : kd B n (stk B n (j + 1)) = 33
  · by_cases b : nm B n (stk B n (j + 1)) ≤ 9999
    · rw [if_pos a, if_pos b] at an1
      have v1 := (tk1.num a).1 b
      rw [if_pos an1, v1] at X
      obtain ⟨M4, n4, R4, s4⟩ := ((R1.oth (k := 136) (i := 6 * g + c) (nI (nm B n (stk B n (j + 1)))) (by omega)).oth (k := 137) (i := 6 * g + c) (nI (nm B n (stk B n (j + 1)))) (by omega)).next hN
      have k4 : ∀ q, Kc u M M4 q g c w := fun q => ((s1.kc.tr (Kc.ft _ (Or.inl rfl) (Nat.le_refl _))).tr (Kc.ft _ (Or.inr rfl) (Nat.le_refl _))).tr s4.kc
      have f4 : M4.1 136 (6 * g + c) = nI (nm B n (stk B n (j + 1))) := by rw [s4.1 _ _ (by omega), si_at, if_neg (by omega), si_at, if_pos ⟨rfl, rfl⟩]
      have g4 : M4.1 137 (6 * g + c) = nI (nm B n (stk B n (j + 1))) := by rw [s4.1 _ _ (by omega), si_at, if_pos ⟨rfl, rfl⟩]
      have c4 : M4.1 135 g = nI c := by
        rw [s4.1 _ _ (by omega), si_at, if_neg (by omega), si_at, if_neg (by omega)]
        exact c1
      rw [n4, Option.bind_some] at X
      have tk4 := R4.2.1.2.2
      have w29 := tk4.wn (k := 29) (v := 29807) (by decide) (by decide)
      obtain ⟨y1, y2⟩ := case131 (N := N) hN R4 hg c4
      by_cases e : kd B n (stk B n (j + 1 + 1)) = 29
      · rw [if_neg (fun z => w29.mp z e)] at X
        obtain ⟨M5, n5, R5, s5⟩ := R4.next hN
        have tk5 := R5.2.1.2.2
        have an5 := any_num tk5
        have f5 : gi M5 136 (6 * g + c) = nI (nm B n (stk B n (j + 1))) := (s5.1 _ _ (by omega)).trans f4
        rw [n5, Option.bind_some, if_pos ai, if_pos ai, f5] at X
        have k5 : ∀ q, Kc u M M5 q g c w := fun q => (k4 q).tr s5.kc
        by_cases a2 : kd B n (stk B n (j + 1 + 1 + 1)) = 33
        · by_cases b2 : nm B n (stk B n (j + 1 + 1 + 1)) ≤ 9999
          · rw [if_pos a2, if_pos b2] at an5
            rw [if_pos an5, (tk5.num a2).1 b2] at X
            by_cases o : nm B n (stk B n (j + 1)) ≤ nm B n (stk B n (j + 1 + 1 + 1))
            · rw [if_pos (nI_le o (by omega)), Option.bind_some] at X
              obtain ⟨M7, n7, R7, s7⟩ := (R5.oth (k := 137) (i := 6 * g + c) (nI (nm B n (stk B n (j + 1 + 1 + 1)))) (by omega)).next hN
              have k7 : ∀ q, Kc u M M7 q g c w := fun q => ((k5 q).tr (Kc.ft _ (Or.inr rfl) (Nat.le_refl _))).tr s7.kc
              rw [n7, Option.bind_some] at X
              have c7 : M7.1 135 g = nI c := by
                rw [s7.1 _ _ (by omega), si_at, if_neg (by omega), s5.1 _ _ (by omega)]
                exact c4
              have f7 : M7.1 136 (6 * g + c) = nI (nm B n (stk B n (j + 1))) := by
                rw [s7.1 _ _ (by omega), si_at, if_neg (by omega)]
                exact f5
              have g7 : M7.1 137 (6 * g + c) = nI (nm B n (stk B n (j + 1 + 1 + 1))) := by rw [s7.1 _ _ (by omega), si_at, if_pos ⟨rfl, rfl⟩]
              obtain ⟨z1, z2⟩ := case131 (N := N) hN R7 hg c7
              constructor
              · rintro j2 lo hi ⟨h1, h2, h3, h4⟩
                rcases h4 with ⟨h4, -⟩ | ⟨h4, h5, h6, h7, h8, h9, h10⟩
                · exact absurd (h4.symm.trans e) (by decide)
                · obtain ⟨M8, m1, m2, m3, m4, m5, m6⟩ := z1 h9
                  refine ⟨M8, X.trans m1, ?_, m3, ?_, ?_, fun q => (k7 q).tr ⟨(m6 q).1, fun i hi => (m6 q).2 i (by omega)⟩⟩
                  · rw [h10]; exact m2
                  · rw [m4, f7, h3]
                  · rw [m5, g7, h7]
              · intro f jf h
                unfold HdFl at h
                have hh : kd B n (stk B n (j + 4)) ≠ 44 ∧ f = 1 ∧ jf = j + 4 := by
                  have q1 : kd B n (stk B n (j + 2)) = 29 := e
                  have q2 : kd B n (stk B n (j + 3)) = 33 := a2
                  have q3 : nm B n (stk B n (j + 3)) ≤ 9999 := b2
                  have q4 : nm B n (stk B n (j + 1)) ≤ nm B n (stk B n (j + 3)) := o
                  omega
                refine ⟨M7, ?_, ?_, k7⟩
                · rw [X, z2 hh.1, hh.2.1]; rfl
                · rw [R7.2.1.1, hh.2.2]
            · rw [if_neg (nI_ge (by omega) (by omega))] at X
              have q1 : kd B n (stk B n (j + 2)) = 29 := e
              have q2 : kd B n (stk B n (j + 3)) = 33 := a2
              have q3 : nm B n (stk B n (j + 3)) ≤ 9999 := b2
              have q4 : ¬ nm B n (stk B n (j + 1)) ≤ nm B n (stk B n (j + 3)) := o
              constructor
              · rintro j2 lo hi ⟨h1, h2, h3, h4⟩
                omega
              · intro f jf h
                unfold HdFl at h
                have hh : f = 7 ∧ jf = j + 3 := by omega
                refine ⟨M5, ?_, ?_, k5⟩
                · rw [X, hh.1]; rfl
                · rw [R5.2.1.1, hh.2]
          · rw [if_pos a2, if_neg b2] at an5
            rw [an5, if_neg (show ¬ (2 : Int32) = 0 by decide)] at X
            have q1 : kd B n (stk B n (j + 2)) = 29 := e
            have q2 : kd B n (stk B n (j + 3)) = 33 := a2
            have q3 : ¬ nm B n (stk B n (j + 3)) ≤ 9999 := b2
            constructor
            · rintro j2 lo hi ⟨h1, h2, h3, h4⟩
              omega
            · intro f jf h
              unfold HdFl at h
              have hh : f = 2 ∧ jf = j + 3 := by omega
              refine ⟨M5, ?_, ?_, k5⟩
              · rw [X, hh.1]; rfl
              · rw [R5.2.1.1, hh.2]
        · rw [if_neg a2] at an5
          rw [an5, if_neg (show ¬ (1 : Int32) = 0 by decide)] at X
          have q1 : kd B n (stk B n (j + 2)) = 29 := e
          have q2 : ¬ kd B n (stk B n (j + 3)) = 33 := a2
          constructor
          · rintro j2 lo hi ⟨h1, h2, h3, h4⟩
            omega
          · intro f jf h
            unfold HdFl at h
            have hh : f = 1 ∧ jf = j + 3 := by omega
            refine ⟨M5, ?_, ?_, k5⟩
            · rw [X, hh.1]; rfl
            · rw [R5.2.1.1, hh.2]
      · rw [if_pos (w29.mpr e)] at X
        have q1 : ¬ kd B n (stk B n (j + 2)) = 29 := e
        constructor
        · rintro j2 lo hi ⟨h1, h2, h3, h4⟩
          have h5 : kd B n (stk B n (j + 2)) = 44 ∧ j2 = j + 3 ∧ hi = lo := by omega
          obtain ⟨M8, m1, m2, m3, m4, m5, m6⟩ := y1 h5.1
          refine ⟨M8, X.trans m1, ?_, m3, ?_, ?_, fun q => (k4 q).tr ⟨(m6 q).1, fun i hi => (m6 q).2 i (by omega)⟩⟩
          · rw [h5.2.1]; exact m2
          · rw [m4, f4, h3]
          · rw [m5, g4, h5.2.2, h3]
        · intro f jf h
          unfold HdFl at h
          have hh : kd B n (stk B n (j + 2)) ≠ 44 ∧ f = 1 ∧ jf = j + 2 := by omega
          refine ⟨M4, ?_, ?_, k4⟩
          · rw [X, y2 hh.1, hh.2.1]; rfl
          · rw [R4.2.1.1, hh.2.2]
    · rw [if_pos a, if_neg b] at an1
      rw [an1, if_neg (show ¬ (2 : Int32) = 0 by decide)] at X
      constructor
      · rintro j2 lo hi ⟨h1, h2, h3, h4⟩
        omega
      · intro f jf h
        unfold HdFl at h
        have hh : f = 2 ∧ jf = j + 1 := by omega
        refine ⟨M1, ?_, ?_, fun q => s1.kc⟩
        · rw [X, hh.1]; rfl
        · rw [R1.2.1.1, hh.2]
  · rw [if_neg a] at an1
    rw [an1, if_neg (show ¬ (1 : Int32) = 0 by decide)] at X
    constructor
    · rintro j2 lo hi ⟨h1, h2, h3, h4⟩
      omega
    · intro f jf h
      unfold HdFl at h
      have hh : f = 1 ∧ jf = j + 1 := by omega
      refine ⟨M1, ?_, ?_, fun q => s1.kc⟩
      · rw [X, hh.1]; rfl
      · rw [R1.2.1.1, hh.2]
end CASE
