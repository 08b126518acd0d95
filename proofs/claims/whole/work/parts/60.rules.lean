/-! How a run is built. -/
section XR
variable {S : Nat × (Nat → Int32)} {P : Nat → Option am_Mth} {CP : Nat → Nat → Option am_R}
theorem am_ex_succ : ∀ (n d mc ms : Nat) (M : am_Mth) (pc : Nat) (lv : am_L) (st : List Value) (h : am_H) (x : Option Value × am_H), am_ex P CP S n d mc ms M pc lv st h = some x → am_ex P CP S (n + 1) d mc ms M pc lv st h = some x := by
  intro n
  induction n with
  | zero => intro d mc ms M pc lv st h x hx; cases hx
  | succ n ih =>
    intro d mc ms M pc lv st h x hx
    rw [am_ex] at hx ⊢
    split at hx
    · cases hx
    · rename_i ins len hat
      try simp only [hat]
      split at hx
      · rename_i hst
        try simp only [hst]
        exact ih _ _ _ _ _ _ _ _ _ hx
      · rename_i hst
        try simp only [hst]
        split at hx
        · rename_i hr
          try simp only [hr]
          exact hx
        · rename_i hr
          try simp only [hr]
          split at hx
          · rename_i hinv
            try simp only [hinv]
            split at hx
            · cases hx
            · obtain ⟨hb, hx⟩ := am_bifo hx
              try simp only [hb, cond_true]
              split at hx
              · rename_i hc
                rw [ih _ _ _ _ _ _ _ _ _ hc]
                exact ih _ _ _ _ _ _ _ _ _ hx
              · cases hx
          · rename_i hinv
            try simp only [hinv]
            split at hx
            · rename_i hmk
              try simp only [hmk]
              obtain ⟨hb, hx⟩ := am_bifo hx
              try simp only [hb, cond_true]
              exact ih _ _ _ _ _ _ _ _ _ hx
            · cases hx
theorem am_ex_mono {n k : Nat} (hk : n ≤ k) {d mc ms : Nat} {M : am_Mth} {pc : Nat} {lv : am_L} {st : List Value} {h : am_H} {x : Option Value × am_H} (hx : am_ex P CP S n d mc ms M pc lv st h = some x) : am_ex P CP S k d mc ms M pc lv st h = some x := by
  induction hk with
  | refl => exact hx
  | step _ ih => exact am_ex_succ _ _ _ _ _ _ _ _ _ _ ih
theorem am_ex_deep : ∀ (n d mc ms : Nat) (M : am_Mth) (pc : Nat) (lv : am_L) (st : List Value) (h : am_H) (x : Option Value × am_H), am_ex P CP S n d mc ms M pc lv st h = some x → am_ex P CP S n (d + 1) mc ms M pc lv st h = some x := by
  intro n
  induction n with
  | zero => intro d mc ms M pc lv st h x hx; cases hx
  | succ n ih =>
    intro d mc ms M pc lv st h x hx
    rw [am_ex] at hx ⊢
    split at hx
    · cases hx
    · rename_i ins len hat
      try simp only [hat]
      split at hx
      · rename_i hst
        try simp only [hst]
        exact ih _ _ _ _ _ _ _ _ _ hx
      · rename_i hst
        try simp only [hst]
        split at hx
        · rename_i hr
          try simp only [hr]
          exact hx
        · rename_i hr
          try simp only [hr]
          split at hx
          · rename_i hinv
            try simp only [hinv]
            split at hx
            · cases hx
            · obtain ⟨hb, hx⟩ := am_bifo hx
              try simp only [hb, cond_true]
              split at hx
              · rename_i hc
                rw [ih _ _ _ _ _ _ _ _ _ hc]
                exact ih _ _ _ _ _ _ _ _ _ hx
              · cases hx
          · rename_i hinv
            try simp only [hinv]
            split at hx
            · rename_i hmk
              try simp only [hmk]
              obtain ⟨hb, hx⟩ := am_bifo hx
              try simp only [hb, cond_true]
              exact ih _ _ _ _ _ _ _ _ _ hx
            · cases hx
/-- from a place of a method it comes to its return, by calls d deep at most, making mc cells of ms slots at most -/
def am_Y (S : Nat × (Nat → Int32)) (d mc ms : Nat) (M : am_Mth) (pc : Nat) (lv : am_L) (st : List Value) (h : am_H) (r : Option Value) (h' : am_H) : Prop := ∃ n, am_ex am_Pr am_CP S n d mc ms M pc lv st h = some (r, h')
def am_stp (S : Nat × (Nat → Int32)) (M : am_Mth) (pc : Nat) (lv : am_L) (st : List Value) (h : am_H) : Option (Nat × am_L × List Value × am_H) := match am_at (am_code M) pc with
  | some (ins, len) => am_step am_CP S am_byt (am_oc M) (am_maxL M) (am_isI M) ins pc len lv st h
  | none => none
def am_run (S : Nat × (Nat → Int32)) (M : am_Mth) : Nat → Nat → am_L → List Value → am_H → Option (Nat × am_L × List Value × am_H)
  | 0, pc, lv, st, h => some (pc, lv, st, h)
  | k + 1, pc, lv, st, h => match am_stp S M pc lv st h with
    | some (pc', lv', st', h') => am_run S M k pc' lv' st' h'
    | none => none
def am_rets (S : Nat × (Nat → Int32)) (M : am_Mth) (pc : Nat) (lv : am_L) (st : List Value) (h : am_H) : Option (Option Value) := match am_at (am_code M) pc with
  | some (ins, len) => match am_step am_CP S am_byt (am_oc M) (am_maxL M) (am_isI M) ins pc len lv st h with
    | some _ => none
    | none => am_ret (am_rty M) ins st
  | none => none
def am_calls (S : Nat × (Nat → Int32)) (M : am_Mth) (pc : Nat) (lv : am_L) (st : List Value) (h : am_H) : Option (am_Mth × List Value × List Value) := match am_at (am_code M) pc with
  | some (ins, len) => match am_step am_CP S am_byt (am_oc M) (am_maxL M) (am_isI M) ins pc len lv st h with
    | some _ => none
    | none => match am_ret (am_rty M) ins st with
      | some _ => none
      | none => am_inv am_Pr am_CP (am_oc M) h ins st
  | none => none
def am_makes (S : Nat × (Nat → Int32)) (M : am_Mth) (pc : Nat) (lv : am_L) (st : List Value) (h : am_H) : Option (List am_C × List Value × Nat × Nat) := match am_at (am_code M) pc with
  | some (ins, len) => match am_step am_CP S am_byt (am_oc M) (am_maxL M) (am_isI M) ins pc len lv st h with
    | some _ => none
    | none => match am_ret (am_rty M) ins st with
      | some _ => none
      | none => match am_inv am_Pr am_CP (am_oc M) h ins st with
        | some _ => none
        | none => (am_make am_CP (am_oc M) h ins st).map fun q => (q.1, q.2.1, q.2.2, len)
  | none => none
variable {d mc ms : Nat} {M : am_Mth} {pc pc' : Nat} {lv lv' : am_L} {st st' : List Value} {h h' hf : am_H} {r : Option Value}
theorem am_Y.one (ho : am_stp S M pc lv st h = some (pc', lv', st', h')) (k : am_Y S d mc ms M pc' lv' st' h' r hf) : am_Y S d mc ms M pc lv st h r hf := by
  obtain ⟨n, hn⟩ := k
  refine ⟨n + 1, ?_⟩
  unfold am_stp at ho
  rw [am_ex]
  split at ho
  · rename_i hat
    rw [hat]
    simp only [ho]
    exact hn
  · cases ho
theorem am_Y.run : ∀ {k pc : Nat} {lv : am_L} {st : List Value} {h : am_H}, am_run S M k pc lv st h = some (pc', lv', st', h') → am_Y S d mc ms M pc' lv' st' h' r hf → am_Y S d mc ms M pc lv st h r hf
  | 0, pc, lv, st, h, ho, k => by cases ho; exact k
  | q + 1, pc, lv, st, h, ho, k => by
    unfold am_run at ho
    split at ho
    · rename_i h1
      exact am_Y.one h1 (am_Y.run ho k)
    · cases ho
theorem am_Y.br {c : Prop} (dc : Decidable c) {t u : Nat} (ho : am_stp S M pc lv st h = some (@ite Nat c dc t u, lv', st', h')) (kt : c → am_Y S d mc ms M t lv' st' h' r hf) (ku : ¬ c → am_Y S d mc ms M u lv' st' h' r hf) : am_Y S d mc ms M pc lv st h r hf := by
  by_cases hc : c
  · rw [if_pos hc] at ho
    exact am_Y.one ho (kt hc)
  · rw [if_neg hc] at ho
    exact am_Y.one ho (ku hc)
theorem am_Y.ret (ho : am_rets S M pc lv st h = some r) : am_Y S d mc ms M pc lv st h r h := by
  refine ⟨1, ?_⟩
  unfold am_rets at ho
  rw [am_ex]
  split at ho
  · rename_i hat
    rw [hat]
    split at ho
    · cases ho
    · rename_i hst
      simp only [hst, ho]
  · cases ho
theorem am_Y.call {M' : am_Mth} {as rest : List Value} {d' : Nat} {r1 : Option Value} {h1 : am_H} (ho : am_calls S M pc lv st h = some (M', as, rest)) (hd : d' + 1 ≤ d) (hc : Nat.ble (am_mc M') mc = true) (hs : Nat.ble (am_ms M') ms = true) (k1 : am_Y S d' (am_mc M') (am_ms M') M' 0 (lv_args 0 as) [] h r1 h1) (k : am_Y S d (mc - am_mc M') (ms - am_ms M') M (pc + 3) lv (r1.toList ++ rest) h1 r hf) : am_Y S d mc ms M pc lv st h r hf := by
  obtain ⟨n1, e1⟩ := k1
  obtain ⟨n2, e2⟩ := k
  obtain ⟨q, rfl⟩ : ∃ q, d = q + 1 := ⟨d - 1, by omega⟩
  have e3 : ∀ j, am_ex am_Pr am_CP S n1 (d' + j) (am_mc M') (am_ms M') M' 0 (lv_args 0 as) [] h = some (r1, h1) := by
    intro j
    induction j with
    | zero => exact e1
    | succ j ih => exact am_ex_deep _ _ _ _ _ _ _ _ _ _ ih
  have e4 := e3 (q - d')
  rw [show d' + (q - d') = q by omega] at e4
  refine ⟨n1 + n2 + 1, ?_⟩
  unfold am_calls at ho
  rw [am_ex]
  split at ho
  · rename_i hat
    rw [hat]
    split at ho
    · cases ho
    · rename_i hst
      split at ho
      · cases ho
      · rename_i hr
        simp only [hst, hr, ho, hc, hs, Bool.and_true, cond_true]
        rw [am_ex_mono (by omega) e4]
        exact am_ex_mono (by omega) e2
  · cases ho
theorem am_Y.make {cs : List am_C} {rest : List Value} {ds len : Nat} (ho : am_makes S M pc lv st h = some (cs, rest, ds, len)) (hc : Nat.ble cs.length mc = true) (hs : Nat.ble ds ms = true) (k : am_Y S d (mc - cs.length) (ms - ds) M (pc + len) lv (.ref (h.length + 5) :: rest) (h ++ cs) r hf) : am_Y S d mc ms M pc lv st h r hf := by
  obtain ⟨n2, e2⟩ := k
  refine ⟨n2 + 1, ?_⟩
  unfold am_makes at ho
  rw [am_ex]
  split at ho
  · rename_i hat
    rw [hat]
    split at ho
    · cases ho
    · rename_i hst
      split at ho
      · cases ho
      · rename_i hr
        split at ho
        · cases ho
        · rename_i hinv
          obtain ⟨q, hq, he⟩ := Option.map_eq_some_iff.mp ho
          obtain ⟨cs', rest', ds'⟩ := q
          cases he
          simp only [hst, hr, hinv, hq, hc, hs, Bool.and_true, cond_true]
          exact e2
  · cases ho
/-- the method as a whole -/
abbrev am_F (S : Nat × (Nat → Int32)) (d : Nat) (M : am_Mth) (as : List Value) (h : am_H) (r : Option Value) (h' : am_H) : Prop := am_Y S d (am_mc M) (am_ms M) M 0 (lv_args 0 as) [] h r h'
theorem am_Y.call0 {M' : am_Mth} {as rest : List Value} {d' : Nat} {r1 : Option Value} {h1 : am_H} (ho : am_calls S M pc lv st h = some (M', as, rest)) (hd : d' + 1 ≤ d) (hc : am_mc M' = 0) (hs : am_ms M' = 0) (k1 : am_Y S d' 0 0 M' 0 (lv_args 0 as) [] h r1 h1) (k : am_Y S d mc ms M (pc + 3) lv (r1.toList ++ rest) h1 r hf) : am_Y S d mc ms M pc lv st h r hf := by
  refine am_Y.call ho hd (by rw [hc]; exact Nat.ble_eq.mpr (Nat.zero_le _)) (by rw [hs]; exact Nat.ble_eq.mpr (Nat.zero_le _)) (by rw [hc, hs]; exact k1) (by rw [hc, hs]; exact k)
/-! guarded reads and writes -/
theorem am_Y.iald {a n : Nat} {i : Int32} {f : Nat → Int32} {rest : List Value} (hat : am_at (am_code M) pc = some (.iaload, 1)) (hc : am_nth h a = some (.inl (0, n, .inl f))) (g : am_in i n = true) (k : am_Y S d mc ms M (pc + 1) lv (.int (f i.toNatClampNeg) :: rest) h r hf) : am_Y S d mc ms M pc lv (.int i :: .ref (a + 5) :: rest) h r hf := by
  refine am_Y.one ?_ k
  simp only [am_stp, hat, am_step, am_load, am_pure, am_read, hc, g, cond_true]
theorem am_Y.sald {i : Int32} {rest : List Value} (hat : am_at (am_code M) pc = some (.iaload, 1)) (g : am_in i S.1 = true) (k : am_Y S d mc ms M (pc + 1) lv (.int (S.2 i.toNatClampNeg) :: rest) h r hf) : am_Y S d mc ms M pc lv (.int i :: .ref 0 :: rest) h r hf := by
  refine am_Y.one ?_ k
  simp only [am_stp, hat, am_step, am_load, am_pure, am_read, g, cond_true]
theorem am_Y.lald {a n : Nat} {i : Int32} {f : Nat → Int64} {rest : List Value} (hat : am_at (am_code M) pc = some (.laload, 1)) (hc : am_nth h a = some (.inl (1, n, .inr (.inl f)))) (g : am_in i n = true) (k : am_Y S d mc ms M (pc + 1) lv (.long (f i.toNatClampNeg) :: rest) h r hf) : am_Y S d mc ms M pc lv (.int i :: .ref (a + 5) :: rest) h r hf := by
  refine am_Y.one ?_ k
  simp only [am_stp, hat, am_step, am_load, am_pure, am_read, hc, g, cond_true]
theorem am_Y.zald {a n : Nat} {i : Int32} {f : Nat → Int32} {rest : List Value} (hat : am_at (am_code M) pc = some (.baload, 1)) (hc : am_nth h a = some (.inl (2, n, .inl f))) (g : am_in i n = true) (k : am_Y S d mc ms M (pc + 1) lv (.int (f i.toNatClampNeg) :: rest) h r hf) : am_Y S d mc ms M pc lv (.int i :: .ref (a + 5) :: rest) h r hf := by
  refine am_Y.one ?_ k
  simp only [am_stp, hat, am_step, am_load, am_pure, am_read, hc, g, cond_true]
theorem am_Y.aald {a n t : Nat} {i : Int32} {f : Nat → Option Nat} {rest : List Value} (hat : am_at (am_code M) pc = some (.aaload, 1)) (hc : am_nth h a = some (.inl (t, n, .inr (.inr (.inr (.inr f)))))) (ht : (Nat.beq t 3 || Nat.beq t 4) = true) (g : am_in i n = true) (k : am_Y S d mc ms M (pc + 1) lv (va_rf (f i.toNatClampNeg) :: rest) h r hf) : am_Y S d mc ms M pc lv (.int i :: .ref (a + 5) :: rest) h r hf := by
  refine am_Y.one ?_ k
  simp only [am_stp, hat, am_step, am_load, am_pure, am_read, hc, g, ht, Bool.and_true, cond_true]
theorem am_Y.iast {a n : Nat} {i x : Int32} {f : Nat → Int32} {rest : List Value} (hat : am_at (am_code M) pc = some (.iastore, 1)) (hc : am_nth h a = some (.inl (0, n, .inl f))) (g : am_in i n = true) (k : am_Y S d mc ms M (pc + 1) lv rest (am_put h a (.inl (0, n, .inl (upd f i.toNatClampNeg x)))) r hf) : am_Y S d mc ms M pc lv (.int x :: .int i :: .ref (a + 5) :: rest) h r hf := by
  refine am_Y.one ?_ k
  simp only [am_stp, hat, am_step, am_load, am_pure, am_read, am_store, am_jump, am_write, hc, g, cond_true]
theorem am_Y.last {a n : Nat} {i : Int32} {x : Int64} {f : Nat → Int64} {rest : List Value} (hat : am_at (am_code M) pc = some (.lastore, 1)) (hc : am_nth h a = some (.inl (1, n, .inr (.inl f)))) (g : am_in i n = true) (k : am_Y S d mc ms M (pc + 1) lv rest (am_put h a (.inl (1, n, .inr (.inl (vp_updL f i.toNatClampNeg x))))) r hf) : am_Y S d mc ms M pc lv (.long x :: .int i :: .ref (a + 5) :: rest) h r hf := by
  refine am_Y.one ?_ k
  simp only [am_stp, hat, am_step, am_load, am_pure, am_read, am_store, am_jump, am_write, hc, g, cond_true]
theorem am_Y.zast {a n : Nat} {i x : Int32} {f : Nat → Int32} {rest : List Value} (hat : am_at (am_code M) pc = some (.bastore, 1)) (hc : am_nth h a = some (.inl (2, n, .inl f))) (g : am_in i n = true) (gx : (decide (x = 0) || decide (x = 1)) = true) (k : am_Y S d mc ms M (pc + 1) lv rest (am_put h a (.inl (2, n, .inl (upd f i.toNatClampNeg x)))) r hf) : am_Y S d mc ms M pc lv (.int x :: .int i :: .ref (a + 5) :: rest) h r hf := by
  refine am_Y.one ?_ k
  simp only [am_stp, hat, am_step, am_load, am_pure, am_read, am_store, am_jump, am_write, hc, g, gx, Bool.and_true, cond_true]
theorem am_Y.idv {x y : Int32} {rest : List Value} (hat : am_at (am_code M) pc = some (.idiv, 1)) (g : ¬ y = 0) (k : am_Y S d mc ms M (pc + 1) lv (.int (x / y) :: rest) h r hf) : am_Y S d mc ms M pc lv (.int y :: .int x :: rest) h r hf := by
  refine am_Y.one ?_ k
  simp only [am_stp, hat, am_step, am_load, am_pure, g, if_false]
theorem am_Y.irm {x y : Int32} {rest : List Value} (hat : am_at (am_code M) pc = some (.irem, 1)) (g : ¬ y = 0) (k : am_Y S d mc ms M (pc + 1) lv (.int (x - x / y * y) :: rest) h r hf) : am_Y S d mc ms M pc lv (.int y :: .int x :: rest) h r hf := by
  refine am_Y.one ?_ k
  simp only [am_stp, hat, am_step, am_load, am_pure, g, if_false]
theorem am_Y.ldv {x y : Int64} {rest : List Value} (hat : am_at (am_code M) pc = some (.ldiv, 1)) (g : ¬ y = 0) (k : am_Y S d mc ms M (pc + 1) lv (.long (x / y) :: rest) h r hf) : am_Y S d mc ms M pc lv (.long y :: .long x :: rest) h r hf := by
  refine am_Y.one ?_ k
  simp only [am_stp, hat, am_step, am_load, am_pure, g, if_false]
theorem am_Y.lrm {x y : Int64} {rest : List Value} (hat : am_at (am_code M) pc = some (.lrem, 1)) (g : ¬ y = 0) (k : am_Y S d mc ms M (pc + 1) lv (.long (x - x / y * y) :: rest) h r hf) : am_Y S d mc ms M pc lv (.long y :: .long x :: rest) h r hf := by
  refine am_Y.one ?_ k
  simp only [am_stp, hat, am_step, am_load, am_pure, g, if_false]
end XR
