/-! Locals: more of them, or in another order, do no harm. Small rows for the printed walks. -/
def am_subP : am_L → am_L → Prop
  | [], _ => True
  | (i, v) :: r, lv => am_get lv i = some v ∧ am_subP r lv
def am_ndk (lv : am_L) : Bool := va_nd (lv.map (fun q => q.1))
def am_le (a b : am_L) : Prop := ∀ i v, am_get a i = some v → am_get b i = some v
theorem am_subP_le : ∀ {a b : am_L}, am_subP a b → am_le a b
  | [], _, _, _, _, h => by cases h
  | (j, w) :: r, b, hs, i, v, h => by
    unfold am_get at h
    cases hb : Nat.beq j i with
    | true =>
      rw [hb] at h
      cases h
      rw [← Nat.eq_of_beq_eq_true hb]
      exact hs.1
    | false =>
      rw [hb] at h
      exact am_subP_le hs.2 i v h
theorem am_get_none {i : Nat} : ∀ {l : am_L}, i ∉ l.map (fun q => q.1) → am_get l i = none
  | [], _ => rfl
  | (j, w) :: r, h => by
    unfold am_get
    have h1 : Nat.beq j i = false := by
      cases hb : Nat.beq j i with
      | false => rfl
      | true => exact absurd (by rw [Nat.eq_of_beq_eq_true hb]; exact List.mem_cons_self) h
    rw [h1]
    exact am_get_none (fun z => h (List.mem_cons_of_mem _ z))
theorem am_ndk_cons {j : Nat} {w : Value} {r : am_L} (h : am_ndk ((j, w) :: r) = true) : j ∉ r.map (fun q => q.1) ∧ am_ndk r = true := by
  unfold am_ndk at h
  simp only [List.map_cons, va_nd, Bool.and_eq_true, decide_eq_true_eq] at h
  exact h
theorem am_ndk_mk {j : Nat} {w : Value} {r : am_L} (h1 : j ∉ r.map (fun q => q.1)) (h2 : am_ndk r = true) : am_ndk ((j, w) :: r) = true := by
  unfold am_ndk at h2 ⊢
  simp only [List.map_cons, va_nd, Bool.and_eq_true, decide_eq_true_eq]
  exact ⟨h1, h2⟩
theorem am_keys_filter {p : Nat × Value → Bool} {i : Nat} {l : am_L} (h : i ∈ (l.filter p).map (fun q => q.1)) : i ∈ l.map (fun q => q.1) := by
  obtain ⟨q, hq, rfl⟩ := List.mem_map.mp h
  exact List.mem_map.mpr ⟨q, (List.mem_filter.mp hq).1, rfl⟩
theorem am_ndk_filter {p : Nat × Value → Bool} : ∀ {l : am_L}, am_ndk l = true → am_ndk (l.filter p) = true
  | [], _ => rfl
  | (j, w) :: r, h => by
    obtain ⟨h1, h2⟩ := am_ndk_cons h
    rw [List.filter_cons]
    split
    · exact am_ndk_mk (fun z => h1 (am_keys_filter z)) (am_ndk_filter h2)
    · exact am_ndk_filter h2
theorem am_get_filter {p : Nat × Value → Bool} {i : Nat} {v : Value} : ∀ {l : am_L}, am_ndk l = true → (am_get (l.filter p) i = some v ↔ am_get l i = some v ∧ p (i, v) = true)
  | [], _ => by simp [am_get]
  | (j, w) :: r, h => by
    obtain ⟨h1, h2⟩ := am_ndk_cons h
    have ih := am_get_filter (p := p) (i := i) (v := v) h2
    rw [List.filter_cons]
    cases hb : Nat.beq j i with
    | true =>
      have e := Nat.eq_of_beq_eq_true hb
      subst e
      have hn : am_get (r.filter p) j = none := am_get_none (fun z => h1 (am_keys_filter z))
      have hg : am_get ((j, w) :: r) j = some w := by
        unfold am_get
        rw [hb]
        rfl
      rw [hg]
      split
      · rename_i hp
        have hg2 : am_get ((j, w) :: r.filter p) j = some w := by
          unfold am_get
          rw [hb]
          rfl
        rw [hg2]
        constructor
        · intro e; cases e; exact ⟨rfl, hp⟩
        · intro e; exact e.1
      · rename_i hp
        rw [hn]
        constructor
        · intro e; cases e
        · rintro ⟨e, hq⟩; cases e; exact absurd hq hp
    | false =>
      have hg : ∀ s : am_L, am_get ((j, w) :: s) i = am_get s i := by
        intro s
        conv => lhs; unfold am_get
        rw [hb]
        rfl
      rw [hg]
      split
      · rw [hg]; exact ih
      · exact ih
theorem am_get_cons_ne {i j : Nat} {w : Value} {s : am_L} (h : j ≠ i) : am_get ((j, w) :: s) i = am_get s i := by
  have hb : Nat.beq j i = false := by
    cases hb : Nat.beq j i with
    | false => rfl
    | true => exact absurd (Nat.eq_of_beq_eq_true hb) h
  conv => lhs; unfold am_get
  rw [hb]
  rfl
theorem am_get_cons_eq {i : Nat} {w : Value} {s : am_L} : am_get ((i, w) :: s) i = some w := by
  unfold am_get
  rw [Nat.beq_refl]
  rfl
theorem am_set_le {p : Nat × Value → Bool} {a b : am_L} {i : Nat} {v : Value} (ha : am_ndk a = true) (hb : am_ndk b = true) (hl : am_le a b) (hp : ∀ w, p (i, w) = false) : am_le ((i, v) :: a.filter p) ((i, v) :: b.filter p) ∧ am_ndk ((i, v) :: a.filter p) = true ∧ am_ndk ((i, v) :: b.filter p) = true := by
  have key : ∀ l : am_L, i ∉ (l.filter p).map (fun q => q.1) := by
    intro l h
    obtain ⟨q, hq, rfl⟩ := List.mem_map.mp h
    have := (List.mem_filter.mp hq).2
    rw [show q = (q.1, q.2) from rfl, hp] at this
    cases this
  refine ⟨fun j w h => ?_, am_ndk_mk (key a) (am_ndk_filter ha), am_ndk_mk (key b) (am_ndk_filter hb)⟩
  by_cases hj : i = j
  · subst hj
    rw [am_get_cons_eq] at h ⊢
    exact h
  · rw [am_get_cons_ne hj] at h ⊢
    obtain ⟨h1, h2⟩ := (am_get_filter ha).mp h
    exact (am_get_filter hb).mpr ⟨hl j w h1, h2⟩
theorem am_set1_le {a b : am_L} {i : Nat} {v : Value} (ha : am_ndk a = true) (hb : am_ndk b = true) (hl : am_le a b) : am_le (am_set1 a i v) (am_set1 b i v) ∧ am_ndk (am_set1 a i v) = true ∧ am_ndk (am_set1 b i v) = true := am_set_le ha hb hl (fun w => by simp)
theorem am_set2_le {a b : am_L} {i : Nat} {v : Value} (ha : am_ndk a = true) (hb : am_ndk b = true) (hl : am_le a b) : am_le (am_set2 a i v) (am_set2 b i v) ∧ am_ndk (am_set2 a i v) = true ∧ am_ndk (am_set2 b i v) = true := am_set_le ha hb hl (fun w => by simp)
def am_isL : Instr → Bool
  | .iload _ | .iload_n _ | .lload _ | .lload_n _ | .aload _ | .aload_n _ => true
  | _ => false
section WK
variable {S : Nat × (Nat → Int32)} {P : Nat → Option am_Mth} {CP : Nat → Nat → Option am_R}
theorem am_isL_no {ins : Instr} (h : am_isL ins = false) (lv : am_L) : am_load lv ins = none := by
  unfold am_load
  split <;> first | rfl | (simp [am_isL] at h)
theorem am_isL_yes {ins : Instr} (h : am_isL ins = true) {oc nL pc : Nat} {isI : Bool} {lv : am_L} {st : List Value} {hh : am_H} : am_pure CP oc ins st = none ∧ am_read CP S am_byt oc hh ins st = none ∧ am_store nL lv ins st = none ∧ am_jump pc ins st = none ∧ am_write CP oc isI hh ins st = none := by
  unfold am_isL at h
  split at h
  all_goals first | exact ⟨rfl, rfl, rfl, rfl, rfl⟩ | cases h
theorem am_load_le {a b : am_L} {ins : Instr} {v : Value} (hl : am_le a b) (h : am_load a ins = some v) : am_load b ins = some v := by
  unfold am_load at h ⊢
  split at h <;> (try (split at h)) <;> (try cases h)
  all_goals (rename_i hg; rw [hl _ _ hg])
theorem am_store_le {a b a' : am_L} {ins : Instr} {nL : Nat} {st st' : List Value} (ha : am_ndk a = true) (hb : am_ndk b = true) (hl : am_le a b) (h : am_store nL a ins st = some (a', st')) : ∃ b', am_store nL b ins st = some (b', st') ∧ am_le a' b' ∧ am_ndk a' = true ∧ am_ndk b' = true := by
  have s1 : ∀ {i : Nat} {v : Value} {r : List Value}, (am_st1 nL a i v).map (fun q => (q, r)) = some (a', st') → ∃ b', (am_st1 nL b i v).map (fun q => (q, r)) = some (b', st') ∧ am_le a' b' ∧ am_ndk a' = true ∧ am_ndk b' = true := by
    intro i v r hh
    obtain ⟨q, h1, h2⟩ := Option.map_eq_some_iff.mp hh
    obtain ⟨h3, rfl⟩ := am_st1_some h1
    cases h2
    refine ⟨am_set1 b i v, ?_, am_set1_le ha hb hl⟩
    unfold am_st1
    rw [show Nat.ble (i + 1) nL = true from Nat.ble_eq.mpr h3]
    rfl
  have s2 : ∀ {i : Nat} {v : Value} {r : List Value}, (am_st2 nL a i v).map (fun q => (q, r)) = some (a', st') → ∃ b', (am_st2 nL b i v).map (fun q => (q, r)) = some (b', st') ∧ am_le a' b' ∧ am_ndk a' = true ∧ am_ndk b' = true := by
    intro i v r hh
    obtain ⟨q, h1, h2⟩ := Option.map_eq_some_iff.mp hh
    obtain ⟨h3, rfl⟩ := am_st2_some h1
    cases h2
    refine ⟨am_set2 b i v, ?_, am_set2_le ha hb hl⟩
    unfold am_st2
    rw [show Nat.ble (i + 2) nL = true from Nat.ble_eq.mpr h3]
    rfl
  unfold am_store at h ⊢
  split at h
  · exact s1 h
  · exact s1 h
  · exact s2 h
  · exact s2 h
  · exact s1 h
  · exact s1 h
  · exact s1 h
  · exact s1 h
  · split at h
    · rename_i hg
      rw [hl _ _ hg]
      exact s1 h
    · cases h
  · cases h
theorem am_store_none {a b : am_L} {ins : Instr} {nL : Nat} {st : List Value} (hs : am_store nL a ins st = none) : am_store nL b ins st = none ∨ ∃ i n, ins = .iinc i n := by
  unfold am_store at hs ⊢
  split at hs
  all_goals first | exact Or.inr ⟨_, _, rfl⟩ | (left; rfl) | (left; unfold am_st1 at hs ⊢; cases hq : Nat.ble _ nL <;> rw [hq] at hs <;> first | rfl | cases hs) | (left; unfold am_st2 at hs ⊢; cases hq : Nat.ble _ nL <;> rw [hq] at hs <;> first | rfl | cases hs)
theorem am_step_le {a b a' : am_L} {ins : Instr} {oc nL pc pc' len : Nat} {isI : Bool} {st st' : List Value} {hh hh' : am_H} (ha : am_ndk a = true) (hb : am_ndk b = true) (hl : am_le a b) (h : am_step CP S am_byt oc nL isI ins pc len a st hh = some (pc', a', st', hh')) : ∃ b', am_step CP S am_byt oc nL isI ins pc len b st hh = some (pc', b', st', hh') ∧ am_le a' b' ∧ am_ndk a' = true ∧ am_ndk b' = true := by
  cases hi : am_isL ins with
  | true =>
    obtain ⟨e1, e2, e3, e4, e5⟩ := am_isL_yes (S := S) (CP := CP) hi (oc := oc) (nL := nL) (pc := pc) (isI := isI) (lv := a) (st := st) (hh := hh)
    unfold am_step at h ⊢
    split at h
    · rename_i hv
      cases h
      rw [am_load_le hl hv]
      exact ⟨b, rfl, hl, ha, hb⟩
    · simp only [e1, e2, e3, e4, e5] at h
      cases h
  | false =>
    unfold am_step at h ⊢
    rw [am_isL_no hi] at h ⊢
    dsimp only at h ⊢
    split at h
    · cases h
      exact ⟨b, rfl, hl, ha, hb⟩
    · split at h
      · cases h
        exact ⟨b, rfl, hl, ha, hb⟩
      · cases hs : am_store nL a ins st with
        | some q =>
          obtain ⟨q1, q2⟩ := q
          rw [hs] at h
          cases h
          obtain ⟨b', h1, h2⟩ := am_store_le ha hb hl hs
          rw [h1]
          exact ⟨b', rfl, h2⟩
        | none =>
          rw [hs] at h
          have hsb : am_store nL b ins st = none ∨ ∃ i n, ins = .iinc i n := am_store_none hs
          rcases hsb with hsb | ⟨i, n, rfl⟩
          · rw [hsb]
            dsimp only at h ⊢
            split at h
            · cases h
              exact ⟨b, rfl, hl, ha, hb⟩
            · split at h
              · cases h
                exact ⟨b, rfl, hl, ha, hb⟩
              · cases h
          · cases h
theorem am_ex_le : ∀ (n d mc ms : Nat) (M : am_Mth) (pc : Nat) (a b : am_L) (st : List Value) (h : am_H) (x : Option Value × am_H), am_ndk a = true → am_ndk b = true → am_le a b → am_ex P CP S n d mc ms M pc a st h = some x → am_ex P CP S n d mc ms M pc b st h = some x := by
  intro n
  induction n with
  | zero => intro d mc ms M pc a b st h x _ _ _ hx; cases hx
  | succ n ih =>
    intro d mc ms M pc a b st h x ha hb hl hx
    rw [am_ex] at hx ⊢
    cases hat : am_at (am_code M) pc with
    | none => rw [hat] at hx; cases hx
    | some q =>
      obtain ⟨ins, len⟩ := q
      rw [hat] at hx
      dsimp only at hx ⊢
      cases hst : am_step CP S am_byt (am_oc M) (am_maxL M) (am_isI M) ins pc len a st h with
      | some q =>
        obtain ⟨pc', a', st', h'⟩ := q
        rw [hst] at hx
        obtain ⟨b', e1, e2, e3, e4⟩ := am_step_le ha hb hl hst
        rw [e1]
        exact ih _ _ _ _ _ _ _ _ _ _ e3 e4 e2 hx
      | none =>
        rw [hst] at hx
        dsimp only at hx
        have hsb : am_step CP S am_byt (am_oc M) (am_maxL M) (am_isI M) ins pc len b st h = none ∨ am_ret (am_rty M) ins st = none ∧ am_inv P CP (am_oc M) h ins st = none ∧ am_make CP (am_oc M) h ins st = none := by
          cases hsb : am_step CP S am_byt (am_oc M) (am_maxL M) (am_isI M) ins pc len b st h with
          | none => exact Or.inl rfl
          | some q =>
            right
            have hk : am_isL ins = true ∨ ∃ i n, ins = .iinc i n := by
              cases hi : am_isL ins with
              | true => exact Or.inl rfl
              | false =>
                right
                unfold am_step at hst hsb
                rw [am_isL_no hi] at hst hsb
                dsimp only at hst hsb
                split at hst
                · cases hst
                · rename_i e1
                  rw [e1] at hsb
                  dsimp only at hsb
                  split at hst
                  · cases hst
                  · rename_i e2
                    rw [e2] at hsb
                    dsimp only at hsb
                    cases hs : am_store (am_maxL M) a ins st with
                    | some q => obtain ⟨q1, q2⟩ := q; rw [hs] at hst; cases hst
                    | none =>
                      rw [hs] at hst
                      dsimp only at hst
                      rcases am_store_none (b := b) hs with e3 | e3
                      · rw [e3] at hsb
                        dsimp only at hsb
                        split at hst
                        · cases hst
                        · rename_i e4
                          rw [e4] at hsb
                          dsimp only at hsb
                          split at hst
                          · cases hst
                          · rename_i e5
                            rw [e5] at hsb
                            cases hsb
                      · exact e3
            rcases hk with hk | ⟨i, m, rfl⟩
            · unfold am_isL at hk
              split at hk
              all_goals first | (cases hk; done) | skip
              all_goals (refine ⟨?_, rfl, rfl⟩; unfold am_ret; split <;> first | rfl | (exfalso; simp_all; done))
            · refine ⟨?_, rfl, rfl⟩
              unfold am_ret
              split <;> first | rfl | (exfalso; simp_all; done)
        rcases hsb with hsb | ⟨e1, e2, e3⟩
        · rw [hsb]
          dsimp only
          split at hx
          · exact hx
          · split at hx
            · split at hx
              · cases hx
              · obtain ⟨hbb, hx⟩ := am_bifo hx
                simp only [hbb, cond_true]
                split at hx
                · rename_i hc
                  exact ih _ _ _ _ _ _ _ _ _ _ ha hb hl hx
                · cases hx
            · split at hx
              · obtain ⟨hbb, hx⟩ := am_bifo hx
                simp only [hbb, cond_true]
                exact ih _ _ _ _ _ _ _ _ _ _ ha hb hl hx
              · cases hx
        · rw [e1, e2, e3] at hx
          cases hx
end WK
