/-! One instruction of AM is one of the machine's. -/
theorem am_len1 {n k : Nat} (h : Nat.beq n k = true) : n = k := Nat.eq_of_beq_eq_true h
section SIM
variable {p : Program} {l : Launch} {e : Env} {R : Room} {s : State} {m : MethodId} {args : Array Value} {below : List Frame} {meth : Method} {c : Code} {H : Heap} {locs : List Loc} {cells slots : Nat} {Q : State → Prop}
variable {cc : ByteArray} {pc len nL oc : Nat} {ls : Array Slot} {E : am_E} {ins : Instr} {lv lv' : am_L} {st st' : List Value} {h h' : am_H} {v : Value}
theorem am_sim_load (hx : p.tables.exec = Jvm.exec) (hb : c.code = cc) (hdg : decode cc pc = .ok (ins, len)) (hn : am_len ins len = true) (hl : lv_has ls nL (am_lv E lv)) (ha : am_load lv ins = some v)
    (k : W p l e R s m args below meth c H locs cells slots Q (F0 m (pc + len) ls (am_v E v :: st))) : W p l e R s m args below meth c H locs cells slots Q (F0 m pc ls st) := by
  have rd : ∀ {i : Nat} {w : Value}, am_get lv i = some w → ls[i]? = some (.val (am_v E w)) := fun {i w} hg => hl.2.2 (i, am_v E w) (List.mem_map.mpr ⟨(i, w), am_get_mem hg, rfl⟩)
  unfold am_load at ha
  split at ha <;> (try (split at ha)) <;> (try cases ha)
  · rename_i hg; obtain rfl := am_len1 hn; exact lv_iload hx hb hdg (rd hg) k
  · rename_i hg; obtain rfl := am_len1 hn; exact lv_iload_n hx hb hdg rfl (rd hg) k
  · rename_i hg; obtain rfl := am_len1 hn; exact lv_lload hx hb hdg (rd hg) k
  · rename_i hg; obtain rfl := am_len1 hn; exact lv_lload_n hx hb hdg rfl (rd hg) k
  · rename_i hg; obtain rfl := am_len1 hn; exact lv_aload hx hb hdg (rd hg) k
  · rename_i hg; obtain rfl := am_len1 hn; exact lv_aloadN hx hb hdg (rd hg) k
  · rename_i hg; obtain rfl := am_len1 hn; exact lv_aload_n hx hb hdg rfl (rd hg) k
  · rename_i hg; obtain rfl := am_len1 hn; exact lv_aload_nN hx hb hdg rfl (rd hg) k
theorem am_st1_some {i : Nat} {w : Value} {q : am_L} (h1 : am_st1 nL lv i w = some q) : i < nL ∧ q = am_set1 lv i w := by
  unfold am_st1 at h1
  cases hb : Nat.ble (i + 1) nL with
  | true => rw [hb] at h1; cases h1; exact ⟨Nat.le_of_ble_eq_true hb, rfl⟩
  | false => rw [hb] at h1; cases h1
theorem am_st2_some {i : Nat} {w : Value} {q : am_L} (h1 : am_st2 nL lv i w = some q) : i + 1 < nL ∧ q = am_set2 lv i w := by
  unfold am_st2 at h1
  cases hb : Nat.ble (i + 2) nL with
  | true => rw [hb] at h1; cases h1; exact ⟨Nat.le_of_ble_eq_true hb, rfl⟩
  | false => rw [hb] at h1; cases h1
theorem am_sim_store (hx : p.tables.exec = Jvm.exec) (hb : c.code = cc) (hdg : decode cc pc = .ok (ins, len)) (hn : am_len ins len = true) (hl : lv_has ls nL (am_lv E lv)) (ha : am_store nL lv ins st = some (lv', st'))
    (k : ∀ ls' : Array Slot, lv_has ls' nL (am_lv E lv') → W p l e R s m args below meth c H locs cells slots Q (F0 m (pc + len) ls' (st'.map (am_v E)))) : W p l e R s m args below meth c H locs cells slots Q (F0 m pc ls (st.map (am_v E))) := by
  unfold am_store at ha
  split at ha
  · obtain ⟨q, h1, h2⟩ := Option.map_eq_some_iff.mp ha
    obtain ⟨h3, rfl⟩ := am_st1_some h1
    cases h2
    obtain rfl := am_len1 hn
    exact lv_istore hx hb hdg hl h3 (am_lv_set1 E lv _ (.int _)) k
  · obtain ⟨q, h1, h2⟩ := Option.map_eq_some_iff.mp ha
    obtain ⟨h3, rfl⟩ := am_st1_some h1
    cases h2
    obtain rfl := am_len1 hn
    exact lv_istore_n hx hb hdg rfl hl h3 (am_lv_set1 E lv _ (.int _)) k
  · obtain ⟨q, h1, h2⟩ := Option.map_eq_some_iff.mp ha
    obtain ⟨h3, rfl⟩ := am_st2_some h1
    cases h2
    obtain rfl := am_len1 hn
    exact lv_lstore hx hb hdg hl h3 (am_lv_set2 E lv _ (.long _)) k
  · obtain ⟨q, h1, h2⟩ := Option.map_eq_some_iff.mp ha
    obtain ⟨h3, rfl⟩ := am_st2_some h1
    cases h2
    obtain rfl := am_len1 hn
    exact lv_lstore_n hx hb hdg rfl hl h3 (am_lv_set2 E lv _ (.long _)) k
  · obtain ⟨q, h1, h2⟩ := Option.map_eq_some_iff.mp ha
    obtain ⟨h3, rfl⟩ := am_st1_some h1
    cases h2
    obtain rfl := am_len1 hn
    exact lv_astore hx hb hdg hl h3 (am_lv_set1 E lv _ (.ref _)) k
  · obtain ⟨q, h1, h2⟩ := Option.map_eq_some_iff.mp ha
    obtain ⟨h3, rfl⟩ := am_st1_some h1
    cases h2
    obtain rfl := am_len1 hn
    exact lv_astore_n hx hb hdg rfl hl h3 (am_lv_set1 E lv _ (.ref _)) k
  · obtain ⟨q, h1, h2⟩ := Option.map_eq_some_iff.mp ha
    obtain ⟨h3, rfl⟩ := am_st1_some h1
    cases h2
    obtain rfl := am_len1 hn
    exact lv_astoreN hx hb hdg hl h3 (am_lv_set1 E lv _ .null) k
  · obtain ⟨q, h1, h2⟩ := Option.map_eq_some_iff.mp ha
    obtain ⟨h3, rfl⟩ := am_st1_some h1
    cases h2
    obtain rfl := am_len1 hn
    exact lv_astore_nN hx hb hdg rfl hl h3 (am_lv_set1 E lv _ .null) k
  · split at ha
    · rename_i hg
      obtain ⟨q, h1, h2⟩ := Option.map_eq_some_iff.mp ha
      obtain ⟨h3, rfl⟩ := am_st1_some h1
      cases h2
      obtain rfl := am_len1 hn
      have hm : (_, Value.int _) ∈ am_lv E lv := List.mem_map.mpr ⟨_, am_get_mem hg, rfl⟩
      obtain ⟨j, hj⟩ := List.getElem?_of_mem hm
      exact lv_iinc hx hb hdg hl hj rfl h3 (am_lv_set1 E lv _ (.int _)) k
    · cases ha
  · cases ha
theorem am_sim_jump (hx : p.tables.exec = Jvm.exec) (hb : c.code = cc) (hdg : decode cc pc = .ok (ins, len)) (hn : am_len ins len = true) {t : Nat} (ha : am_jump pc ins st = some (t, st'))
    (k : W p l e R s m args below meth c H locs cells slots Q (F0 m t ls (st'.map (am_v E)))) : W p l e R s m args below meth c H locs cells slots Q (F0 m pc ls (st.map (am_v E))) := by
  unfold am_jump at ha
  split at ha
  · obtain ⟨q, h1, h2⟩ := Option.map_eq_some_iff.mp ha
    cases h2
    obtain rfl := am_len1 hn
    exact lv_goto hx hb hdg (am_to_eq h1) k
  · obtain ⟨q, h1, h2⟩ := Option.map_eq_some_iff.mp ha
    cases h2
    obtain rfl := am_len1 hn
    exact lv_if_eq hx hb hdg (am_to_eq h1) (fun z => by rw [if_pos z] at k; exact k) (fun z => by rw [if_neg z] at k; exact k)
  · obtain ⟨q, h1, h2⟩ := Option.map_eq_some_iff.mp ha
    cases h2
    obtain rfl := am_len1 hn
    exact lv_if_ne hx hb hdg (am_to_eq h1) (fun z => by rw [if_neg z] at k; exact k) (fun z => by rw [if_pos z] at k; exact k)
  · obtain ⟨q, h1, h2⟩ := Option.map_eq_some_iff.mp ha
    cases h2
    obtain rfl := am_len1 hn
    exact lv_if_lt hx hb hdg (am_to_eq h1) (fun z => by rw [if_pos z] at k; exact k) (fun z => by rw [if_neg z] at k; exact k)
  · obtain ⟨q, h1, h2⟩ := Option.map_eq_some_iff.mp ha
    cases h2
    obtain rfl := am_len1 hn
    exact lv_if_ge hx hb hdg (am_to_eq h1) (fun z => by rw [if_pos z] at k; exact k) (fun z => by rw [if_neg z] at k; exact k)
  · obtain ⟨q, h1, h2⟩ := Option.map_eq_some_iff.mp ha
    cases h2
    obtain rfl := am_len1 hn
    exact lv_if_gt hx hb hdg (am_to_eq h1) (fun z => by rw [if_pos z] at k; exact k) (fun z => by rw [if_neg z] at k; exact k)
  · obtain ⟨q, h1, h2⟩ := Option.map_eq_some_iff.mp ha
    cases h2
    obtain rfl := am_len1 hn
    exact lv_if_le hx hb hdg (am_to_eq h1) (fun z => by rw [if_pos z] at k; exact k) (fun z => by rw [if_neg z] at k; exact k)
  · obtain ⟨q, h1, h2⟩ := Option.map_eq_some_iff.mp ha
    cases h2
    obtain rfl := am_len1 hn
    exact lv_icmp_eq hx hb hdg (am_to_eq h1) (fun z => by rw [if_pos z] at k; exact k) (fun z => by rw [if_neg z] at k; exact k)
  · obtain ⟨q, h1, h2⟩ := Option.map_eq_some_iff.mp ha
    cases h2
    obtain rfl := am_len1 hn
    exact lv_icmp_ne hx hb hdg (am_to_eq h1) (fun z => by rw [if_neg z] at k; exact k) (fun z => by rw [if_pos z] at k; exact k)
  · obtain ⟨q, h1, h2⟩ := Option.map_eq_some_iff.mp ha
    cases h2
    obtain rfl := am_len1 hn
    exact lv_icmp_lt hx hb hdg (am_to_eq h1) (fun z => by rw [if_pos z] at k; exact k) (fun z => by rw [if_neg z] at k; exact k)
  · obtain ⟨q, h1, h2⟩ := Option.map_eq_some_iff.mp ha
    cases h2
    obtain rfl := am_len1 hn
    exact lv_icmp_ge hx hb hdg (am_to_eq h1) (fun z => by rw [if_pos z] at k; exact k) (fun z => by rw [if_neg z] at k; exact k)
  · obtain ⟨q, h1, h2⟩ := Option.map_eq_some_iff.mp ha
    cases h2
    obtain rfl := am_len1 hn
    exact lv_icmp_gt hx hb hdg (am_to_eq h1) (fun z => by rw [if_pos z] at k; exact k) (fun z => by rw [if_neg z] at k; exact k)
  · obtain ⟨q, h1, h2⟩ := Option.map_eq_some_iff.mp ha
    cases h2
    obtain rfl := am_len1 hn
    exact lv_icmp_le hx hb hdg (am_to_eq h1) (fun z => by rw [if_pos z] at k; exact k) (fun z => by rw [if_neg z] at k; exact k)
  · obtain ⟨q, h1, h2⟩ := Option.map_eq_some_iff.mp ha
    cases h2
    obtain rfl := am_len1 hn
    exact lv_ifnullN hx hb hdg (am_to_eq h1) k
  · cases ha
    obtain rfl := am_len1 hn
    exact lv_ifnull hx hb hdg k
  · obtain ⟨q, h1, h2⟩ := Option.map_eq_some_iff.mp ha
    cases h2
    obtain rfl := am_len1 hn
    exact lv_ifnonnull hx hb hdg (am_to_eq h1) k
  · cases ha
    obtain rfl := am_len1 hn
    exact lv_ifnonnullN hx hb hdg k
  · split at ha
    · rename_i hc
      obtain ⟨q, h1, h2⟩ := Option.map_eq_some_iff.mp ha
      cases h2
      exact lv_tableOut hx hb hdg hc (am_to_eq h1) k
    · rename_i hc
      split at ha
      · rename_i ho
        obtain ⟨q, h1, h2⟩ := Option.map_eq_some_iff.mp ha
        cases h2
        exact lv_tableIn hx hb hdg (fun z => hc (Or.inl z)) (fun z => hc (Or.inr z)) ho (am_to_eq h1) k
      · cases ha
  · cases ha
end SIM
