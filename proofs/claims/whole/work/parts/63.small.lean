/-! Small rows for the printed walks. -/
section SM
variable {S : Nat × (Nat → Int32)} {d mc ms : Nat} {M : am_Mth} {pc : Nat} {lv lv' : am_L} {st st' : List Value} {h h' hf : am_H} {r : Option Value}
theorem am_Y.weak {lv2 : am_L} (h2 : am_ndk lv2 = true) (h1 : am_ndk lv = true) (hs : am_subP lv2 lv) (k : am_Y S d mc ms M pc lv2 st h r hf) : am_Y S d mc ms M pc lv st h r hf := by
  obtain ⟨n, hn⟩ := k
  exact ⟨n, am_ex_le _ _ _ _ _ _ _ _ _ _ _ h2 h1 (am_subP_le hs) hn⟩
theorem am_itg {α : Type} {c : Prop} {dc : Decidable c} {a : Option α} {y : α} (hq : @ite _ c dc a none = some y) : c ∧ a = some y := by
  by_cases hc : c
  · rw [if_pos hc] at hq; exact ⟨hc, hq⟩
  · rw [if_neg hc] at hq; cases hq
theorem am_itn {α : Type} {c : Prop} {dc : Decidable c} {a : Option α} {y : α} (hq : @ite _ c dc none a = some y) : ¬ c ∧ a = some y := by
  by_cases hc : c
  · rw [if_pos hc] at hq; cases hq
  · rw [if_neg hc] at hq; exact ⟨hc, hq⟩
theorem am_z01 {x : Int32} (g : x = 0 ∨ x = 1) : (decide (x = 0) || decide (x = 1)) = true := by
  rcases g with rfl | rfl <;> rfl
theorem am_swc {x v : Int32} {R : Option (Nat × am_L × List Value × am_H)} (e : x = v) (q : am_stp S M pc lv (.int v :: st) h = R) : am_stp S M pc lv (.int x :: st) h = R := by rw [e]; exact q
theorem am_swd {x : Int32} {dd lo hi : Int} {offs : Array Int} {len t : Nat} (hat : am_at (am_code M) pc = some (.tableswitch dd lo hi offs, len)) (hc : x.toInt < lo ∨ hi < x.toInt) (ht : am_to pc dd = some t) : am_stp S M pc lv (.int x :: st) h = some (t, lv, st, h) := by
  simp only [am_stp, hat, am_step, am_load, am_pure, am_read, am_store, am_jump, hc, if_true, ht, Option.map_some]
theorem am_rnar {x : Int32} {ty : FieldType} (hat : am_at (am_code M) pc = some (.ireturn, 1)) (hty : am_rty M = some ty) (g : narrow ty (.int x) = .int x) (hk : ty = .char ∨ ty = .byte := by first | exact Or.inl rfl | exact Or.inr rfl) : am_rets S M pc lv [.int x] h = some (some (.int x)) := by
  simp only [am_rets, hat, am_step, am_load, am_pure, am_read, am_store, am_jump, am_write, hty]
  rcases hk with rfl | rfl
  · simp only [am_ret, g, if_true]
  · simp only [am_ret, g, if_true]
theorem am_Y.aaldc {a n t : Nat} {i j : Int32} {f : Nat → Option Nat} {w : Value} {rest : List Value} (hat : am_at (am_code M) pc = some (.aaload, 1)) (hc : am_nth h a = some (.inl (t, n, .inr (.inr (.inr (.inr f)))))) (ht : (Nat.beq t 3 || Nat.beq t 4) = true) (hi : i = j) (g : am_in j n = true) (hv : va_rf (f j.toNatClampNeg) = w) (k : am_Y S d mc ms M (pc + 1) lv (w :: rest) h r hf) : am_Y S d mc ms M pc lv (.int i :: .ref (a + 5) :: rest) h r hf := by
  subst hi
  subst hv
  exact am_Y.aald hat hc ht g k
theorem am_Y.bald0 {i : Int32} {rest : List Value} (hat : am_at (am_code M) pc = some (.baload, 1)) (g : am_in i (am_byt 0).length = true) (k : am_Y S d mc ms M (pc + 1) lv (.int ((am_byt 0).getD i.toNatClampNeg 0) :: rest) h r hf) : am_Y S d mc ms M pc lv (.int i :: .ref 3 :: rest) h r hf := by
  refine am_Y.one ?_ k
  simp only [am_stp, hat, am_step, am_load, am_pure, am_read, g, cond_true]
theorem am_Y.bald1 {i : Int32} {rest : List Value} (hat : am_at (am_code M) pc = some (.baload, 1)) (g : am_in i (am_byt 1).length = true) (k : am_Y S d mc ms M (pc + 1) lv (.int ((am_byt 1).getD i.toNatClampNeg 0) :: rest) h r hf) : am_Y S d mc ms M pc lv (.int i :: .ref 4 :: rest) h r hf := by
  refine am_Y.one ?_ k
  simp only [am_stp, hat, am_step, am_load, am_pure, am_read, g, cond_true]
end SM
