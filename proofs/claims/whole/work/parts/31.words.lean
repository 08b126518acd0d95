/-! The words beside the good ones, the texts, the classes' names; what a constant pool's entry stands on. -/
def am_nwl : List (String × Nat × MethodName × String) := [("LastWordAt", 9, ⟨"LastWordAt$Table", "<init>", "()V"⟩, "LastWordAt"), ("LastWordAt$Table", 11, ⟨"LastWordAt$Guests", "<init>", "()V"⟩, "LastWordAt"), ("LastWordAt$Table", 27, ⟨"LastWordAt$Steps", "<init>", "()V"⟩, "LastWordAt"), ("LastWordAt", 21, ⟨"LastWordAt$Tape", "<init>", "()V"⟩, "LastWordAt"), ("LastWordAt$Reader", 24, ⟨"LastWordAt$Script", "<init>", "()V"⟩, "LastWordAt"), ("LastWordAt", 37, ⟨"LastWordAt$Laws", "<init>", "()V"⟩, "LastWordAt"), ("LastWordAt", 52, ⟨"LastWordAt$Script", "<init>", "()V"⟩, "LastWordAt"), ("LastWordAt$Guests", 25, ⟨"LastWordAt", "within", "(III)Z"⟩, "LastWordAt"), ("LastWordAt$Tape", 25, ⟨"LastWordAt", "within", "(III)Z"⟩, "LastWordAt"), ("LastWordAt$Reader", 64, ⟨"LastWordAt", "within", "(III)Z"⟩, "LastWordAt"), ("LastWordAt$Script", 40, ⟨"LastWordAt", "within", "(III)Z"⟩, "LastWordAt"), ("LastWordAt$Evening", 70, ⟨"LastWordAt", "bitOf", "(I)I"⟩, "LastWordAt"), ("LastWordAt$Evening", 73, ⟨"LastWordAt", "joined", "(III)I"⟩, "LastWordAt"), ("LastWordAt$Evening", 63, ⟨"LastWordAt", "holders", "(I)I"⟩, "LastWordAt"), ("LastWordAt$Laws", 119, ⟨"LastWordAt", "within", "(III)Z"⟩, "LastWordAt"), ("LastWordAt$Evening", 34, ⟨"LastWordAt", "within", "(III)Z"⟩, "LastWordAt"), ("LastWordAt$Estate", 19, ⟨"LastWordAt", "partOfWhole", "(II)I"⟩, "LastWordAt"), ("LastWordAt$Chances", 54, ⟨"LastWordAt", "bitOf", "(I)I"⟩, "LastWordAt"), ("LastWordAt$Chances", 60, ⟨"LastWordAt", "partOfWhole", "(II)I"⟩, "LastWordAt"), ("LastWordAt$Chances", 99, ⟨"LastWordAt", "within", "(III)Z"⟩, "LastWordAt")]
def am_nw : List Cond := am_nwl.map (fun q => Cond.methodLinkNest q.1 q.2.1 q.2.2.1 q.2.2.2)
def am_str : List (String × Nat × String) := [("LastWordAt$Tape", 57, "night moment wine rank hears kind words since guests has said heirs counts lag dies guest say oh toast bye ask pass send dinner or and not choose case to else end "), ("LastWordAt$Tape", 76, "<>=#+-*/():;")]
def am_sb : List (List Int32) := [[110, 105, 103, 104, 116, 32, 109, 111, 109, 101, 110, 116, 32, 119, 105, 110, 101, 32, 114, 97, 110, 107, 32, 104, 101, 97, 114, 115, 32, 107, 105, 110, 100, 32, 119, 111, 114, 100, 115, 32, 115, 105, 110, 99, 101, 32, 103, 117, 101, 115, 116, 115, 32, 104, 97, 115, 32, 115, 97, 105, 100, 32, 104, 101, 105, 114, 115, 32, 99, 111, 117, 110, 116, 115, 32, 108, 97, 103, 32, 100, 105, 101, 115, 32, 103, 117, 101, 115, 116, 32, 115, 97, 121, 32, 111, 104, 32, 116, 111, 97, 115, 116, 32, 98, 121, 101, 32, 97, 115, 107, 32, 112, 97, 115, 115, 32, 115, 101, 110, 100, 32, 100, 105, 110, 110, 101, 114, 32, 111, 114, 32, 97, 110, 100, 32, 110, 111, 116, 32, 99, 104, 111, 111, 115, 101, 32, 99, 97, 115, 101, 32, 116, 111, 32, 101, 108, 115, 101, 32, 101, 110, 100, 32], [60, 62, 61, 35, 43, 45, 42, 47, 40, 41, 58, 59]]
def am_sl : List Nat := [163, 12]
def am_cn : Nat → String
  | 0 => "LastWordAt$Chances"
  | 1 => "LastWordAt$Evening"
  | 2 => "LastWordAt$Guests"
  | 3 => "LastWordAt$Laws"
  | 4 => "LastWordAt$Reader"
  | 5 => "LastWordAt$Script"
  | 6 => "LastWordAt$Steps"
  | 7 => "LastWordAt$Table"
  | 8 => "LastWordAt$Tape"
  | 9 => "LastWordAt"
  | 10 => "LastWordAtModel"
  | 11 => "LastWordAt$Estate"
  | 12 => "LastWordAtLaw"
  | 13 => "java/lang/String"
  | 14 => "java/lang/StringLatin1"
  | 15 => "java/lang/Integer"
  | 16 => "java/lang/Math"
  | 17 => "java/util/Arrays"
  | 18 => "jdk/internal/util/Preconditions"
  | _ => ""
/-- the kind of a field's type -/
def am_tyk : FieldType → Nat
  | .int => 0
  | .long => 1
  | .boolean => 2
  | .object _ => 3
  | .array _ => 3
  | _ => 9
/-- what every class of the heap's objects has -/
theorem am_okC (ci : Nat) (q : vw_C) (hq : am_cl[ci]? = some q) : (∀ w ∈ u_ws q.1 q.2.1 q.2.2, w ∈ am_good) ∧ (∃ ty : Nat → FieldType, ∀ k, k < q.2.2 → parseFieldDescriptor (q.2.1 k).2.2.1 = some (ty k)) ∧ (∀ a, a < q.2.2 → ∀ b, b < q.2.2 → a ≠ b → (q.2.1 a).2.1 ≠ (q.2.1 b).2.1) := by
  match ci, hq with
  | 0, hq => cases hq; exact ⟨am_in0, ⟨am_ty0, am_tyo0⟩, am_nm0⟩
  | 1, hq => cases hq; exact ⟨am_in1, ⟨am_ty1, am_tyo1⟩, am_nm1⟩
  | 2, hq => cases hq; exact ⟨am_in2, ⟨am_ty2, am_tyo2⟩, am_nm2⟩
  | 3, hq => cases hq; exact ⟨am_in3, ⟨am_ty3, am_tyo3⟩, am_nm3⟩
  | 4, hq => cases hq; exact ⟨am_in4, ⟨am_ty4, am_tyo4⟩, am_nm4⟩
  | 5, hq => cases hq; exact ⟨am_in5, ⟨am_ty5, am_tyo5⟩, am_nm5⟩
  | 6, hq => cases hq; exact ⟨am_in6, ⟨am_ty6, am_tyo6⟩, am_nm6⟩
  | 7, hq => cases hq; exact ⟨am_in7, ⟨am_ty7, am_tyo7⟩, am_nm7⟩
  | 8, hq => cases hq; exact ⟨am_in8, ⟨am_ty8, am_tyo8⟩, am_nm8⟩
  | 9, hq => cases hq; exact ⟨am_in9, ⟨am_ty9, am_tyo9⟩, am_nm9⟩
  | 10, hq => cases hq; exact ⟨am_in10, ⟨am_ty10, am_tyo10⟩, am_nm10⟩
  | k + 11, hq => simp [am_cl] at hq
/-- what an entry of a constant pool stands on: 0 a field, 1 13 14 a method (called by its object, static, constructor), 2 a class, 3 4 numbers, 5 a text, 6 Object's constructor, 7 arraycopy, 8 9 10 String's value, coder, COMPACT_STRINGS, 11 12 the classes of arrays -/
def am_mlink (own : String) (k : Nat) (y : MethodName) : Prop := Cond.methodLink own k y ∈ am_good ∨ ∃ host, Cond.methodLinkNest own k y host ∈ am_nw
def am_just (P : Nat → Option am_Mth) (own : String) (k : Nat) : am_R → Prop
  | (0, ci, f, z) => ∃ (C : String) (T : u_T) (N : Nat) (ty : FieldType) (zn : Nat), am_cl[ci]? = some (C, T, N) ∧ f < N ∧ Cond.fieldLink own k (T f).1 (T f).2.1 (T f).2.2.1 ∈ am_good ∧ parseFieldDescriptor (T f).2.2.1 = some ty ∧ z = .ofNat zn ∧ am_tyk ty = zn % 4 ∧ ((T f).2.2.2 = true → ((T f).1 = own ∧ ¬ zn ≤ 3) ∨ ¬ zn ≤ 7)
  | (1, j, _, _) => ∃ m : am_Mth, P j = some m ∧ am_mlink own k (am_name m) ∧ Cond.instanceMethod (am_name m) ∈ am_good ∧ Cond.selects (am_name m).cls (am_name m) (am_name m) ∈ am_good ∧ (parseMethodDescriptor (am_name m).desc).map (fun d => d.parameters.length + 1) = some (am_na m)
  | (13, j, _, _) => ∃ m : am_Mth, P j = some m ∧ am_mlink own k (am_name m) ∧ Cond.static (am_name m) ∈ am_good ∧ (parseMethodDescriptor (am_name m).desc).map (fun d => d.parameters.length) = some (am_na m)
  | (14, j, _, _) => ∃ m : am_Mth, P j = some m ∧ am_mlink own k (am_name m) ∧ Cond.instanceMethod (am_name m) ∈ am_good ∧ (am_name m).name = "<init>" ∧ am_rty m = none ∧ (parseMethodDescriptor (am_name m).desc).map (fun d => d.parameters.length + 1) = some (am_na m)
  | (2, ci, _, _) => ∃ (C : String) (T : u_T) (N : Nat), am_cl[ci]? = some (C, T, N) ∧ Cond.classLink own k C ∈ am_good ∧ Cond.instantiable C N ∈ am_good ∧ Cond.initialized C ∈ am_good
  | (3, _, _, z) => Cond.constant own k (Int32.ofInt z) ∈ am_good
  | (4, _, _, z) => Cond.constantLong own k (Int64.ofInt z) ∈ am_good
  | (5, a, _, _) => a < 2 ∧ ∃ tx, am_str[a]? = some (own, k, tx)
  | (6, _, _, _) => Cond.methodLink own k objectInit ∈ am_good ∧ Cond.instanceMethod objectInit ∈ am_good ∧ Cond.code objectInit ⟨#[0xb1]⟩ 1 none ∈ am_good
  | (7, _, _, _) => Cond.methodLink own k arraycopyName ∈ am_good ∧ Cond.native arraycopyName ∈ am_good ∧ Cond.static arraycopyName ∈ am_good ∧ Cond.initialized "java/lang/System" ∈ am_good
  | (8, _, _, _) => Cond.fieldLink own k "java/lang/String" "value" "[B" ∈ am_good
  | (9, _, _, _) => Cond.fieldLink own k "java/lang/String" "coder" "B" ∈ am_good
  | (10, _, _, _) => Cond.fieldLink own k "java/lang/String" "COMPACT_STRINGS" "Z" ∈ am_good
  | (15, _, _, _) => Cond.fieldLink own k "jdk/internal/util/Preconditions" "SIOOBE_FORMATTER" "Ljava/util/function/BiFunction;" ∈ am_good
  | (11, _, _, _) => Cond.classLink own k "LastWordAt$Script" ∈ am_good
  | (12, _, _, _) => Cond.classLink own k "[[I" ∈ am_good
  | _ => False
def am_df : Nat → List Value
  | 0 => [.null, .null, .int 0, .null, .null, .long 0, .long 0, .int 0]
  | 1 => [.null, .null]
  | 2 => [.null, .null, .null, .int 0]
  | 3 => [.null, .null, .int 0]
  | 4 => [.int 0, .int 0, .int 0, .null, .null, .int 0, .int 0, .int 0]
  | 5 => [.null, .null, .null, .int 0, .int 0]
  | 6 => [.null, .int 0, .int 0]
  | 7 => [.null, .null, .null, .null, .int 0, .int 0]
  | 8 => [.null, .null, .int 0, .int 0]
  | 9 => [.null, .null, .null, .null, .null, .null, .null]
  | 10 => [.null, .null, .null, .null, .int 0, .int 0, .int 0, .int 0, .int 0, .int 0, .int 0, .long 0, .int 0, .int 0, .int 0, .null, .null, .null, .null, .int 0, .int 0, .int 0, .int 0, .int 0, .int 0, .null, .null, .null, .int 0, .int 0, .null, .null, .null]
  | _ => []
theorem am_okD (ci : Nat) (q : vw_C) (hq : am_cl[ci]? = some q) : ∃ ty : Nat → FieldType, (∀ k, k < q.2.2 → parseFieldDescriptor (q.2.1 k).2.2.1 = some (ty k)) ∧ ∀ j, j < q.2.2 → defaultValue (ty j) = vp_V (am_df ci) j := by
  match ci, hq with
  | 0, hq => cases hq; exact ⟨am_ty0, am_tyo0, by decide +kernel⟩
  | 1, hq => cases hq; exact ⟨am_ty1, am_tyo1, by decide +kernel⟩
  | 2, hq => cases hq; exact ⟨am_ty2, am_tyo2, by decide +kernel⟩
  | 3, hq => cases hq; exact ⟨am_ty3, am_tyo3, by decide +kernel⟩
  | 4, hq => cases hq; exact ⟨am_ty4, am_tyo4, by decide +kernel⟩
  | 5, hq => cases hq; exact ⟨am_ty5, am_tyo5, by decide +kernel⟩
  | 6, hq => cases hq; exact ⟨am_ty6, am_tyo6, by decide +kernel⟩
  | 7, hq => cases hq; exact ⟨am_ty7, am_tyo7, by decide +kernel⟩
  | 8, hq => cases hq; exact ⟨am_ty8, am_tyo8, by decide +kernel⟩
  | 9, hq => cases hq; exact ⟨am_ty9, am_tyo9, by decide +kernel⟩
  | 10, hq => cases hq; exact ⟨am_ty10, am_tyo10, by decide +kernel⟩
  | k + 11, hq => simp [am_cl] at hq
theorem am_ac0 : Cond.arrayClass .int ∈ am_good := am_good_of (List.mem_of_getElem? (i := 179) (by decide +kernel)) rfl
theorem am_ac1 : Cond.arrayClass .long ∈ am_good := am_good_of (List.mem_of_getElem? (i := 252) (by decide +kernel)) rfl
theorem am_ac2 : Cond.arrayClass .boolean ∈ am_good := am_good_of (List.mem_of_getElem? (i := 1419) (by decide +kernel)) rfl
