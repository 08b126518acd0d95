/-! Texts: how bytes are cut into tokens. -/
def isWb (b : Nat) : Bool := b == 32 || b == 10
def isLb (b : Nat) : Bool := (Nat.ble 97 b && Nat.ble b 122) || (Nat.ble 65 b && Nat.ble b 90)
def isDb (b : Nat) : Bool := Nat.ble 48 b && Nat.ble b 57
def skp' (p : Nat → Bool) : Nat → Nat → Nat
  | 0, a => a
  | k + 1, a => if p a = true then skp' p k (a + 1) else a
def skp (p : Nat → Bool) (n a : Nat) : Nat := skp' p (n - a) a
theorem skp_ge {p : Nat → Bool} {n a : Nat} (h : n ≤ a) : skp p n a = a := by
  unfold skp
  rw [show n - a = 0 by omega]
  rfl
theorem skp_lt {p : Nat → Bool} {n a : Nat} (h : a < n) : skp p n a = if p a = true then skp p n (a + 1) else a := by
  unfold skp
  rw [show n - a = (n - (a + 1)) + 1 by omega]
  rfl
theorem skp_le {p : Nat → Bool} {n : Nat} : ∀ {a : Nat}, a ≤ skp p n a := by
  have : ∀ k a, a ≤ skp' p k a := by
    intro k
    induction k with
    | zero => intro a; exact Nat.le_refl _
    | succ k ih =>
      intro a
      show a ≤ if p a = true then skp' p k (a + 1) else a
      split
      · have := ih (a + 1); omega
      · exact Nat.le_refl _
  intro a
  exact this _ _
theorem skp_n {p : Nat → Bool} {n : Nat} : ∀ {a : Nat}, a ≤ n → skp p n a ≤ n := by
  have : ∀ k a, skp' p k a ≤ a + k := by
    intro k
    induction k with
    | zero => intro a; exact Nat.le_refl _
    | succ k ih =>
      intro a
      show (if p a = true then skp' p k (a + 1) else a) ≤ a + (k + 1)
      split
      · have := ih (a + 1); omega
      · omega
  intro a h
  have := this (n - a) a
  unfold skp
  omega
/-- where it stops, p doesn't hold -/
theorem skp_stop {p : Nat → Bool} {n : Nat} : ∀ {a : Nat}, a ≤ n → skp p n a < n → p (skp p n a) = false := by
  have : ∀ k a, skp' p k a < a + k → p (skp' p k a) = false := by
    intro k
    induction k with
    | zero => intro a h; exact absurd h (Nat.lt_irrefl _)
    | succ k ih =>
      intro a
      show (if p a = true then skp' p k (a + 1) else a) < a + (k + 1) → p (if p a = true then skp' p k (a + 1) else a) = false
      by_cases q : p a = true
      · rw [if_pos q]
        intro h
        exact ih (a + 1) (by omega)
      · rw [if_neg q]
        intro _
        simpa using q
  intro a h1 h2
  unfold skp at h2 ⊢
  exact this (n - a) a (by omega)
theorem skp_in {p : Nat → Bool} {n : Nat} : ∀ {a i : Nat}, a ≤ i → i < skp p n a → p i = true := by
  have : ∀ k a i, a ≤ i → i < skp' p k a → p i = true := by
    intro k
    induction k with
    | zero =>
      intro a i h1 h2
      have h2' : i < a := h2
      omega
    | succ k ih =>
      intro a i h1
      show i < (if p a = true then skp' p k (a + 1) else a) → p i = true
      by_cases q : p a = true
      · rw [if_pos q]
        intro h2
        by_cases e : i = a
        · rw [e]; exact q
        · exact ih (a + 1) i (by omega) h2
      · rw [if_neg q]
        intro h2
        omega
  intro a i
  exact this _ a i
/-! the words -/
def cvW (i : Nat) : Int32 := (Int32.toUInt32 (((am_byt 0).getD i 0) &&& (255 : Int32)) % 65536).toInt32
def chW (i : Nat) : Nat := (cvW i).toNatClampNeg
def wbT : List Nat := [0, 6, 13, 18, 23, 29, 34, 40, 46, 53, 57, 62, 68, 75, 79, 84, 90, 94, 97, 103, 107, 111, 116, 121, 128, 131, 135, 139, 146, 151, 154, 159, 163]
def wb (k : Nat) : Nat := wbT.getD k 163
def wl (k : Nat) : Nat := wb (k + 1) - wb k - 1
theorem ch_all : ∀ i, i < 163 → am_in (nI i) (am_byt 0).length = true ∧ narrow .char (.int (cvW i)) = .int (cvW i) ∧ cvW i = nI (chW i) ∧ chW i < 128 := by decide +kernel
theorem wb_all : ∀ k, k < 32 → wb k + wl k + 1 = wb (k + 1) ∧ wb (k + 1) ≤ 163 ∧ 2 ≤ wl k ∧ wl k ≤ 6 ∧ chW (wb k + wl k) = 32 ∧ (∀ t, t < 6 → t < wl k → chW (wb k + t) ≠ 32 ∧ isLb (chW (wb k + t)) = true) := by decide +kernel
/-- the bytes from s on are word k's, and no more -/
def Mt (B : Nat → Nat) (s e k : Nat) : Prop := e - s = wl k ∧ ∀ t, t < wl k → B (s + t) = chW (wb k + t)
/-- letters as one number -/
def pkb (B : Nat → Nat) (s : Nat) : Nat → Nat
  | 0 => 0
  | m + 1 => pkb B s m * 256 + B (s + m)
def wpk (k : Nat) : Nat := pkb (fun i => chW i) (wb k) (wl k)
theorem pkb_inj {B C : Nat → Nat} {s r : Nat} : ∀ {m q : Nat}, (∀ t, t < m → 1 ≤ B (s + t) ∧ B (s + t) < 256) → (∀ t, t < q → 1 ≤ C (r + t) ∧ C (r + t) < 256) → pkb B s m = pkb C r q → m = q ∧ ∀ t, t < m → B (s + t) = C (r + t)
  | 0, 0, _, _, _ => ⟨rfl, fun t ht => by omega⟩
  | 0, q + 1, _, h2, h => by
    have h' : 0 = pkb C r q * 256 + C (r + q) := h
    have := (h2 q (by omega)).1
    omega
  | m + 1, 0, h1, _, h => by
    have h' : pkb B s m * 256 + B (s + m) = 0 := h
    have := (h1 m (by omega)).1
    omega
  | m + 1, q + 1, h1, h2, h => by
    have h' : pkb B s m * 256 + B (s + m) = pkb C r q * 256 + C (r + q) := h
    have b1 := h1 m (by omega)
    have b2 := h2 q (by omega)
    have e1 : pkb B s m = pkb C r q := by omega
    have e2 : B (s + m) = C (r + q) := by omega
    obtain ⟨i1, i2⟩ := pkb_inj (m := m) (q := q) (fun t ht => h1 t (by omega)) (fun t ht => h2 t (by omega)) e1
    refine ⟨by omega, fun t ht => ?_⟩
    by_cases e : t = m
    · rw [e, e2, i1]
    · exact i2 t (by omega)
theorem isL_rng {b : Nat} (h : isLb b = true) : 65 ≤ b ∧ b ≤ 122 := by
  unfold isLb at h
  simp only [Bool.or_eq_true, Bool.and_eq_true, Nat.ble_eq] at h
  omega
theorem pkb_congr {B C : Nat → Nat} {s r : Nat} : ∀ {m : Nat}, (∀ t, t < m → B (s + t) = C (r + t)) → pkb B s m = pkb C r m
  | 0, _ => rfl
  | m + 1, h => by
    show pkb B s m * 256 + B (s + m) = pkb C r m * 256 + C (r + m)
    rw [pkb_congr (fun t ht => h t (by omega)), h m (by omega)]
/-- a word is known by its number -/
theorem Mt_pk {B : Nat → Nat} {s e k : Nat} (hk : k < 32) (hse : s ≤ e) (hL : ∀ i, s ≤ i → i < e → isLb (B i) = true) : Mt B s e k ↔ pkb B s (e - s) = wpk k := by
  obtain ⟨w1, w2, w3, w4, w5, w6⟩ := wb_all k hk
  have hb : ∀ t, t < e - s → 1 ≤ B (s + t) ∧ B (s + t) < 256 := fun t ht => by
    have := isL_rng (hL (s + t) (by omega) (by omega))
    omega
  have hc : ∀ t, t < wl k → 1 ≤ chW (wb k + t) ∧ chW (wb k + t) < 256 := fun t ht => by
    have := isL_rng (w6 t (by omega) ht).2
    omega
  constructor
  · rintro ⟨h1, h2⟩
    unfold wpk
    rw [h1]
    exact pkb_congr h2
  · intro h
    obtain ⟨i1, i2⟩ := pkb_inj (C := fun i => chW i) hb hc h
    exact ⟨i1, fun t ht => i2 t (by omega)⟩
theorem wpk_inj : ∀ k, k < 32 → ∀ j, j < 32 → wpk k = wpk j → k = j := by decide +kernel
theorem wpk_lt : ∀ k, k < 32 → wpk k < 281474976710656 := by decide +kernel
/-- which word -/
def wxl (p : Nat → Bool) : Nat → Nat → Nat
  | 0, k => k
  | f + 1, k => if p k = true then k else wxl p f (k + 1)
def wx (B : Nat → Nat) (s e : Nat) : Nat := wxl (fun k => pkb B s (e - s) == wpk k) 32 0
theorem wxl_spec (p : Nat → Bool) : ∀ f k, (wxl p f k < k + f ∧ p (wxl p f k) = true ∧ ∀ i, k ≤ i → i < wxl p f k → p i = false) ∨ (wxl p f k = k + f ∧ ∀ i, k ≤ i → i < k + f → p i = false)
  | 0, k => Or.inr ⟨rfl, fun i h1 h2 => by omega⟩
  | f + 1, k => by
    show ((if p k = true then k else wxl p f (k + 1)) < k + (f + 1) ∧ p (if p k = true then k else wxl p f (k + 1)) = true ∧ ∀ i, k ≤ i → i < (if p k = true then k else wxl p f (k + 1)) → p i = false) ∨ ((if p k = true then k else wxl p f (k + 1)) = k + (f + 1) ∧ ∀ i, k ≤ i → i < k + (f + 1) → p i = false)
    by_cases q : p k = true
    · rw [if_pos q]
      exact Or.inl ⟨by omega, q, fun i h1 h2 => by omega⟩
    · rw [if_neg q]
      have q' : p k = false := by simpa using q
      rcases wxl_spec p f (k + 1) with ⟨a, b, c⟩ | ⟨a, b⟩
      · refine Or.inl ⟨by omega, b, fun i h1 h2 => ?_⟩
        by_cases e : i = k
        · rw [e]; exact q'
        · exact c i (by omega) h2
      · refine Or.inr ⟨by omega, fun i h1 h2 => ?_⟩
        by_cases e : i = k
        · rw [e]; exact q'
        · exact b i (by omega) (by omega)
theorem wx_iff (B : Nat → Nat) (s e : Nat) {k : Nat} (hk : k < 32) : wx B s e = k ↔ pkb B s (e - s) = wpk k := by
  have h := wxl_spec (fun k => pkb B s (e - s) == wpk k) 32 0
  constructor
  · intro h1
    rcases h with ⟨a, b, c⟩ | ⟨a, b⟩
    · have b' : (pkb B s (e - s) == wpk (wx B s e)) = true := b
      rw [h1] at b'
      simpa using b'
    · have a' : wx B s e = 0 + 32 := a
      omega
  · intro h1
    rcases h with ⟨a, b, c⟩ | ⟨a, b⟩
    · have b' : (pkb B s (e - s) == wpk (wx B s e)) = true := b
      have a' : wx B s e < 0 + 32 := a
      have b2 : pkb B s (e - s) = wpk (wx B s e) := by simpa using b'
      exact wpk_inj _ (by omega) _ hk (by rw [← b2, h1])
    · have := b k (by omega) (by omega)
      rw [h1] at this
      simp at this
theorem wx_le (B : Nat → Nat) (s e : Nat) : wx B s e ≤ 32 := by
  rcases wxl_spec (fun k => pkb B s (e - s) == wpk k) 32 0 with ⟨a, -⟩ | ⟨a, -⟩
  · have a' : wx B s e < 0 + 32 := a
    omega
  · have a' : wx B s e = 0 + 32 := a
    omega
/-! tokens -/
def sgk (b : Nat) : Nat := if b = 60 then 34 else if b = 62 then 35 else if b = 61 then 36 else if b = 35 then 37 else if b = 43 then 38 else if b = 45 then 39 else if b = 42 then 40 else if b = 47 then 41 else if b = 40 then 42 else if b = 41 then 43 else if b = 58 then 44 else if b = 59 then 45 else 32
def two (B : Nat → Nat) (n s : Nat) : Bool := (B s == 60 || B s == 62) && (Nat.blt (s + 1) n && B (s + 1) == 61)
def te (B : Nat → Nat) (n s : Nat) : Nat := if n ≤ s then s else if isLb (B s) = true then skp (fun i => isLb (B i)) n s else if isDb (B s) = true then skp (fun i => isDb (B i)) n s else if two B n s = true then s + 2 else s + 1
def nv (B : Nat → Nat) (s : Nat) : Nat → Nat
  | 0 => 0
  | m + 1 => min (nv B s m * 10 + (B (s + m) - 48)) 10000
def kd (B : Nat → Nat) (n s : Nat) : Nat := if n ≤ s then 48 else if isLb (B s) = true then wx B s (te B n s) else if isDb (B s) = true then 33 else if two B n s = true then (if B s = 60 then 46 else 47) else sgk (B s)
def nm (B : Nat → Nat) (n s : Nat) : Nat := if n ≤ s then 0 else if isLb (B s) = true then 0 else if isDb (B s) = true then nv B s (te B n s - s) else 0
def wsp (B : Nat → Nat) (n a : Nat) : Nat := skp (fun i => isWb (B i)) n a
def stk (B : Nat → Nat) (n : Nat) : Nat → Nat
  | 0 => wsp B n 0
  | j + 1 => wsp B n (te B n (stk B n j))
theorem te_n {B : Nat → Nat} {n s : Nat} (h : s ≤ n) : te B n s ≤ n := by
  unfold te
  split
  · omega
  · split
    · exact skp_n h
    · split
      · exact skp_n h
      · split
        · rename_i q
          unfold two at q
          simp only [Bool.and_eq_true, Nat.blt_eq] at q
          omega
        · omega
theorem te_gt {B : Nat → Nat} {n s : Nat} (h : s < n) : s < te B n s := by
  unfold te
  rw [if_neg (by omega)]
  split
  · rename_i q
    rw [skp_lt h, if_pos q]
    have := skp_le (p := fun i => isLb (B i)) (n := n) (a := s + 1)
    omega
  · split
    · rename_i q
      rw [skp_lt h, if_pos q]
      have := skp_le (p := fun i => isDb (B i)) (n := n) (a := s + 1)
      omega
    · split <;> omega
theorem stk_n {B : Nat → Nat} {n : Nat} : ∀ j, stk B n j ≤ n
  | 0 => skp_n (Nat.zero_le _)
  | j + 1 => skp_n (te_n (stk_n j))
theorem stk_gt {B : Nat → Nat} {n j : Nat} (h : stk B n j < n) : stk B n j < stk B n (j + 1) := by
  have h1 := te_gt (B := B) h
  have h2 := skp_le (p := fun i => isWb (B i)) (n := n) (a := te B n (stk B n j))
  show _ < wsp B n _
  unfold wsp
  omega
theorem stk_ge {B : Nat → Nat} {n : Nat} : ∀ j, j ≤ stk B n j ∨ stk B n j = n
  | 0 => Or.inl (Nat.zero_le _)
  | j + 1 => by
    rcases stk_ge (B := B) (n := n) j with h | h
    · by_cases q : stk B n j < n
      · have := stk_gt q
        exact Or.inl (by omega)
      · have e : stk B n j = n := by have := stk_n (B := B) (n := n) j; omega
        right
        show wsp B n (te B n (stk B n j)) = n
        have : te B n n = n := by unfold te; rw [if_pos (Nat.le_refl _)]
        rw [e, this]
        exact skp_ge (Nat.le_refl _)
    · right
      show wsp B n (te B n (stk B n j)) = n
      have : te B n n = n := by unfold te; rw [if_pos (Nat.le_refl _)]
      rw [h, this]
      exact skp_ge (Nat.le_refl _)
theorem nv_le (B : Nat → Nat) (s : Nat) : ∀ m, nv B s m ≤ 10000
  | 0 => by show 0 ≤ 10000; omega
  | m + 1 => by show min _ _ ≤ 10000; omega
theorem nm_le (B : Nat → Nat) (n s : Nat) : nm B n s ≤ 10000 := by
  unfold nm
  split
  · omega
  · split
    · omega
    · split
      · exact nv_le _ _ _
      · omega
theorem sgk_le (b : Nat) : 32 ≤ sgk b ∧ sgk b ≤ 45 ∧ sgk b ≠ 33 := by
  unfold sgk
  repeat' split
  all_goals omega
theorem kd_lt (B : Nat → Nat) (n s : Nat) : kd B n s ≤ 48 := by
  unfold kd
  split
  · omega
  · split
    · have := wx_le B s (te B n s); omega
    · split
      · omega
      · split
        · split <;> omega
        · have := sgk_le (B s); omega
