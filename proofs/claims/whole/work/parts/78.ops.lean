/-! What each call owes; the law's cases out of it. -/
theorem lgc_self (x : Int64) : lg_cmp x x = 0 := by
  unfold lg_cmp
  simp
def O_0 (J J' : Mem → Prop) (N : Nat) : Prop := ∀ (M : Mem) (a : Int32) (b : Int32) (c : Int32), J M → ∃ (v : Int32) (M1 : Mem) (M2 : Mem), f_w_guest a b c M = some (v, M1) ∧ f_m_guest a b c M1 = some (v, M2) ∧ J' M2
set_option maxRecDepth 100000 in
theorem c_0 {J J' : Mem → Prop} {N : Nat} {S : Nat × (Nat → Int32)} {K : Int32 → Mem → Option (Int32 × Mem)} {x3 : Int32} {M : Mem} (ho : O_0 J J' N) (hM : J M) (h1 : am_in (x3 + (1 : Int32)) S.1 = true) (h2 : am_in (x3 + (2 : Int32)) S.1 = true) (h3 : am_in (x3 + (3 : Int32)) S.1 = true) (hK : ∀ M', J' M' → ∃ Mf, K (x3 + (6 : Int32)) M' = some (1, Mf)) : ∃ Mf, f_law_236 S N K x3 M = some (1, Mf) := by
  obtain ⟨v, M1, M2, e1, e2, hJ⟩ := ho M (S.2 ((x3 + (1 : Int32))).toNatClampNeg) (S.2 ((x3 + (2 : Int32))).toNatClampNeg) (S.2 ((x3 + (3 : Int32))).toNatClampNeg) hM
  simp only [f_law_236, h1, h2, h3, if_true, if_false, eq_self, e1, Option.bind_some, e2]
  exact hK _ hJ
def O_1 (J J' : Mem → Prop) (N : Nat) : Prop := ∀ (M : Mem) (a : Int32) (b : Int32) (c : Int32) (d : Int32) (e : Int32), J M → ∃ (v : Int32) (M1 : Mem) (M2 : Mem), f_w_feed N a b c d e M = some (v, M1) ∧ f_m_feed N a b c d e M1 = some (v, M2) ∧ J' M2
set_option maxRecDepth 100000 in
theorem c_1 {J J' : Mem → Prop} {N : Nat} {S : Nat × (Nat → Int32)} {K : Int32 → Mem → Option (Int32 × Mem)} {x3 : Int32} {M : Mem} (ho : O_1 J J' N) (hM : J M) (h1 : am_in (x3 + (1 : Int32)) S.1 = true) (h2 : am_in (x3 + (2 : Int32)) S.1 = true) (h3 : am_in (x3 + (3 : Int32)) S.1 = true) (h4 : am_in (x3 + (4 : Int32)) S.1 = true) (h5 : am_in (x3 + (5 : Int32)) S.1 = true) (hK : ∀ M', J' M' → ∃ Mf, K (x3 + (6 : Int32)) M' = some (1, Mf)) : ∃ Mf, f_law_279 S N K x3 M = some (1, Mf) := by
  obtain ⟨v, M1, M2, e1, e2, hJ⟩ := ho M (S.2 ((x3 + (1 : Int32))).toNatClampNeg) (S.2 ((x3 + (2 : Int32))).toNatClampNeg) (S.2 ((x3 + (3 : Int32))).toNatClampNeg) (S.2 ((x3 + (4 : Int32))).toNatClampNeg) (S.2 ((x3 + (5 : Int32))).toNatClampNeg) hM
  simp only [f_law_279, h1, h2, h3, h4, h5, if_true, if_false, eq_self, e1, Option.bind_some, e2]
  exact hK _ hJ
def O_2 (J J' : Mem → Prop) (N : Nat) : Prop := ∀ (M : Mem) (a : Int32), J M → ∃ (v : Int32) (M1 : Mem) (M2 : Mem), f_w_end a M = some (v, M1) ∧ f_m_end a M1 = some (v, M2) ∧ J' M2
set_option maxRecDepth 100000 in
theorem c_2 {J J' : Mem → Prop} {N : Nat} {S : Nat × (Nat → Int32)} {K : Int32 → Mem → Option (Int32 × Mem)} {x3 : Int32} {M : Mem} (ho : O_2 J J' N) (hM : J M) (h1 : am_in (x3 + (1 : Int32)) S.1 = true) (hK : ∀ M', J' M' → ∃ Mf, K (x3 + (6 : Int32)) M' = some (1, Mf)) : ∃ Mf, f_law_342 S N K x3 M = some (1, Mf) := by
  obtain ⟨v, M1, M2, e1, e2, hJ⟩ := ho M (S.2 ((x3 + (1 : Int32))).toNatClampNeg) hM
  simp only [f_law_342, h1, if_true, if_false, eq_self, e1, Option.bind_some, e2]
  exact hK _ hJ
def O_3 (J J' : Mem → Prop) (N : Nat) : Prop := ∀ (M : Mem), J M → ∃ (v : Int32) (M1 : Mem) (M2 : Mem), f_w_text N M = some (v, M1) ∧ f_m_text N M1 = some (v, M2) ∧ J' M2
set_option maxRecDepth 100000 in
theorem c_3 {J J' : Mem → Prop} {N : Nat} {S : Nat × (Nat → Int32)} {K : Int32 → Mem → Option (Int32 × Mem)} {x3 : Int32} {M : Mem} (ho : O_3 J J' N) (hM : J M) (hK : ∀ M', J' M' → ∃ Mf, K (x3 + (6 : Int32)) M' = some (1, Mf)) : ∃ Mf, f_law_365 S N K x3 M = some (1, Mf) := by
  obtain ⟨v, M1, M2, e1, e2, hJ⟩ := ho M  hM
  simp only [f_law_365, if_true, if_false, eq_self, e1, Option.bind_some, e2]
  exact hK _ hJ
def O_4 (J J' : Mem → Prop) (N : Nat) : Prop := ∀ (M : Mem) (a : Int32), J M → ∃ (v : Int32), f_w_fault a M = v ∧ f_m_fault a M = v ∧ J' M
set_option maxRecDepth 100000 in
theorem c_4 {J J' : Mem → Prop} {N : Nat} {S : Nat × (Nat → Int32)} {K : Int32 → Mem → Option (Int32 × Mem)} {x3 : Int32} {M : Mem} (ho : O_4 J J' N) (hM : J M) (h1 : am_in (x3 + (1 : Int32)) S.1 = true) (hK : ∀ M', J' M' → ∃ Mf, K (x3 + (6 : Int32)) M' = some (1, Mf)) : ∃ Mf, f_law_378 S N K x3 M = some (1, Mf) := by
  obtain ⟨v, e1, e2, hJ⟩ := ho M (S.2 ((x3 + (1 : Int32))).toNatClampNeg) hM
  simp only [f_law_378, h1, if_true, if_false, eq_self, e1, Option.bind_some, e2]
  exact hK _ hJ
def O_5 (J J' : Mem → Prop) (N : Nat) : Prop := ∀ (M : Mem) (a : Int32), J M → ∃ (v : Int32) (M1 : Mem) (M2 : Mem), f_w_by a M = some (v, M1) ∧ f_m_by a M1 = some (v, M2) ∧ J' M2
set_option maxRecDepth 100000 in
theorem c_5 {J J' : Mem → Prop} {N : Nat} {S : Nat × (Nat → Int32)} {K : Int32 → Mem → Option (Int32 × Mem)} {x3 : Int32} {M : Mem} (ho : O_5 J J' N) (hM : J M) (h1 : am_in (x3 + (1 : Int32)) S.1 = true) (hK : ∀ M', J' M' → ∃ Mf, K (x3 + (6 : Int32)) M' = some (1, Mf)) : ∃ Mf, f_law_401 S N K x3 M = some (1, Mf) := by
  obtain ⟨v, M1, M2, e1, e2, hJ⟩ := ho M (S.2 ((x3 + (1 : Int32))).toNatClampNeg) hM
  simp only [f_law_401, h1, if_true, if_false, eq_self, e1, Option.bind_some, e2]
  exact hK _ hJ
def O_6 (J J' : Mem → Prop) (N : Nat) : Prop := ∀ (M : Mem) (a : Int32) (b : Int32), J M → ∃ (v : Int32) (M1 : Mem) (M2 : Mem), f_w_say N a b M = some (v, M1) ∧ f_m_say N a b M1 = some (v, M2) ∧ J' M2
set_option maxRecDepth 100000 in
theorem c_6 {J J' : Mem → Prop} {N : Nat} {S : Nat × (Nat → Int32)} {K : Int32 → Mem → Option (Int32 × Mem)} {x3 : Int32} {M : Mem} (ho : O_6 J J' N) (hM : J M) (h1 : am_in (x3 + (1 : Int32)) S.1 = true) (h2 : am_in (x3 + (2 : Int32)) S.1 = true) (hK : ∀ M', J' M' → ∃ Mf, K (x3 + (6 : Int32)) M' = some (1, Mf)) : ∃ Mf, f_law_424 S N K x3 M = some (1, Mf) := by
  obtain ⟨v, M1, M2, e1, e2, hJ⟩ := ho M (S.2 ((x3 + (1 : Int32))).toNatClampNeg) (S.2 ((x3 + (2 : Int32))).toNatClampNeg) hM
  simp only [f_law_424, h1, h2, if_true, if_false, eq_self, e1, Option.bind_some, e2]
  exact hK _ hJ
def O_7 (J J' : Mem → Prop) (N : Nat) : Prop := ∀ (M : Mem), J M → ∃ (v : Int32) (M1 : Mem) (M2 : Mem), f_w_ask M = some (v, M1) ∧ f_m_ask N M1 = some (v, M2) ∧ J' M2
set_option maxRecDepth 100000 in
theorem c_7 {J J' : Mem → Prop} {N : Nat} {S : Nat × (Nat → Int32)} {K : Int32 → Mem → Option (Int32 × Mem)} {x3 : Int32} {M : Mem} (ho : O_7 J J' N) (hM : J M) (hK : ∀ M', J' M' → ∃ Mf, K (x3 + (6 : Int32)) M' = some (1, Mf)) : ∃ Mf, f_law_457 S N K x3 M = some (1, Mf) := by
  obtain ⟨v, M1, M2, e1, e2, hJ⟩ := ho M  hM
  simp only [f_law_457, if_true, if_false, eq_self, e1, Option.bind_some, e2]
  exact hK _ hJ
def O_8 (J J' : Mem → Prop) (N : Nat) : Prop := ∀ (M : Mem) (a : Int32), J M → ∃ (v : Int32) (M1 : Mem) (M2 : Mem), f_w_pass N a M = some (v, M1) ∧ f_m_pass N a M1 = some (v, M2) ∧ J' M2
set_option maxRecDepth 100000 in
theorem c_8 {J J' : Mem → Prop} {N : Nat} {S : Nat × (Nat → Int32)} {K : Int32 → Mem → Option (Int32 × Mem)} {x3 : Int32} {M : Mem} (ho : O_8 J J' N) (hM : J M) (h1 : am_in (x3 + (1 : Int32)) S.1 = true) (hK : ∀ M', J' M' → ∃ Mf, K (x3 + (6 : Int32)) M' = some (1, Mf)) : ∃ Mf, f_law_470 S N K x3 M = some (1, Mf) := by
  obtain ⟨v, M1, M2, e1, e2, hJ⟩ := ho M (S.2 ((x3 + (1 : Int32))).toNatClampNeg) hM
  simp only [f_law_470, h1, if_true, if_false, eq_self, e1, Option.bind_some, e2]
  exact hK _ hJ
def O_9 (J J' : Mem → Prop) (N : Nat) : Prop := ∀ (M : Mem) (a : Int32), J M → ∃ (v : Int32) (M1 : Mem) (M2 : Mem), f_w_send a M = some (v, M1) ∧ f_m_send N a M1 = some (v, M2) ∧ J' M2
set_option maxRecDepth 100000 in
theorem c_9 {J J' : Mem → Prop} {N : Nat} {S : Nat × (Nat → Int32)} {K : Int32 → Mem → Option (Int32 × Mem)} {x3 : Int32} {M : Mem} (ho : O_9 J J' N) (hM : J M) (h1 : am_in (x3 + (1 : Int32)) S.1 = true) (hK : ∀ M', J' M' → ∃ Mf, K (x3 + (6 : Int32)) M' = some (1, Mf)) : ∃ Mf, f_law_493 S N K x3 M = some (1, Mf) := by
  obtain ⟨v, M1, M2, e1, e2, hJ⟩ := ho M (S.2 ((x3 + (1 : Int32))).toNatClampNeg) hM
  simp only [f_law_493, h1, if_true, if_false, eq_self, e1, Option.bind_some, e2]
  exact hK _ hJ
def O_10 (J J' : Mem → Prop) (N : Nat) : Prop := ∀ (M : Mem), J M → ∃ (v : Int32) (M1 : Mem) (M2 : Mem), f_w_dinner N M = some (v, M1) ∧ f_m_dinner N M1 = some (v, M2) ∧ J' M2
set_option maxRecDepth 100000 in
theorem c_10 {J J' : Mem → Prop} {N : Nat} {S : Nat × (Nat → Int32)} {K : Int32 → Mem → Option (Int32 × Mem)} {x3 : Int32} {M : Mem} (ho : O_10 J J' N) (hM : J M) (hK : ∀ M', J' M' → ∃ Mf, K (x3 + (6 : Int32)) M' = some (1, Mf)) : ∃ Mf, f_law_516 S N K x3 M = some (1, Mf) := by
  obtain ⟨v, M1, M2, e1, e2, hJ⟩ := ho M  hM
  simp only [f_law_516, if_true, if_false, eq_self, e1, Option.bind_some, e2]
  exact hK _ hJ
def O_11 (J J' : Mem → Prop) (N : Nat) : Prop := ∀ (M : Mem) (a : Int32), J M → ∃ (v : Int32) (M1 : Mem) (M2 : Mem), f_w_played N a M = some (v, M1) ∧ f_m_played N a M1 = some (v, M2) ∧ J' M2
set_option maxRecDepth 100000 in
theorem c_11 {J J' : Mem → Prop} {N : Nat} {S : Nat × (Nat → Int32)} {K : Int32 → Mem → Option (Int32 × Mem)} {x3 : Int32} {M : Mem} (ho : O_11 J J' N) (hM : J M) (h1 : am_in (x3 + (1 : Int32)) S.1 = true) (hK : ∀ M', J' M' → ∃ Mf, K (x3 + (6 : Int32)) M' = some (1, Mf)) : ∃ Mf, f_law_529 S N K x3 M = some (1, Mf) := by
  obtain ⟨v, M1, M2, e1, e2, hJ⟩ := ho M (S.2 ((x3 + (1 : Int32))).toNatClampNeg) hM
  simp only [f_law_529, h1, if_true, if_false, eq_self, e1, Option.bind_some, e2]
  exact hK _ hJ
def O_12 (J J' : Mem → Prop) (N : Nat) : Prop := ∀ (M : Mem) (a : Int32) (b : Int32), J M → ∃ (v : Int32) (M1 : Mem) (M2 : Mem), f_w_years N a b M = some (v, M1) ∧ f_m_years N a b M1 = some (v, M2) ∧ J' M2
set_option maxRecDepth 100000 in
theorem c_12 {J J' : Mem → Prop} {N : Nat} {S : Nat × (Nat → Int32)} {K : Int32 → Mem → Option (Int32 × Mem)} {x3 : Int32} {M : Mem} (ho : O_12 J J' N) (hM : J M) (h1 : am_in (x3 + (1 : Int32)) S.1 = true) (h2 : am_in (x3 + (2 : Int32)) S.1 = true) (hK : ∀ M', J' M' → ∃ Mf, K (x3 + (6 : Int32)) M' = some (1, Mf)) : ∃ Mf, f_law_552 S N K x3 M = some (1, Mf) := by
  obtain ⟨v, M1, M2, e1, e2, hJ⟩ := ho M (S.2 ((x3 + (1 : Int32))).toNatClampNeg) (S.2 ((x3 + (2 : Int32))).toNatClampNeg) hM
  simp only [f_law_552, h1, h2, if_true, if_false, eq_self, e1, Option.bind_some, e2]
  exact hK _ hJ
def O_13 (J J' : Mem → Prop) (N : Nat) : Prop := ∀ (M : Mem), J M → ∃ (v : Int32) (M1 : Mem) (M2 : Mem), f_w_undo M = some (v, M1) ∧ f_m_undo N M1 = some (v, M2) ∧ J' M2
set_option maxRecDepth 100000 in
theorem c_13 {J J' : Mem → Prop} {N : Nat} {S : Nat × (Nat → Int32)} {K : Int32 → Mem → Option (Int32 × Mem)} {x3 : Int32} {M : Mem} (ho : O_13 J J' N) (hM : J M) (hK : ∀ M', J' M' → ∃ Mf, K (x3 + (6 : Int32)) M' = some (1, Mf)) : ∃ Mf, f_law_585 S N K x3 M = some (1, Mf) := by
  obtain ⟨v, M1, M2, e1, e2, hJ⟩ := ho M  hM
  simp only [f_law_585, if_true, if_false, eq_self, e1, Option.bind_some, e2]
  exact hK _ hJ
def O_14 (J J' : Mem → Prop) (N : Nat) : Prop := ∀ (M : Mem) (a : Int32) (b : Int32), J M → ∃ (v : Int32) (M1 : Mem) (M2 : Mem), f_w_of N a b M = some (v, M1) ∧ f_m_of N a b M1 = some (v, M2) ∧ J' M2
set_option maxRecDepth 100000 in
theorem c_14 {J J' : Mem → Prop} {N : Nat} {S : Nat × (Nat → Int32)} {K : Int32 → Mem → Option (Int32 × Mem)} {x3 : Int32} {M : Mem} (ho : O_14 J J' N) (hM : J M) (h1 : am_in (x3 + (1 : Int32)) S.1 = true) (h2 : am_in (x3 + (2 : Int32)) S.1 = true) (hK : ∀ M', J' M' → ∃ Mf, K (x3 + (6 : Int32)) M' = some (1, Mf)) : ∃ Mf, f_law_598 S N K x3 M = some (1, Mf) := by
  obtain ⟨v, M1, M2, e1, e2, hJ⟩ := ho M (S.2 ((x3 + (1 : Int32))).toNatClampNeg) (S.2 ((x3 + (2 : Int32))).toNatClampNeg) hM
  simp only [f_law_598, h1, h2, if_true, if_false, eq_self, e1, Option.bind_some, e2]
  exact hK _ hJ
def O_15 (J J' : Mem → Prop) (N : Nat) : Prop := ∀ (M : Mem) (a : Int32), J M → (a = 0 ∨ a = 1) → ∃ (v : Int32) (M2 : Mem), f_w_holds N a M = some v ∧ f_m_holds N a M = some (v, M2) ∧ J' M2
set_option maxRecDepth 100000 in
theorem c_15 {J J' : Mem → Prop} {N : Nat} {S : Nat × (Nat → Int32)} {K : Int32 → Mem → Option (Int32 × Mem)} {x3 : Int32} {M : Mem} (ho : O_15 J J' N) (hM : J M) (h1 : am_in (x3 + (1 : Int32)) S.1 = true) (hK : ∀ M', J' M' → ∃ Mf, K (x3 + (6 : Int32)) M' = some (1, Mf)) : ∃ Mf, f_law_631 S N K x3 M = some (1, Mf) := by
  by_cases hz0 : (S.2 ((x3 + (1 : Int32))).toNatClampNeg) = (0 : Int32)
  · obtain ⟨v, M2, e1, e2, hJ⟩ := ho M 0 hM (by decide)
    simp only [f_law_631, h1, hz0, if_true, if_false, eq_self, e1, Option.bind_some, e2]
    exact hK _ hJ
  · obtain ⟨v, M2, e1, e2, hJ⟩ := ho M 1 hM (by decide)
    simp only [f_law_631, h1, hz0, if_true, if_false, eq_self, e1, Option.bind_some, e2]
    exact hK _ hJ
def O_16 (J J' : Mem → Prop) (N : Nat) : Prop := ∀ (M : Mem) (a : Int32) (b : Int32), J M → ∃ (v : Int32), f_w_log a b M = some v ∧ f_m_log0 a b M = some v ∧ J' M
set_option maxRecDepth 100000 in
theorem c_16 {J J' : Mem → Prop} {N : Nat} {S : Nat × (Nat → Int32)} {K : Int32 → Mem → Option (Int32 × Mem)} {x3 : Int32} {M : Mem} (ho : O_16 J J' N) (hM : J M) (h1 : am_in (x3 + (1 : Int32)) S.1 = true) (h2 : am_in (x3 + (2 : Int32)) S.1 = true) (hK : ∀ M', J' M' → ∃ Mf, K (x3 + (6 : Int32)) M' = some (1, Mf)) : ∃ Mf, f_law_670 S N K x3 M = some (1, Mf) := by
  obtain ⟨v, e1, e2, hJ⟩ := ho M (S.2 ((x3 + (1 : Int32))).toNatClampNeg) (S.2 ((x3 + (2 : Int32))).toNatClampNeg) hM
  simp only [f_law_670, h1, h2, if_true, if_false, eq_self, e1, Option.bind_some, e2]
  exact hK _ hJ
def O_17 (J J' : Mem → Prop) (N : Nat) : Prop := ∀ (M : Mem) (a : Int32) (b : Int32), J M → ∃ (v : Int32), f_w_book a b M = some v ∧ f_m_book a b M = some v ∧ J' M
set_option maxRecDepth 100000 in
theorem c_17 {J J' : Mem → Prop} {N : Nat} {S : Nat × (Nat → Int32)} {K : Int32 → Mem → Option (Int32 × Mem)} {x3 : Int32} {M : Mem} (ho : O_17 J J' N) (hM : J M) (h1 : am_in (x3 + (1 : Int32)) S.1 = true) (h2 : am_in (x3 + (2 : Int32)) S.1 = true) (hK : ∀ M', J' M' → ∃ Mf, K (x3 + (6 : Int32)) M' = some (1, Mf)) : ∃ Mf, f_law_703 S N K x3 M = some (1, Mf) := by
  obtain ⟨v, e1, e2, hJ⟩ := ho M (S.2 ((x3 + (1 : Int32))).toNatClampNeg) (S.2 ((x3 + (2 : Int32))).toNatClampNeg) hM
  simp only [f_law_703, h1, h2, if_true, if_false, eq_self, e1, Option.bind_some, e2]
  exact hK _ hJ
def O_18 (J J' : Mem → Prop) (N : Nat) : Prop := ∀ (M : Mem) (a : Int32) (b : Int32) (c : Int32), J M → (c = 0 ∨ c = 1) → ∃ (v : Int64), f_w_inherits N a b c M = some v ∧ f_m_inherits N a b c M = some v ∧ J' M
set_option maxRecDepth 100000 in
theorem c_18 {J J' : Mem → Prop} {N : Nat} {S : Nat × (Nat → Int32)} {K : Int32 → Mem → Option (Int32 × Mem)} {x3 : Int32} {M : Mem} (ho : O_18 J J' N) (hM : J M) (h1 : am_in (x3 + (1 : Int32)) S.1 = true) (h2 : am_in (x3 + (2 : Int32)) S.1 = true) (h3 : am_in (x3 + (3 : Int32)) S.1 = true) (hK : ∀ M', J' M' → ∃ Mf, K (x3 + (6 : Int32)) M' = some (1, Mf)) : ∃ Mf, f_law_736 S N K x3 M = some (1, Mf) := by
  by_cases hz2 : (S.2 ((x3 + (3 : Int32))).toNatClampNeg) = (0 : Int32)
  · obtain ⟨v, e1, e2, hJ⟩ := ho M (S.2 ((x3 + (1 : Int32))).toNatClampNeg) (S.2 ((x3 + (2 : Int32))).toNatClampNeg) 0 hM (by decide)
    simp only [f_law_736, h1, h2, h3, hz2, if_true, if_false, eq_self, e1, Option.bind_some, e2, lgc_self]
    exact hK _ hJ
  · obtain ⟨v, e1, e2, hJ⟩ := ho M (S.2 ((x3 + (1 : Int32))).toNatClampNeg) (S.2 ((x3 + (2 : Int32))).toNatClampNeg) 1 hM (by decide)
    simp only [f_law_736, h1, h2, h3, hz2, if_true, if_false, eq_self, e1, Option.bind_some, e2, lgc_self]
    exact hK _ hJ
def O_19 (J J' : Mem → Prop) (N : Nat) : Prop := ∀ (M : Mem) (a : Int32) (b : Int32), J M → (b = 0 ∨ b = 1) → ∃ (v : Int64), f_w_open N a b M = some v ∧ f_m_open N a b M = some v ∧ J' M
set_option maxRecDepth 100000 in
theorem c_19 {J J' : Mem → Prop} {N : Nat} {S : Nat × (Nat → Int32)} {K : Int32 → Mem → Option (Int32 × Mem)} {x3 : Int32} {M : Mem} (ho : O_19 J J' N) (hM : J M) (h1 : am_in (x3 + (1 : Int32)) S.1 = true) (h2 : am_in (x3 + (2 : Int32)) S.1 = true) (hK : ∀ M', J' M' → ∃ Mf, K (x3 + (6 : Int32)) M' = some (1, Mf)) : ∃ Mf, f_law_796 S N K x3 M = some (1, Mf) := by
  by_cases hz1 : (S.2 ((x3 + (2 : Int32))).toNatClampNeg) = (0 : Int32)
  · obtain ⟨v, e1, e2, hJ⟩ := ho M (S.2 ((x3 + (1 : Int32))).toNatClampNeg) 0 hM (by decide)
    simp only [f_law_796, h1, h2, hz1, if_true, if_false, eq_self, e1, Option.bind_some, e2, lgc_self]
    exact hK _ hJ
  · obtain ⟨v, e1, e2, hJ⟩ := ho M (S.2 ((x3 + (1 : Int32))).toNatClampNeg) 1 hM (by decide)
    simp only [f_law_796, h1, h2, hz1, if_true, if_false, eq_self, e1, Option.bind_some, e2, lgc_self]
    exact hK _ hJ
def O_20 (J J' : Mem → Prop) (N : Nat) : Prop := ∀ (M : Mem) (a : Int32) (b : Int32) (c : Int32) (d : Int32), J M → (d = 0 ∨ d = 1) → ∃ (v : Int64), f_w_thatNight N a b c d M = some v ∧ f_m_thatNight N a b c d M = some v ∧ J' M
set_option maxRecDepth 100000 in
theorem c_20 {J J' : Mem → Prop} {N : Nat} {S : Nat × (Nat → Int32)} {K : Int32 → Mem → Option (Int32 × Mem)} {x3 : Int32} {M : Mem} (ho : O_20 J J' N) (hM : J M) (h1 : am_in (x3 + (1 : Int32)) S.1 = true) (h2 : am_in (x3 + (2 : Int32)) S.1 = true) (h3 : am_in (x3 + (3 : Int32)) S.1 = true) (h4 : am_in (x3 + (4 : Int32)) S.1 = true) (hK : ∀ M', J' M' → ∃ Mf, K (x3 + (6 : Int32)) M' = some (1, Mf)) : ∃ Mf, f_law_846 S N K x3 M = some (1, Mf) := by
  by_cases hz3 : (S.2 ((x3 + (4 : Int32))).toNatClampNeg) = (0 : Int32)
  · obtain ⟨v, e1, e2, hJ⟩ := ho M (S.2 ((x3 + (1 : Int32))).toNatClampNeg) (S.2 ((x3 + (2 : Int32))).toNatClampNeg) (S.2 ((x3 + (3 : Int32))).toNatClampNeg) 0 hM (by decide)
    simp only [f_law_846, h1, h2, h3, h4, hz3, if_true, if_false, eq_self, e1, Option.bind_some, e2, lgc_self]
    exact hK _ hJ
  · obtain ⟨v, e1, e2, hJ⟩ := ho M (S.2 ((x3 + (1 : Int32))).toNatClampNeg) (S.2 ((x3 + (2 : Int32))).toNatClampNeg) (S.2 ((x3 + (3 : Int32))).toNatClampNeg) 1 hM (by decide)
    simp only [f_law_846, h1, h2, h3, h4, hz3, if_true, if_false, eq_self, e1, Option.bind_some, e2, lgc_self]
    exact hK _ hJ
def O_21 (J J' : Mem → Prop) (N : Nat) : Prop := ∀ (M : Mem) (a : Int32) (b : Int32), J M → (b = 0 ∨ b = 1) → ∃ (v : Int32), f_w_tally N a b M = some v ∧ f_m_tally N a b M = some v ∧ J' M
set_option maxRecDepth 100000 in
theorem c_21 {J J' : Mem → Prop} {N : Nat} {S : Nat × (Nat → Int32)} {K : Int32 → Mem → Option (Int32 × Mem)} {x3 : Int32} {M : Mem} (ho : O_21 J J' N) (hM : J M) (h1 : am_in (x3 + (1 : Int32)) S.1 = true) (h2 : am_in (x3 + (2 : Int32)) S.1 = true) (hK : ∀ M', J' M' → ∃ Mf, K (x3 + (6 : Int32)) M' = some (1, Mf)) : ∃ Mf, f_law_916 S N K x3 M = some (1, Mf) := by
  by_cases hz1 : (S.2 ((x3 + (2 : Int32))).toNatClampNeg) = (0 : Int32)
  · obtain ⟨v, e1, e2, hJ⟩ := ho M (S.2 ((x3 + (1 : Int32))).toNatClampNeg) 0 hM (by decide)
    simp only [f_law_916, h1, h2, hz1, if_true, if_false, eq_self, e1, Option.bind_some, e2]
    exact hK _ hJ
  · obtain ⟨v, e1, e2, hJ⟩ := ho M (S.2 ((x3 + (1 : Int32))).toNatClampNeg) 1 hM (by decide)
    simp only [f_law_916, h1, h2, hz1, if_true, if_false, eq_self, e1, Option.bind_some, e2]
    exact hK _ hJ
def O_22 (J J' : Mem → Prop) (N : Nat) : Prop := ∀ (M : Mem) (a : Int32), J M → (a = 0 ∨ a = 1) → ∃ (v : Int32), f_w_longest N a M = some v ∧ f_m_longest N a M = some v ∧ J' M
set_option maxRecDepth 100000 in
theorem c_22 {J J' : Mem → Prop} {N : Nat} {S : Nat × (Nat → Int32)} {K : Int32 → Mem → Option (Int32 × Mem)} {x3 : Int32} {M : Mem} (ho : O_22 J J' N) (hM : J M) (h1 : am_in (x3 + (1 : Int32)) S.1 = true) (hK : ∀ M', J' M' → ∃ Mf, K (x3 + (6 : Int32)) M' = some (1, Mf)) : ∃ Mf, f_law_965 S N K x3 M = some (1, Mf) := by
  by_cases hz0 : (S.2 ((x3 + (1 : Int32))).toNatClampNeg) = (0 : Int32)
  · obtain ⟨v, e1, e2, hJ⟩ := ho M 0 hM (by decide)
    simp only [f_law_965, h1, hz0, if_true, if_false, eq_self, e1, Option.bind_some, e2]
    exact hK _ hJ
  · obtain ⟨v, e1, e2, hJ⟩ := ho M 1 hM (by decide)
    simp only [f_law_965, h1, hz0, if_true, if_false, eq_self, e1, Option.bind_some, e2]
    exact hK _ hJ
def O_23 (J J' : Mem → Prop) (N : Nat) : Prop := ∀ (M : Mem) (a : Int32), J M → ∃ (v : Int32), f_w_which N a M = some v ∧ f_m_which N a M = some v ∧ J' M
set_option maxRecDepth 100000 in
theorem c_23 {J J' : Mem → Prop} {N : Nat} {S : Nat × (Nat → Int32)} {K : Int32 → Mem → Option (Int32 × Mem)} {x3 : Int32} {M : Mem} (ho : O_23 J J' N) (hM : J M) (h1 : am_in (x3 + (1 : Int32)) S.1 = true) (hK : ∀ M', J' M' → ∃ Mf, K (x3 + (6 : Int32)) M' = some (1, Mf)) : ∃ Mf, f_law_1004 S N K x3 M = some (1, Mf) := by
  obtain ⟨v, e1, e2, hJ⟩ := ho M (S.2 ((x3 + (1 : Int32))).toNatClampNeg) hM
  simp only [f_law_1004, h1, if_true, if_false, eq_self, e1, Option.bind_some, e2]
  exact hK _ hJ
def O_24 (J J' : Mem → Prop) (N : Nat) : Prop := ∀ (M : Mem) (a : Int32) (b : Int32), J M → ∃ (v : Int32) (M2 : Mem), f_w_whispered N a b M = some v ∧ f_m_whispered N a b M = some (v, M2) ∧ J' M2
set_option maxRecDepth 100000 in
theorem c_24 {J J' : Mem → Prop} {N : Nat} {S : Nat × (Nat → Int32)} {K : Int32 → Mem → Option (Int32 × Mem)} {x3 : Int32} {M : Mem} (ho : O_24 J J' N) (hM : J M) (h1 : am_in (x3 + (1 : Int32)) S.1 = true) (h2 : am_in (x3 + (2 : Int32)) S.1 = true) (hK : ∀ M', J' M' → ∃ Mf, K (x3 + (6 : Int32)) M' = some (1, Mf)) : ∃ Mf, f_law_1027 S N K x3 M = some (1, Mf) := by
  obtain ⟨v, M2, e1, e2, hJ⟩ := ho M (S.2 ((x3 + (1 : Int32))).toNatClampNeg) (S.2 ((x3 + (2 : Int32))).toNatClampNeg) hM
  simp only [f_law_1027, h1, h2, if_true, if_false, eq_self, e1, Option.bind_some, e2]
  exact hK _ hJ
def O_25 (J J' : Mem → Prop) (N : Nat) : Prop := ∀ (M : Mem) (a : Int32) (b : Int32) (c : Int32) (d : Int32), J M → ∃ (v : Int32) (M2 : Mem), f_w_twoWhispered N a b c d M = some v ∧ f_m_twoWhispered N a b c d M = some (v, M2) ∧ J' M2
set_option maxRecDepth 100000 in
theorem c_25 {J J' : Mem → Prop} {N : Nat} {S : Nat × (Nat → Int32)} {K : Int32 → Mem → Option (Int32 × Mem)} {x3 : Int32} {M : Mem} (ho : O_25 J J' N) (hM : J M) (h1 : am_in (x3 + (1 : Int32)) S.1 = true) (h2 : am_in (x3 + (2 : Int32)) S.1 = true) (h3 : am_in (x3 + (3 : Int32)) S.1 = true) (h4 : am_in (x3 + (4 : Int32)) S.1 = true) (hK : ∀ M', J' M' → ∃ Mf, K (x3 + (6 : Int32)) M' = some (1, Mf)) : ∃ Mf, f_law_1060 S N K x3 M = some (1, Mf) := by
  obtain ⟨v, M2, e1, e2, hJ⟩ := ho M (S.2 ((x3 + (1 : Int32))).toNatClampNeg) (S.2 ((x3 + (2 : Int32))).toNatClampNeg) (S.2 ((x3 + (3 : Int32))).toNatClampNeg) (S.2 ((x3 + (4 : Int32))).toNatClampNeg) hM
  simp only [f_law_1060, h1, h2, h3, h4, if_true, if_false, eq_self, e1, Option.bind_some, e2]
  exact hK _ hJ
def O_26 (J J' : Mem → Prop) (N : Nat) : Prop := ∀ (M : Mem) (a : Int32), J M → ∃ (v : Int32) (M2 : Mem), f_w_ifAsked N a M = some v ∧ f_m_ifAsked N a M = some (v, M2) ∧ J' M2
set_option maxRecDepth 100000 in
theorem c_26 {J J' : Mem → Prop} {N : Nat} {S : Nat × (Nat → Int32)} {K : Int32 → Mem → Option (Int32 × Mem)} {x3 : Int32} {M : Mem} (ho : O_26 J J' N) (hM : J M) (h1 : am_in (x3 + (1 : Int32)) S.1 = true) (hK : ∀ M', J' M' → ∃ Mf, K (x3 + (6 : Int32)) M' = some (1, Mf)) : ∃ Mf, f_law_1113 S N K x3 M = some (1, Mf) := by
  obtain ⟨v, M2, e1, e2, hJ⟩ := ho M (S.2 ((x3 + (1 : Int32))).toNatClampNeg) hM
  simp only [f_law_1113, h1, if_true, if_false, eq_self, e1, Option.bind_some, e2]
  exact hK _ hJ
def O_27 (J J' : Mem → Prop) (N : Nat) : Prop := ∀ (M : Mem), J M → ∃ (v : Int32) (M2 : Mem), f_w_silence N M = some v ∧ f_m_silence N M = some (v, M2) ∧ J' M2
set_option maxRecDepth 100000 in
theorem c_27 {J J' : Mem → Prop} {N : Nat} {S : Nat × (Nat → Int32)} {K : Int32 → Mem → Option (Int32 × Mem)} {x3 : Int32} {M : Mem} (ho : O_27 J J' N) (hM : J M) (hK : ∀ M', J' M' → ∃ Mf, K (x3 + (6 : Int32)) M' = some (1, Mf)) : ∃ Mf, f_law_1136 S N K x3 M = some (1, Mf) := by
  obtain ⟨v, M2, e1, e2, hJ⟩ := ho M  hM
  simp only [f_law_1136, if_true, if_false, eq_self, e1, Option.bind_some, e2]
  exact hK _ hJ
def O_28 (J J' : Mem → Prop) (N : Nat) : Prop := ∀ (M : Mem) (a : Int32), J M → ∃ (v : Int32), f_w_byRank N a M = some v ∧ f_m_byRank N a M = some v ∧ J' M
set_option maxRecDepth 100000 in
theorem c_28 {J J' : Mem → Prop} {N : Nat} {S : Nat × (Nat → Int32)} {K : Int32 → Mem → Option (Int32 × Mem)} {x3 : Int32} {M : Mem} (ho : O_28 J J' N) (hM : J M) (h1 : am_in (x3 + (1 : Int32)) S.1 = true) (hK : ∀ M', J' M' → ∃ Mf, K (x3 + (6 : Int32)) M' = some (1, Mf)) : ∃ Mf, f_law_1149 S N K x3 M = some (1, Mf) := by
  obtain ⟨v, e1, e2, hJ⟩ := ho M (S.2 ((x3 + (1 : Int32))).toNatClampNeg) hM
  simp only [f_law_1149, h1, if_true, if_false, eq_self, e1, Option.bind_some, e2]
  exact hK _ hJ
def O_29 (J J' : Mem → Prop) (N : Nat) : Prop := ∀ (M : Mem) (a : Int32) (b : Int32), J M → ∃ (v : Int32), f_w_told N a b M = some v ∧ f_m_told N a b M = some v ∧ J' M
set_option maxRecDepth 100000 in
theorem c_29 {J J' : Mem → Prop} {N : Nat} {S : Nat × (Nat → Int32)} {K : Int32 → Mem → Option (Int32 × Mem)} {x3 : Int32} {M : Mem} (ho : O_29 J J' N) (hM : J M) (h1 : am_in (x3 + (1 : Int32)) S.1 = true) (h2 : am_in (x3 + (2 : Int32)) S.1 = true) (hK : ∀ M', J' M' → ∃ Mf, K (x3 + (6 : Int32)) M' = some (1, Mf)) : ∃ Mf, f_law_1172 S N K x3 M = some (1, Mf) := by
  obtain ⟨v, e1, e2, hJ⟩ := ho M (S.2 ((x3 + (1 : Int32))).toNatClampNeg) (S.2 ((x3 + (2 : Int32))).toNatClampNeg) hM
  simp only [f_law_1172, h1, h2, if_true, if_false, eq_self, e1, Option.bind_some, e2]
  exact hK _ hJ
def O_30 (J J' : Mem → Prop) (N : Nat) : Prop := ∀ (M : Mem) (a : Int32), J M → (a = 0 ∨ a = 1) → ∃ (v : Int32), f_w_meanDies N a M = some v ∧ f_m_meanDies N a M = some v ∧ J' M
set_option maxRecDepth 100000 in
theorem c_30 {J J' : Mem → Prop} {N : Nat} {S : Nat × (Nat → Int32)} {K : Int32 → Mem → Option (Int32 × Mem)} {x3 : Int32} {M : Mem} (ho : O_30 J J' N) (hM : J M) (h1 : am_in (x3 + (1 : Int32)) S.1 = true) (hK : ∀ M', J' M' → ∃ Mf, K (x3 + (6 : Int32)) M' = some (1, Mf)) : ∃ Mf, f_law_1205 S N K x3 M = some (1, Mf) := by
  by_cases hz0 : (S.2 ((x3 + (1 : Int32))).toNatClampNeg) = (0 : Int32)
  · obtain ⟨v, e1, e2, hJ⟩ := ho M 0 hM (by decide)
    simp only [f_law_1205, h1, hz0, if_true, if_false, eq_self, e1, Option.bind_some, e2]
    exact hK _ hJ
  · obtain ⟨v, e1, e2, hJ⟩ := ho M 1 hM (by decide)
    simp only [f_law_1205, h1, hz0, if_true, if_false, eq_self, e1, Option.bind_some, e2]
    exact hK _ hJ
def O_31 (J J' : Mem → Prop) (N : Nat) : Prop := ∀ (M : Mem) (a : Int32), J M → ∃ (v : Int32) (M1 : Mem) (M2 : Mem), f_w_held N a M = some (v, M1) ∧ f_m_held N a M1 = some (v, M2) ∧ J' M2
set_option maxRecDepth 100000 in
theorem c_31 {J J' : Mem → Prop} {N : Nat} {S : Nat × (Nat → Int32)} {K : Int32 → Mem → Option (Int32 × Mem)} {x3 : Int32} {M : Mem} (ho : O_31 J J' N) (hM : J M) (h1 : am_in (x3 + (1 : Int32)) S.1 = true) (hK : ∀ M', J' M' → ∃ Mf, K (x3 + (6 : Int32)) M' = some (1, Mf)) : ∃ Mf, f_law_1244 S N K x3 M = some (1, Mf) := by
  obtain ⟨v, M1, M2, e1, e2, hJ⟩ := ho M (S.2 ((x3 + (1 : Int32))).toNatClampNeg) hM
  simp only [f_law_1244, h1, if_true, if_false, eq_self, e1, Option.bind_some, e2]
  exact hK _ hJ
def O_32 (J J' : Mem → Prop) (N : Nat) : Prop := ∀ (M : Mem) (a : Int32), J M → ∃ (v : Int32), f_w_stays N a M = some v ∧ f_m_stays N a M = some v ∧ J' M
set_option maxRecDepth 100000 in
theorem c_32 {J J' : Mem → Prop} {N : Nat} {S : Nat × (Nat → Int32)} {K : Int32 → Mem → Option (Int32 × Mem)} {x3 : Int32} {M : Mem} (ho : O_32 J J' N) (hM : J M) (h1 : am_in (x3 + (1 : Int32)) S.1 = true) (hK : ∀ M', J' M' → ∃ Mf, K (x3 + (6 : Int32)) M' = some (1, Mf)) : ∃ Mf, f_law_1267 S N K x3 M = some (1, Mf) := by
  obtain ⟨v, e1, e2, hJ⟩ := ho M (S.2 ((x3 + (1 : Int32))).toNatClampNeg) hM
  simp only [f_law_1267, h1, if_true, if_false, eq_self, e1, Option.bind_some, e2]
  exact hK _ hJ
def O_33 (J J' : Mem → Prop) (N : Nat) : Prop := ∀ (M : Mem) (a : Int32) (b : Int32), J M → ∃ (v : Int32) (M1 : Mem) (M2 : Mem), f_w_round N a b M = some (v, M1) ∧ f_m_round N a b M1 = some (v, M2) ∧ J' M2
set_option maxRecDepth 100000 in
theorem c_33 {J J' : Mem → Prop} {N : Nat} {S : Nat × (Nat → Int32)} {K : Int32 → Mem → Option (Int32 × Mem)} {x3 : Int32} {M : Mem} (ho : O_33 J J' N) (hM : J M) (h1 : am_in (x3 + (1 : Int32)) S.1 = true) (h2 : am_in (x3 + (2 : Int32)) S.1 = true) (hK : ∀ M', J' M' → ∃ Mf, K (x3 + (6 : Int32)) M' = some (1, Mf)) : ∃ Mf, f_law_1290 S N K x3 M = some (1, Mf) := by
  obtain ⟨v, M1, M2, e1, e2, hJ⟩ := ho M (S.2 ((x3 + (1 : Int32))).toNatClampNeg) (S.2 ((x3 + (2 : Int32))).toNatClampNeg) hM
  simp only [f_law_1290, h1, h2, if_true, if_false, eq_self, e1, Option.bind_some, e2]
  exact hK _ hJ
def O_34 (J J' : Mem → Prop) (N : Nat) : Prop := ∀ (M : Mem) (a : Int32) (b : Int32), J M → ∃ (v : Int32) (M2 : Mem), f_w_provoked N a b M = some v ∧ f_m_provoked N a b M = some (v, M2) ∧ J' M2
set_option maxRecDepth 100000 in
theorem c_34 {J J' : Mem → Prop} {N : Nat} {S : Nat × (Nat → Int32)} {K : Int32 → Mem → Option (Int32 × Mem)} {x3 : Int32} {M : Mem} (ho : O_34 J J' N) (hM : J M) (h1 : am_in (x3 + (1 : Int32)) S.1 = true) (h2 : am_in (x3 + (2 : Int32)) S.1 = true) (hK : ∀ M', J' M' → ∃ Mf, K (x3 + (6 : Int32)) M' = some (1, Mf)) : ∃ Mf, f_law_1323 S N K x3 M = some (1, Mf) := by
  obtain ⟨v, M2, e1, e2, hJ⟩ := ho M (S.2 ((x3 + (1 : Int32))).toNatClampNeg) (S.2 ((x3 + (2 : Int32))).toNatClampNeg) hM
  simp only [f_law_1323, h1, h2, if_true, if_false, eq_self, e1, Option.bind_some, e2]
  exact hK _ hJ
def O_35 (J J' : Mem → Prop) (N : Nat) : Prop := ∀ (M : Mem) (a : Int32), J M → ∃ (v : Int32), f_w_unsaid N a M = some v ∧ f_m_unsaid N a M = some v ∧ J' M
set_option maxRecDepth 100000 in
theorem c_35 {J J' : Mem → Prop} {N : Nat} {S : Nat × (Nat → Int32)} {K : Int32 → Mem → Option (Int32 × Mem)} {x3 : Int32} {M : Mem} (ho : O_35 J J' N) (hM : J M) (h1 : am_in (x3 + (1 : Int32)) S.1 = true) (hK : ∀ M', J' M' → ∃ Mf, K (x3 + (6 : Int32)) M' = some (1, Mf)) : ∃ Mf, f_law_1356 S N K x3 M = some (1, Mf) := by
  obtain ⟨v, e1, e2, hJ⟩ := ho M (S.2 ((x3 + (1 : Int32))).toNatClampNeg) hM
  simp only [f_law_1356, h1, if_true, if_false, eq_self, e1, Option.bind_some, e2]
  exact hK _ hJ
def O_36 (J J' : Mem → Prop) (N : Nat) : Prop := ∀ (M : Mem), J M → ∃ (v : Int32) (M1 : Mem) (M2 : Mem), f_w_nextToast N M = some (v, M1) ∧ f_m_nextToast N M1 = some (v, M2) ∧ J' M2
set_option maxRecDepth 100000 in
theorem c_36 {J J' : Mem → Prop} {N : Nat} {S : Nat × (Nat → Int32)} {K : Int32 → Mem → Option (Int32 × Mem)} {x3 : Int32} {M : Mem} (ho : O_36 J J' N) (hM : J M) (hK : ∀ M', J' M' → ∃ Mf, K (x3 + (6 : Int32)) M' = some (1, Mf)) : ∃ Mf, f_law_1379 S N K x3 M = some (1, Mf) := by
  obtain ⟨v, M1, M2, e1, e2, hJ⟩ := ho M  hM
  simp only [f_law_1379, if_true, if_false, eq_self, e1, Option.bind_some, e2]
  exact hK _ hJ
def O_37 (J J' : Mem → Prop) (N : Nat) : Prop := ∀ (M : Mem) (a : Int32) (b : Int32) (c : Int32), J M → ∃ (v : Int32) (M1 : Mem) (M2 : Mem), f_w_odds a b c M = some (v, M1) ∧ f_m_odds a b c M1 = some (v, M2) ∧ J' M2
set_option maxRecDepth 100000 in
theorem c_37 {J J' : Mem → Prop} {N : Nat} {S : Nat × (Nat → Int32)} {K : Int32 → Mem → Option (Int32 × Mem)} {x3 : Int32} {M : Mem} (ho : O_37 J J' N) (hM : J M) (h1 : am_in (x3 + (1 : Int32)) S.1 = true) (h2 : am_in (x3 + (2 : Int32)) S.1 = true) (h3 : am_in (x3 + (3 : Int32)) S.1 = true) (hK : ∀ M', J' M' → ∃ Mf, K (x3 + (6 : Int32)) M' = some (1, Mf)) : ∃ Mf, f_law_1392 S N K x3 M = some (1, Mf) := by
  obtain ⟨v, M1, M2, e1, e2, hJ⟩ := ho M (S.2 ((x3 + (1 : Int32))).toNatClampNeg) (S.2 ((x3 + (2 : Int32))).toNatClampNeg) (S.2 ((x3 + (3 : Int32))).toNatClampNeg) hM
  simp only [f_law_1392, h1, h2, h3, if_true, if_false, eq_self, e1, Option.bind_some, e2]
  exact hK _ hJ
def O_38 (J J' : Mem → Prop) (N : Nat) : Prop := ∀ (M : Mem) (a : Int32) (b : Int32), J M → ∃ (v : Int32) (M1 : Mem) (M2 : Mem), f_w_falls a b M = some (v, M1) ∧ f_m_falls a b M1 = some (v, M2) ∧ J' M2
set_option maxRecDepth 100000 in
theorem c_38 {J J' : Mem → Prop} {N : Nat} {S : Nat × (Nat → Int32)} {K : Int32 → Mem → Option (Int32 × Mem)} {x3 : Int32} {M : Mem} (ho : O_38 J J' N) (hM : J M) (h1 : am_in (x3 + (1 : Int32)) S.1 = true) (h2 : am_in (x3 + (2 : Int32)) S.1 = true) (hK : ∀ M', J' M' → ∃ Mf, K (x3 + (6 : Int32)) M' = some (1, Mf)) : ∃ Mf, f_law_1435 S N K x3 M = some (1, Mf) := by
  obtain ⟨v, M1, M2, e1, e2, hJ⟩ := ho M (S.2 ((x3 + (1 : Int32))).toNatClampNeg) (S.2 ((x3 + (2 : Int32))).toNatClampNeg) hM
  simp only [f_law_1435, h1, h2, if_true, if_false, eq_self, e1, Option.bind_some, e2]
  exact hK _ hJ
def O_39 (J J' : Mem → Prop) (N : Nat) : Prop := ∀ (M : Mem) (a : Int32) (b : Int32) (c : Int32) (d : Int32), J M → ∃ (v : Int64) (M1 : Mem) (M2 : Mem), f_w_when N a b c d M = some (v, M1) ∧ f_m_when N a b c d M1 = some (v, M2) ∧ J' M2
set_option maxRecDepth 100000 in
theorem c_39 {J J' : Mem → Prop} {N : Nat} {S : Nat × (Nat → Int32)} {K : Int32 → Mem → Option (Int32 × Mem)} {x3 : Int32} {M : Mem} (ho : O_39 J J' N) (hM : J M) (h1 : am_in (x3 + (1 : Int32)) S.1 = true) (h2 : am_in (x3 + (2 : Int32)) S.1 = true) (h3 : am_in (x3 + (3 : Int32)) S.1 = true) (h4 : am_in (x3 + (4 : Int32)) S.1 = true) (hK : ∀ M', J' M' → ∃ Mf, K (x3 + (6 : Int32)) M' = some (1, Mf)) : ∃ Mf, f_law_1468 S N K x3 M = some (1, Mf) := by
  obtain ⟨v, M1, M2, e1, e2, hJ⟩ := ho M (S.2 ((x3 + (1 : Int32))).toNatClampNeg) (S.2 ((x3 + (2 : Int32))).toNatClampNeg) (S.2 ((x3 + (3 : Int32))).toNatClampNeg) (S.2 ((x3 + (4 : Int32))).toNatClampNeg) hM
  simp only [f_law_1468, h1, h2, h3, h4, if_true, if_false, eq_self, e1, Option.bind_some, e2, lgc_self]
  exact hK _ hJ
def O_40 (J J' : Mem → Prop) (N : Nat) : Prop := ∀ (M : Mem) (a : Int32) (b : Int32) (c : Int32) (d : Int32) (e : Int32), J M → ∃ (v : Int64) (M1 : Mem) (M2 : Mem), f_w_words N a b c d e M = some (v, M1) ∧ f_m_words N a b c d e M1 = some (v, M2) ∧ J' M2
set_option maxRecDepth 100000 in
theorem c_40 {J J' : Mem → Prop} {N : Nat} {S : Nat × (Nat → Int32)} {K : Int32 → Mem → Option (Int32 × Mem)} {x3 : Int32} {M : Mem} (ho : O_40 J J' N) (hM : J M) (h1 : am_in (x3 + (1 : Int32)) S.1 = true) (h2 : am_in (x3 + (2 : Int32)) S.1 = true) (h3 : am_in (x3 + (3 : Int32)) S.1 = true) (h4 : am_in (x3 + (4 : Int32)) S.1 = true) (h5 : am_in (x3 + (5 : Int32)) S.1 = true) (hK : ∀ M', J' M' → ∃ Mf, K (x3 + (6 : Int32)) M' = some (1, Mf)) : ∃ Mf, f_law_1522 S N K x3 M = some (1, Mf) := by
  obtain ⟨v, M1, M2, e1, e2, hJ⟩ := ho M (S.2 ((x3 + (1 : Int32))).toNatClampNeg) (S.2 ((x3 + (2 : Int32))).toNatClampNeg) (S.2 ((x3 + (3 : Int32))).toNatClampNeg) (S.2 ((x3 + (4 : Int32))).toNatClampNeg) (S.2 ((x3 + (5 : Int32))).toNatClampNeg) hM
  simp only [f_law_1522, h1, h2, h3, h4, h5, if_true, if_false, eq_self, e1, Option.bind_some, e2, lgc_self]
  exact hK _ hJ
def O_41 (J J' : Mem → Prop) (N : Nat) : Prop := ∀ (M : Mem) (a : Int32) (b : Int32) (c : Int32) (d : Int32), J M → ∃ (v : Int32) (M1 : Mem) (M2 : Mem), f_w_fewest N a b c d M = some (v, M1) ∧ f_m_fewest N a b c d M1 = some (v, M2) ∧ J' M2
set_option maxRecDepth 100000 in
theorem c_41 {J J' : Mem → Prop} {N : Nat} {S : Nat × (Nat → Int32)} {K : Int32 → Mem → Option (Int32 × Mem)} {x3 : Int32} {M : Mem} (ho : O_41 J J' N) (hM : J M) (h1 : am_in (x3 + (1 : Int32)) S.1 = true) (h2 : am_in (x3 + (2 : Int32)) S.1 = true) (h3 : am_in (x3 + (3 : Int32)) S.1 = true) (h4 : am_in (x3 + (4 : Int32)) S.1 = true) (hK : ∀ M', J' M' → ∃ Mf, K (x3 + (6 : Int32)) M' = some (1, Mf)) : ∃ Mf, f_law_1586 S N K x3 M = some (1, Mf) := by
  obtain ⟨v, M1, M2, e1, e2, hJ⟩ := ho M (S.2 ((x3 + (1 : Int32))).toNatClampNeg) (S.2 ((x3 + (2 : Int32))).toNatClampNeg) (S.2 ((x3 + (3 : Int32))).toNatClampNeg) (S.2 ((x3 + (4 : Int32))).toNatClampNeg) hM
  simp only [f_law_1586, h1, h2, h3, h4, if_true, if_false, eq_self, e1, Option.bind_some, e2]
  exact hK _ hJ
def O_42 (J J' : Mem → Prop) (N : Nat) : Prop := ∀ (M : Mem) (a : Int32) (b : Int32), J M → ∃ (v : Int64) (M1 : Mem) (M2 : Mem), f_w_game N a b M = some (v, M1) ∧ f_m_game N a b M1 = some (v, M2) ∧ J' M2
set_option maxRecDepth 100000 in
theorem c_42 {J J' : Mem → Prop} {N : Nat} {S : Nat × (Nat → Int32)} {K : Int32 → Mem → Option (Int32 × Mem)} {x3 : Int32} {M : Mem} (ho : O_42 J J' N) (hM : J M) (h1 : am_in (x3 + (1 : Int32)) S.1 = true) (h2 : am_in (x3 + (2 : Int32)) S.1 = true) (hK : ∀ M', J' M' → ∃ Mf, K (x3 + (6 : Int32)) M' = some (1, Mf)) : ∃ Mf, f_law_1639 S N K x3 M = some (1, Mf) := by
  obtain ⟨v, M1, M2, e1, e2, hJ⟩ := ho M (S.2 ((x3 + (1 : Int32))).toNatClampNeg) (S.2 ((x3 + (2 : Int32))).toNatClampNeg) hM
  simp only [f_law_1639, h1, h2, if_true, if_false, eq_self, e1, Option.bind_some, e2, lgc_self]
  exact hK _ hJ
def O_43 (J J' : Mem → Prop) (N : Nat) : Prop := ∀ (M : Mem) (a : Int32) (b : Int32) (c : Int32) (d : Int32), J M → (d = 0 ∨ d = 1) → ∃ (v : Int64) (M1 : Mem) (M2 : Mem), f_w_cough N a b c d M = some (v, M1) ∧ f_m_cough N a b c d M1 = some (v, M2) ∧ J' M2
set_option maxRecDepth 100000 in
theorem c_43 {J J' : Mem → Prop} {N : Nat} {S : Nat × (Nat → Int32)} {K : Int32 → Mem → Option (Int32 × Mem)} {x3 : Int32} {M : Mem} (ho : O_43 J J' N) (hM : J M) (h1 : am_in (x3 + (1 : Int32)) S.1 = true) (h2 : am_in (x3 + (2 : Int32)) S.1 = true) (h3 : am_in (x3 + (3 : Int32)) S.1 = true) (h4 : am_in (x3 + (4 : Int32)) S.1 = true) (hK : ∀ M', J' M' → ∃ Mf, K (x3 + (6 : Int32)) M' = some (1, Mf)) : ∃ Mf, f_law_1673 S N K x3 M = some (1, Mf) := by
  by_cases hz3 : (S.2 ((x3 + (4 : Int32))).toNatClampNeg) = (0 : Int32)
  · obtain ⟨v, M1, M2, e1, e2, hJ⟩ := ho M (S.2 ((x3 + (1 : Int32))).toNatClampNeg) (S.2 ((x3 + (2 : Int32))).toNatClampNeg) (S.2 ((x3 + (3 : Int32))).toNatClampNeg) 0 hM (by decide)
    simp only [f_law_1673, h1, h2, h3, h4, hz3, if_true, if_false, eq_self, e1, Option.bind_some, e2, lgc_self]
    exact hK _ hJ
  · obtain ⟨v, M1, M2, e1, e2, hJ⟩ := ho M (S.2 ((x3 + (1 : Int32))).toNatClampNeg) (S.2 ((x3 + (2 : Int32))).toNatClampNeg) (S.2 ((x3 + (3 : Int32))).toNatClampNeg) 1 hM (by decide)
    simp only [f_law_1673, h1, h2, h3, h4, hz3, if_true, if_false, eq_self, e1, Option.bind_some, e2, lgc_self]
    exact hK _ hJ
def O_44 (J J' : Mem → Prop) (N : Nat) : Prop := ∀ (M : Mem), J M → ∃ (v : Int32) (M1 : Mem) (M2 : Mem), f_w_image N M = some (v, M1) ∧ f_m_image N M1 = some (v, M2) ∧ J' M2
set_option maxRecDepth 100000 in
theorem c_44 {J J' : Mem → Prop} {N : Nat} {S : Nat × (Nat → Int32)} {K : Int32 → Mem → Option (Int32 × Mem)} {x3 : Int32} {M : Mem} (ho : O_44 J J' N) (hM : J M) (hK : ∀ M', J' M' → ∃ Mf, K (x3 + (6 : Int32)) M' = some (1, Mf)) : ∃ Mf, f_law_1743 S N K x3 M = some (1, Mf) := by
  obtain ⟨v, M1, M2, e1, e2, hJ⟩ := ho M  hM
  simp only [f_law_1743, if_true, if_false, eq_self, e1, Option.bind_some, e2]
  exact hK _ hJ
def O_45 (J J' : Mem → Prop) (N : Nat) : Prop := ∀ (M : Mem), J M → ∃ (v : Int32) (M1 : Mem) (M2 : Mem), f_w_back N M = some (v, M1) ∧ f_m_back N M1 = some (v, M2) ∧ J' M2
set_option maxRecDepth 100000 in
theorem c_45 {J J' : Mem → Prop} {N : Nat} {S : Nat × (Nat → Int32)} {K : Int32 → Mem → Option (Int32 × Mem)} {x3 : Int32} {M : Mem} (ho : O_45 J J' N) (hM : J M) (hK : ∀ M', J' M' → ∃ Mf, K (x3 + (6 : Int32)) M' = some (1, Mf)) : ∃ Mf, f_law_1756 S N K x3 M = some (1, Mf) := by
  obtain ⟨v, M1, M2, e1, e2, hJ⟩ := ho M  hM
  simp only [f_law_1756, if_true, if_false, eq_self, e1, Option.bind_some, e2]
  exact hK _ hJ
def O_46 (J J' : Mem → Prop) (N : Nat) : Prop := ∀ (M : Mem) (a : Int32), J M → ∃ (v : Int32), f_w_about N a M = some v ∧ f_m_about N a M = some v ∧ J' M
set_option maxRecDepth 100000 in
theorem c_46 {J J' : Mem → Prop} {N : Nat} {S : Nat × (Nat → Int32)} {K : Int32 → Mem → Option (Int32 × Mem)} {x3 : Int32} {M : Mem} (ho : O_46 J J' N) (hM : J M) (h1 : am_in (x3 + (1 : Int32)) S.1 = true) (hK : ∀ M', J' M' → ∃ Mf, K (x3 + (6 : Int32)) M' = some (1, Mf)) : ∃ Mf, f_law_1769 S N K x3 M = some (1, Mf) := by
  obtain ⟨v, e1, e2, hJ⟩ := ho M (S.2 ((x3 + (1 : Int32))).toNatClampNeg) hM
  simp only [f_law_1769, h1, if_true, if_false, eq_self, e1, Option.bind_some, e2]
  exact hK _ hJ
