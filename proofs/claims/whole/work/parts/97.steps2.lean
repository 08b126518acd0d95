/-! Steps, further: he asks, somebody goes, a moment passes, a dinner ends. -/
section STEPS2
variable {Mc Mr : Mem} {c nt mo dr gn sp t : Nat} {lm lw lk lf bh bd : Nat → Nat} {N : Nat}
theorem Sm.go (S : Sm Mc Mr c t) {g : Nat} (hg : g < c) : Mc.1 10 g = Mr.1 130 (14 + 7 * g) := ((S.1.1.2.2.2 g hg).2.2.1)
theorem sim_ask (S : Sm Mc Mr c t) (h : Cx Mc Mr c nt mo dr gn sp lm lw lk lf bh bd) (hs : sp < 40) : ∃ Mc' Mr', f_e_enter 8 4 (f_e_moment Mc) Mc = some Mc' ∧ f_m_log1 8 4 (gi Mr 130 2) Mr = some Mr' ∧ Sm Mc' Mr' c t ∧ CS Mc Mc' ∧ RS Mr Mr' := by
  have hc := h.c8
  have hmo := h.mo99
  have cE := c_enter (Mc := Mc) (w := 8) (k := 4) (f := mo + 1) (mo := mo) (sp := sp) hs hmo (by omega) (by omega) (by omega) h.sp12 h.mo12
  have rE := lS (M := Mr) (F := Mr.1 130) (w := 8) (k := 4) (f := mo + 1) (mo := mo) (sp := sp) hs h.sp130 h.mo130
  rw [sr_self, nI_pred] at rE
  rw [nI_pred] at cE
  rw [show f_e_moment Mc = nI mo from h.mo12, show gi Mr 130 2 = nI mo from h.mo130]
  have hE := (h.say hs (w := 8) (k := 4) (f := mo + 1) (Or.inr rfl) (by omega) (by omega) h.gnl (R' := upd (upd (Mc.1 12) (6 + sp) (nI (mo + 128 * 8 + 2048 * 4 + 16384 * (mo + 1)))) 4 (nI (sp + 1))) (A' := upd (upd (Mr.1 130) (68 + sp) (nI (((mo * 16 + 8) * 8 + 4) * 256 + (mo + 1)))) 8 (nI (sp + 1)))
    (fun j h1 h2 h3 => by rw [pk_un h2, pk_un h3]) (by rw [pk_un (by omega), pk_un (by omega), h.gn12]) pk_us (by rw [pk_un (by omega), pk_us]) (fun j hj => by rw [pk_un (by omega), pk_un (by omega)]) (by rw [if_neg (by omega), pk_un (by omega), pk_un (by omega)]) pk_us (by rw [pk_un (by omega), pk_us]) (fun g hg => by
      refine ⟨?_, ?_, ?_, ?_⟩
      · rw [pk_un (by omega), pk_un (by omega), h.g3 hg]
      · rw [if_neg (by omega), pk_un (by omega), pk_un (by omega)]
      · rw [if_neg (by omega), pk_un (by omega), pk_un (by omega)]
      · rw [if_neg (by omega), pk_un (by omega), pk_un (by omega)])).ev
  obtain ⟨s1, s2, s3⟩ := S.even (M1 := Mc) (M2 := Mr) (fun _ _ _ _ => rfl) (fun _ _ _ _ _ => rfl) ⟨rfl, rfl, rfl⟩ hE (fun j hj => by
    rw [pk_un (by rcases hj with q | q | q | q | ⟨x, y, q1, q2, q3⟩ | q <;> omega), pk_un (by rcases hj with q | q | q | q | ⟨x, y, q1, q2, q3⟩ | q <;> omega)]) (fun i hi => by rw [pk_un (by omega), pk_un (by omega)]) (by rw [pk_un (by omega), pk_un (by omega)]; exact Nat.le_refl _)
  exact ⟨_, _, cE, rE, s1, s2, s3⟩
theorem sim_gone (S : Sm Mc Mr c t) (h : Cx Mc Mr c nt mo dr gn sp lm lw lk lf bh bd) {g : Nat} (hg : g < c) : ∃ Mc' Mr', f_e_letGo ((1 : Int32) <<< (nI g &&& 31)) Mc = some Mc' ∧ f_m_set (nI g) 3 0 Mr = some Mr' ∧ Sm Mc' Mr' c t ∧ CS Mc Mc' ∧ RS Mr Mr' := by
  have hc := h.c8
  have rE := sS (M := Mr) (F := Mr.1 130) (g := g) (x := 3) 3 0 rfl (by omega) (by omega)
  rw [sr_self] at rE
  have hE := (h.move (gn' := gn ||| 2 ^ g) (mo' := mo) (dr' := dr) (or_lt h.gnl hg) h.mo99 h.drl (R' := upd (Mc.1 12) 3 (nI (gn ||| 2 ^ g))) (A' := upd (Mr.1 130) (12 + 7 * g + 3) 0) (fun j _ _ h3 => by rw [pk_un h3]) (by rw [pk_un (by omega), h.mo12]) (by rw [pk_un (by omega), h.dr12]) pk_us (fun j _ _ h3 => by rw [pk_un (by have := h3 g hg; omega)]) (by rw [pk_un (by omega), h.mo130]) (by rw [pk_un (by omega), h.dr130]) (fun g' hg' => by
    by_cases e : g' = g
    · subst e
      rw [show 15 + 7 * g' = 12 + 7 * g' + 3 by omega, pk_us, or_tb]
      simp
      rfl
    · rw [pk_un (by omega), h.g3 hg', or_tb]
      simp [show ¬ g = g' from fun x => e x.symm])).ev
  obtain ⟨s1, s2, s3⟩ := S.even (M1 := Mc) (M2 := Mr) (fun _ _ _ _ => rfl) (fun _ _ _ _ _ => rfl) ⟨rfl, rfl, rfl⟩ hE (fun j hj => by
    rw [pk_un (by rcases hj with q | q | q | q | ⟨x, y, q1, q2, q3⟩ | q <;> omega)]) (fun i hi => by rw [pk_un (by omega)]) (by rw [pk_un (by omega)]; exact Nat.le_refl _)
  exact ⟨_, _, c_letGo (by omega) h.gn12, rE, s1, s2, s3⟩
/-- those go whose carriage comes -/
def pasA (A : Nat → Int32) (p : Nat → Bool) (i : Nat) : Nat → Int32 := fun j => if 15 ≤ j ∧ (j - 15) % 7 = 0 ∧ (j - 15) / 7 < i ∧ p ((j - 15) / 7) = true then 0 else A j
theorem pasA_0 (A : Nat → Int32) (p : Nat → Bool) : pasA A p 0 = A := by
  funext j
  unfold pasA
  rw [if_neg (by omega)]
theorem pasA_s (A : Nat → Int32) (p : Nat → Bool) (i : Nat) : pasA A p (i + 1) = if p i = true then upd (pasA A p i) (12 + 7 * i + 3) 0 else pasA A p i := by
  funext j
  by_cases e : j = 12 + 7 * i + 3
  · subst e
    have q : (12 + 7 * i + 3 - 15) / 7 = i := by omega
    unfold pasA
    by_cases hp : p i = true
    · rw [if_pos hp, pk_us, if_pos ⟨by omega, by omega, by omega, by rw [q]; exact hp⟩]
    · rw [if_neg hp, if_neg (fun x => hp (by rw [q] at x; exact x.2.2.2)), if_neg (fun x => hp (by rw [q] at x; exact x.2.2.2))]
  · have : (if p i = true then upd (pasA A p i) (12 + 7 * i + 3) 0 else pasA A p i) j = pasA A p i j := by
      split
      · rw [pk_un e]
      · rfl
    rw [this]
    unfold pasA
    by_cases q : 15 ≤ j ∧ (j - 15) % 7 = 0 ∧ (j - 15) / 7 < i ∧ p ((j - 15) / 7) = true
    · rw [if_pos q, if_pos ⟨q.1, q.2.1, by omega, q.2.2.2⟩]
    · rw [if_neg q, if_neg (fun x => q ⟨x.1, x.2.1, by omega, x.2.2.2⟩)]
theorem pasA_o {A : Nat → Int32} {p : Nat → Bool} {i j : Nat} (h : j < 15 ∨ (j - 15) % 7 ≠ 0 ∨ 15 + 7 * i ≤ j) : pasA A p i j = A j := by
  unfold pasA
  rw [if_neg (by omega)]
def pasG (gn : Nat) (p : Nat → Bool) (i : Nat) : Nat := gn ||| bset p i
theorem pasG_s (gn : Nat) (p : Nat → Bool) (i : Nat) : pasG gn p (i + 1) = if p i = true then pasG gn p i ||| 2 ^ i else pasG gn p i := by
  unfold pasG
  show gn ||| (bset p i ||| if p i = true then 2 ^ i else 0) = _
  split
  · rw [Nat.or_assoc]
  · rw [Nat.or_zero]
theorem sim_pass (hN : 4000 ≤ N) (S : Sm Mc Mr c t) (h : Cx Mc Mr c nt mo dr gn sp lm lw lk lf bh bd) (hm : mo < 99) : ∃ Mc' Mr', f_w_passOne N Mc = some Mc' ∧ f_m_passNow N Mr = some Mr' ∧ Sm Mc' Mr' c t ∧ CS Mc Mc' ∧ RS Mr Mr' ∧ Mc'.1 12 1 = nI (mo + 1) ∧ Mr'.1 130 2 = nI (mo + 1) := by
  have hc := h.c8
  have R12 : Mc = sr Mc 12 (upd (Mc.1 12) 3 (nI gn)) := by
    have : upd (Mc.1 12) 3 (nI gn) = Mc.1 12 := by
      funext j
      rw [upd_get]
      split
      · rename_i e
        rw [e, h.gn12]
      · rfl
    rw [this, sr_self]
  have cE : f_w_passOne N Mc = some (sr Mc 12 (upd (upd (Mc.1 12) 3 (nI (pasG gn (fun g => decide (Mc.1 10 g = nI mo)) c))) 1 (nI (mo + 1)))) := by
    unfold f_w_passOne
    rw [show f_e_moment Mc = nI mo from h.mo12]
    have := run_loop (fun n a i => f_w_passOne_13 N n (nI mo) i (sr Mc 12 (upd (Mc.1 12) 3 (nI a)))) (fun i => pasG gn (fun g => decide (Mc.1 10 g = nI mo)) i) (some (sr Mc 12 (upd (upd (Mc.1 12) 3 (nI (pasG gn (fun g => decide (Mc.1 10 g = nI mo)) c))) 1 (nI (mo + 1))))) c (fun n => ?_) (fun n i hi => ?_) N 0 (by omega) (by omega)
    · have e0 : pasG gn (fun g => decide (Mc.1 10 g = nI mo)) 0 = gn := Nat.or_zero gn
      have t2 : f_w_passOne_13 N N (nI mo) (nI 0) (sr Mc 12 (upd (Mc.1 12) 3 (nI (pasG gn (fun g => decide (Mc.1 10 g = nI mo)) 0)))) = _ := this
      rw [e0, ← R12] at t2
      exact t2
    · show f_w_passOne_13 N (n + 1) (nI mo) (nI c) (sr Mc 12 _) = _
      rw [f_w_passOne_13, show gi (sr Mc 12 _) 7 3 = nI c from h.c7, if_pos (nI_le (Nat.le_refl _) (by omega))]
      unfold f_e_setMoment
      rw [nI_1, si_of_sr]
      rfl
    · show f_w_passOne_13 N (n + 1) (nI mo) (nI i) (sr Mc 12 _) = f_w_passOne_13 N n (nI mo) (nI (i + 1)) (sr Mc 12 (upd (Mc.1 12) 3 (nI (pasG gn _ (i + 1)))))
      rw [f_w_passOne_13, show gi (sr Mc 12 _) 7 3 = nI c from h.c7, if_neg (nI_ge hi (by omega)), if_pos (am_in_nI (by omega) (by decide)), nI_clamp (by omega), show gi (sr Mc 12 _) 10 i = Mc.1 10 i from rfl, nI_1, pasG_s]
      by_cases q : Mc.1 10 i = nI mo
      · rw [if_pos q, if_pos (by simp [q]), c_letGo (gn := pasG gn (fun g => decide (Mc.1 10 g = nI mo)) i) (by omega) (by rw [sr_1, if_pos rfl, pk_us]), Option.bind_some, sr_sr, sr_1, if_pos rfl]
        congr 2
        funext j
        simp only [upd_get]
        split <;> rfl
      · rw [if_neg q, if_neg (by simp [q])]
  have go : ∀ g, g < c → Mr.1 130 (12 + 7 * g + 2) = Mc.1 10 g := fun g hg => by rw [S.go hg, show 12 + 7 * g + 2 = 14 + 7 * g by omega]
  have rE : f_m_passNow N Mr = some (sr Mr 130 (upd (pasA (Mr.1 130) (fun g => decide (Mc.1 10 g = nI mo)) c) 2 (nI (mo + 1)))) := by
    unfold f_m_passNow
    have := run_loop (fun n a i => f_m_passNow_2 N n i (sr Mr 130 a)) (fun i => pasA (Mr.1 130) (fun g => decide (Mc.1 10 g = nI mo)) i) (some (sr Mr 130 (upd (pasA (Mr.1 130) (fun g => decide (Mc.1 10 g = nI mo)) c) 2 (nI (mo + 1))))) c (fun n => ?_) (fun n i hi => ?_) N 0 (by omega) (by omega)
    · have t2 : f_m_passNow_2 N N (nI 0) (sr Mr 130 (pasA (Mr.1 130) (fun g => decide (Mc.1 10 g = nI mo)) 0)) = _ := this
      rw [pasA_0, sr_self] at t2
      exact t2
    · show f_m_passNow_2 N (n + 1) (nI c) (sr Mr 130 _) = _
      rw [f_m_passNow_2, gi130, pasA_o (by omega), h.c130, if_pos (nI_le (Nat.le_refl _) (by omega)), gi130, pasA_o (by omega), h.mo130, nI_1, si130, Option.bind_some]
    · show f_m_passNow_2 N (n + 1) (nI i) (sr Mr 130 _) = f_m_passNow_2 N n (nI (i + 1)) (sr Mr 130 (pasA _ _ (i + 1)))
      rw [f_m_passNow_2, gi130, pasA_o (by omega), h.c130, if_neg (nI_ge hi (by omega)), gS (x := 2) 2 rfl (by omega) (by omega), Option.bind_some, gi130, pasA_o (by omega), pasA_o (by omega), h.mo130, go i hi, nI_1, pasA_s]
      by_cases q : Mc.1 10 i = nI mo
      · rw [if_pos q, if_pos (by simp [q]), sS (x := 3) 3 _ rfl (by omega) (by omega), Option.bind_some]
      · rw [if_neg q, if_neg (by simp [q])]
  have gl : pasG gn (fun g => decide (Mc.1 10 g = nI mo)) c < 2 ^ c := Nat.or_lt_two_pow h.gnl (bset_lt _ c)
  have hE := (h.move (gn' := pasG gn (fun g => decide (Mc.1 10 g = nI mo)) c) (mo' := mo + 1) (dr' := dr) gl (by omega) h.drl (R' := upd (upd (Mc.1 12) 3 (nI (pasG gn (fun g => decide (Mc.1 10 g = nI mo)) c))) 1 (nI (mo + 1))) (A' := upd (pasA (Mr.1 130) (fun g => decide (Mc.1 10 g = nI mo)) c) 2 (nI (mo + 1))) (fun j h1 _ h3 => by rw [pk_un h1, pk_un h3]) pk_us (by rw [pk_un (by omega), pk_un (by omega), h.dr12]) (by rw [pk_un (by omega), pk_us]) (fun j h1 _ h3 => by
      rw [pk_un h1]
      refine pasA_o ?_
      by_cases q : j < 15 ∨ (j - 15) % 7 ≠ 0
      · omega
      · by_cases q2 : 15 + 7 * c ≤ j
        · omega
        · exact absurd (show j = 15 + 7 * ((j - 15) / 7) by omega) (h3 ((j - 15) / 7) (by omega))) pk_us (by rw [pk_un (by omega), pasA_o (by omega), h.dr130]) (fun g hg => by
      rw [pk_un (by omega)]
      have q : (15 + 7 * g - 15) / 7 = g := by omega
      have e3 := h.g3 hg
      unfold pasA pasG
      rw [Nat.testBit_or, bset_tb, q]
      by_cases hp : Mc.1 10 g = nI mo
      · rw [if_pos ⟨by omega, by omega, by omega, by simp [hp]⟩]
        simp [hg, hp]
        rfl
      · rw [if_neg (fun x => by have := x.2.2.2; simp [hp] at this), e3]
        simp [hp])).ev
  obtain ⟨s1, s2, s3⟩ := S.even (M1 := Mc) (M2 := Mr) (fun _ _ _ _ => rfl) (fun _ _ _ _ _ => rfl) ⟨rfl, rfl, rfl⟩ hE (fun j hj => by
    rw [pk_un (by rcases hj with q | q | q | q | ⟨x, y, q1, q2, q3⟩ | q <;> omega), pasA_o (by rcases hj with q | q | q | q | ⟨x, y, q1, q2, q3⟩ | q <;> omega)]) (fun i hi => by rw [pk_un (by omega), pasA_o (by omega)]) (by rw [pk_un (by omega), pasA_o (by omega)]; exact Nat.le_refl _)
  exact ⟨_, _, cE, rE, s1, s2, s3, rfl, rfl⟩
/-- all sit down again -/
def sitA (B : Nat → Int32) (i : Nat) : Nat → Int32 := fun j => if 15 ≤ j ∧ (j - 15) / 7 < i ∧ (j - 15) % 7 < 4 then (if (j - 15) % 7 = 0 then 1 else if (j - 15) % 7 = 3 then -1 else 0) else B j
theorem sitA_0 (B : Nat → Int32) : sitA B 0 = B := by
  funext j
  unfold sitA
  rw [if_neg (by omega)]
theorem sitA_s (B : Nat → Int32) (i : Nat) : upd (upd (upd (upd (sitA B i) (12 + 7 * i + 3) 1) (12 + 7 * i + 4) 0) (12 + 7 * i + 5) 0) (12 + 7 * i + 6) (-1) = sitA B (i + 1) := by
  funext j
  unfold sitA
  by_cases h6 : j = 12 + 7 * i + 6
  · rw [h6, pk_us, if_pos (by omega), if_neg (by omega), if_pos (by omega)]
  rw [pk_un h6]
  by_cases h5 : j = 12 + 7 * i + 5
  · rw [h5, pk_us, if_pos (by omega), if_neg (by omega), if_neg (by omega)]
  rw [pk_un h5]
  by_cases h4 : j = 12 + 7 * i + 4
  · rw [h4, pk_us, if_pos (by omega), if_neg (by omega), if_neg (by omega)]
  rw [pk_un h4]
  by_cases h3 : j = 12 + 7 * i + 3
  · rw [h3, pk_us, if_pos (by omega), if_pos (by omega)]
  rw [pk_un h3]
  by_cases q : 15 ≤ j ∧ (j - 15) / 7 < i ∧ (j - 15) % 7 < 4
  · rw [if_pos q, if_pos (show 15 ≤ j ∧ (j - 15) / 7 < i + 1 ∧ (j - 15) % 7 < 4 by omega)]
  · rw [if_neg q, if_neg (by omega)]
theorem sitA_o {B : Nat → Int32} {i j : Nat} (h : j < 15 ∨ 4 ≤ (j - 15) % 7 ∨ 15 + 7 * i ≤ j) : sitA B i j = B j := by
  unfold sitA
  rw [if_neg (by omega)]
theorem sit_m {M : Mem} {F : Nat → Int32} {g : Nat} (hg : g < 9) : f_m_sit (nI g) (sr M 130 F) = some (sr M 130 (upd (upd (upd (upd F (12 + 7 * g + 3) 1) (12 + 7 * g + 4) 0) (12 + 7 * g + 5) 0) (12 + 7 * g + 6) (-1))) := by
  unfold f_m_sit
  rw [sS (x := 3) 3 _ rfl hg (by omega), Option.bind_some, sS (x := 4) 4 _ rfl hg (by omega), Option.bind_some, sS (x := 5) 5 _ rfl hg (by omega), Option.bind_some, sS (x := 6) 6 _ rfl hg (by omega), Option.bind_some]
theorem sit_all (hN : 4000 ≤ N) {M : Mem} {B : Nat → Int32} {c : Nat} (hc : c ≤ 8) (h0 : B 0 = nI c) (x : Int32) : f_m_endNow_91 N N x 0 (sr M 130 B) = some (x, sr M 130 (sitA B c)) := by
  have := run_loop (fun n a i => f_m_endNow_91 N n x i (sr M 130 a)) (fun i => sitA B i) (some (x, sr M 130 (sitA B c))) c (fun n => ?_) (fun n i hi => ?_) N 0 (by omega) (by omega)
  · have t2 : f_m_endNow_91 N N x (nI 0) (sr M 130 (sitA B 0)) = _ := this
    rw [sitA_0] at t2
    exact t2
  · show f_m_endNow_91 N (n + 1) x (nI c) (sr M 130 (sitA B c)) = _
    rw [f_m_endNow_91, gi130, sitA_o (by omega), h0, if_pos (nI_le (Nat.le_refl _) (by omega))]
  · show f_m_endNow_91 N (n + 1) x (nI i) (sr M 130 (sitA B i)) = f_m_endNow_91 N n x (nI (i + 1)) (sr M 130 (sitA B (i + 1)))
    rw [f_m_endNow_91, gi130, sitA_o (by omega), h0, if_neg (nI_ge hi (by omega)), sit_m (by omega), Option.bind_some, sitA_s, nI_1]
/-- the class's book -/
theorem c_close {M : Mem} {nt H d : Nat} (hn : nt < 999) (hH : H < 256) (hd : d ≤ 100) (r0 : M.1 12 0 = nI nt) (r5 : M.1 12 5 = nI (min nt 20)) : ∃ R', f_e_close (nI H) (nI d) M = some (sr M 12 R') ∧ R' 0 = nI (nt + 1) ∧ R' 1 = nI 0 ∧ R' 2 = M.1 12 2 ∧ R' 3 = nI 0 ∧ R' 4 = nI 0 ∧ R' 5 = nI (min (nt + 1) 20) ∧ ∀ j, j < min (nt + 1) 20 → R' (46 + j) = if j = min nt 19 then nI (nt + 1024 * H + 262144 * d) else M.1 12 (46 + (if nt < 20 then j else j + 1)) := by
  have key : ∀ (F : Nat → Int32) (w : Nat), w < 20 → F 5 = nI w → F 0 = nI nt → f_e_close_34 (nI H) (nI d) (sr M 12 F) = some (sr M 12 (upd (upd (upd (upd (upd (upd F (46 + w) (nI (nt + 1024 * H + 262144 * d))) 5 (nI (w + 1))) 0 (nI (nt + 1))) 1 0) 3 0) 4 0)) := by
    intro F w hw h5 h0
    have g12 : ∀ (F : Nat → Int32) (i : Nat), gi (sr M 12 F) 12 i = F i := fun F i => by rw [gi_sr, if_pos rfl]
    have e1 : (46 : Int32) + nI w = nI (46 + w) := nI_add 46 w
    have e2 : (nI nt ||| nI H <<< (10 : Int32)) ||| nI d <<< (18 : Int32) = nI (nt + 1024 * H + 262144 * d) := by
      rw [pk_shlN 10 10 (by decide) (by omega), pk_shlN 18 18 (by decide) (by omega), fa_or, fa_or, or_add (a := nt) (b := H) (i := 10) (by omega), or_add (a := nt + H * 2 ^ 10) (b := d) (i := 18) (by omega)]
      congr 1
      omega
    unfold f_e_close_34
    rw [show f_e_written (sr M 12 F) = nI w from by unfold f_e_written; rw [g12, h5], if_neg (show ¬ f_w_within (nI w) 0 19 (sr M 12 F) = 0 from within_yes _ (n := 19) (by omega) (by decide)), e1, if_pos (am_in_nI (by omega) (by decide)), nI_clamp (by omega), show f_e_night (sr M 12 F) = nI nt from by unfold f_e_night; rw [g12, h0], e2, si_of_sr, Option.bind_some, nI_1, si_of_sr, Option.bind_some]
    unfold f_e_close_81
    rw [g12, pk_un (by omega), pk_un (by omega), h0, nI_1, si_of_sr, Option.bind_some, si_of_sr, Option.bind_some, si_of_sr, Option.bind_some, si_of_sr, Option.bind_some]
  unfold f_e_close
  rw [show f_e_written M = nI (min nt 20) from r5]
  by_cases q : nt < 20
  · rw [if_pos (show nI (min nt 20) < (20 : Int32) from nI_lt (b := 20) (by omega) (by decide))]
    have := key (M.1 12) nt q (by rw [r5]; congr 1; omega) r0
    rw [sr_self] at this
    refine ⟨_, this, ?_, ?_, ?_, ?_, ?_, ?_, fun j hj => ?_⟩
    · rw [pk_un (by omega), pk_un (by omega), pk_un (by omega), pk_us]
    · rw [pk_un (by omega), pk_un (by omega), pk_us]
      rfl
    · rw [pk_un (by omega), pk_un (by omega), pk_un (by omega), pk_un (by omega), pk_un (by omega), pk_un (by omega)]
    · rw [pk_un (by omega), pk_us]
      rfl
    · rw [pk_us]
      rfl
    · rw [pk_un (by omega), pk_un (by omega), pk_un (by omega), pk_un (by omega), pk_us]
      congr 1
      omega
    · rw [pk_un (by omega), pk_un (by omega), pk_un (by omega), pk_un (by omega), pk_un (by omega)]
      by_cases e : j = min nt 19
      · rw [if_pos e, show j = nt by omega, pk_us]
      · rw [if_neg e, pk_un (by omega), if_pos q]
  · rw [if_neg (show ¬ nI (min nt 20) < (20 : Int32) from nI_nlt (b := 20) (by omega) (by omega)), Option.bind_some, si_of_sr, Option.bind_some]
    have := key (upd (va_cpy (M.1 12) (M.1 12) 47 46 19) 5 19) 19 (by omega) rfl (by rw [pk_un (by omega), pk_cpy_out (by omega), r0])
    refine ⟨_, this, ?_, ?_, ?_, ?_, ?_, ?_, fun j hj => ?_⟩
    · rw [pk_un (by omega), pk_un (by omega), pk_un (by omega), pk_us]
    · rw [pk_un (by omega), pk_un (by omega), pk_us]
      rfl
    · rw [pk_un (by omega), pk_un (by omega), pk_un (by omega), pk_un (by omega), pk_un (by omega), pk_un (by omega), pk_un (by omega), pk_cpy_out (by omega)]
    · rw [pk_un (by omega), pk_us]
      rfl
    · rw [pk_us]
      rfl
    · rw [pk_un (by omega), pk_un (by omega), pk_un (by omega), pk_un (by omega), pk_us]
      congr 1
      omega
    · rw [pk_un (by omega), pk_un (by omega), pk_un (by omega), pk_un (by omega), pk_un (by omega)]
      by_cases e : j = min nt 19
      · rw [if_pos e, show 46 + j = 46 + 19 by omega, pk_us]
      · rw [if_neg e, pk_un (by omega), pk_un (by omega), pk_cpy_in (by omega) (by omega), if_neg q, show 47 + (46 + j - 46) = 46 + (j + 1) by omega]
theorem Sm.whr (S : Sm Mc Mr c t) (s : Nat × Nat) : Sm Mc (hm Mr s) c t := ⟨by rw [hm_k Mr s (by decide)]; exact S.1, LX_mg S.2 (fun _ _ _ => rfl) (hm_k Mr s (by decide))⟩
theorem sim_end (hN : 4000 ≤ N) (S : Sm Mc Mr c t) (h : Cx Mc Mr c nt mo dr gn sp lm lw lk lf bh bd) (hn : nt < 999) : ∃ H Mc' Mr', H < 256 ∧ f_w_endDinner N Mc = some (nI H, Mc') ∧ f_m_endNow N Mr = some (nI H, Mr') ∧ Sm Mc' Mr' c t ∧ CS Mc Mc' ∧ RS Mr Mr' := by
  have hc := h.c8
  have H256 := (h.hdok 5001).2
  obtain ⟨d, M1, M2, d1, d2, d3, d4, d5, d6⟩ := sim_dies hN (S.whr (hd lf lw 5001 sp)) (h.wh (hd lf lw 5001 sp))
  have e12 : M1.1 12 = Mc.1 12 := d4 12 (by omega) (by omega) (by omega)
  have e130 : M2.1 130 = Mr.1 130 := by rw [d5 130 (by omega) (by omega) (by omega) (by omega), hm_k Mr _ (by decide)]
  obtain ⟨R', c1, c2⟩ := c_close (M := M1) (nt := nt) hn H256 d1 (by rw [e12, h.nt12]) (by rw [e12, h.wr12])
  have cE : f_w_endDinner N Mc = some (nI (hd lf lw 5001 sp).2, sr M1 12 R') := by
    rw [endDin]
    unfold f_e_wouldHold
    rw [h.cs hN, Option.bind_some, Option.bind_some, hold_sv (h.hdok _), d2, Option.bind_some, c1, Option.bind_some]
  have ei : nI nt - nI nt / (1300 : Int32) * (1300 : Int32) = nI nt := by
    rw [show (1300 : Int32) = nI 1300 from rfl, pk_rem (by omega) (by omega) (by omega)]
    congr 1
    omega
  have e26 : (2526 : Int32) + nI nt = nI (2526 + nt) := nI_add 2526 nt
  have ev : nI nt * (256 : Int32) + nI (hd lf lw 5001 sp).2 = nI (nt * 256 + (hd lf lw 5001 sp).2) := by
    rw [show (256 : Int32) = nI 256 from rfl, nI_mul, nI_add]
  have ev2 : nI (nt * 256 + (hd lf lw 5001 sp).2) * (128 : Int32) + nI d = nI ((nt * 256 + (hd lf lw 5001 sp).2) * 128 + d) := by
    rw [show (128 : Int32) = nI 128 from rfl, nI_mul, nI_add]
  generalize hB : upd (upd (upd (upd (upd (upd (Mr.1 130) (2526 + nt) (nI ((nt * 256 + (hd lf lw 5001 sp).2) * 128 + d))) 9 (nI (nt + 1))) 1 (nI (nt + 1))) 2 0) 3 0) 8 0 = B
  have B0 : B 0 = nI c := by rw [← hB, pk_un (by omega), pk_un (by omega), pk_un (by omega), pk_un (by omega), pk_un (by omega), pk_un (by omega), h.c130]
  have rE : f_m_endNow N Mr = some (nI (hd lf lw 5001 sp).2, sr M2 130 (sitA B c)) := by
    unfold f_m_endNow
    have t9 : gi (hm Mr (hd lf lw 5001 sp)) 130 9 = nI nt := by show (hm Mr _).1 130 9 = _; rw [hm_k Mr _ (by decide), h.wr130]
    have t1 : gi (hm Mr (hd lf lw 5001 sp)) 130 1 = nI nt := by show (hm Mr _).1 130 1 = _; rw [hm_k Mr _ (by decide), h.nt130]
    rw [h.rs hN, Option.bind_some, d3, Option.bind_some, t9, t1, ei, e26, if_pos (am_in_nI (by omega) (by decide)), nI_clamp (by omega), ev, ev2, si_sr M2, e130, Option.bind_some, gi130, si130, pk_un (by omega), h.wr130, nI_1, Option.bind_some, gi130, si130, pk_un (by omega), pk_un (by omega), h.nt130, nI_1, Option.bind_some, si130, Option.bind_some, si130, Option.bind_some, si130, Option.bind_some, hB, sit_all hN hc B0]
  have hA : ∀ j, j ≠ 2526 + nt → j ≠ 9 → j ≠ 1 → j ≠ 2 → j ≠ 3 → j ≠ 8 → B j = Mr.1 130 j := fun j a b cc d e f => by rw [← hB, pk_un f, pk_un e, pk_un d, pk_un cc, pk_un b, pk_un a]
  have hE := (h.close hn (hr := (hd lf lw 5001 sp).2) (di := d) H256 d1 (R' := R') (A' := sitA B c) c2.1 c2.2.1 (by rw [c2.2.2.1, e12]) c2.2.2.2.1 c2.2.2.2.2.1 c2.2.2.2.2.2.1 (fun j hj => by rw [c2.2.2.2.2.2.2 j hj, e12])
    (by rw [sitA_o (by omega), hA 0 (by omega) (by omega) (by omega) (by omega) (by omega) (by omega)]) (by rw [sitA_o (by omega), ← hB, pk_un (by omega), pk_un (by omega), pk_un (by omega), pk_us]) (by rw [sitA_o (by omega), ← hB, pk_un (by omega), pk_un (by omega), pk_us]; rfl) (by rw [sitA_o (by omega), ← hB, pk_un (by omega), pk_us]; rfl) (by rw [sitA_o (by omega), hA 4 (by omega) (by omega) (by omega) (by omega) (by omega) (by omega)]) (by rw [sitA_o (by omega), ← hB, pk_us]; rfl) (by rw [sitA_o (by omega), ← hB, pk_un (by omega), pk_un (by omega), pk_un (by omega), pk_un (by omega), pk_us]) (fun j hj => by
      rw [sitA_o (by omega)]
      by_cases e : j = nt
      · rw [if_pos e, ← hB, e, pk_un (by omega), pk_un (by omega), pk_un (by omega), pk_un (by omega), pk_un (by omega), pk_us]
      · rw [if_neg e, hA _ (by omega) (by omega) (by omega) (by omega) (by omega) (by omega)]) (fun g hg => by
      unfold sitA
      refine ⟨?_, ?_, ?_, ?_⟩
      · rw [if_pos (by omega), if_pos (by omega)]
      · rw [if_pos (by omega), if_neg (by omega), if_neg (by omega)]
      · rw [if_pos (by omega), if_neg (by omega), if_neg (by omega)]
      · rw [if_pos (by omega), if_neg (by omega), if_pos (by omega)])).ev
  obtain ⟨s1, s2, s3⟩ := S.even (M1 := M1) (M2 := M2) d4 (fun q a b cc e => by rw [d5 q a b cc e, hm_k Mr _ a]) d6 hE (fun j hj => by
    rw [sitA_o (by rcases hj with q | q | q | q | ⟨x, y, q1, q2, q3⟩ | q <;> omega), hA _ (by rcases hj with q | q | q | q | ⟨x, y, q1, q2, q3⟩ | q <;> omega) (by rcases hj with q | q | q | q | ⟨x, y, q1, q2, q3⟩ | q <;> omega) (by rcases hj with q | q | q | q | ⟨x, y, q1, q2, q3⟩ | q <;> omega) (by rcases hj with q | q | q | q | ⟨x, y, q1, q2, q3⟩ | q <;> omega) (by rcases hj with q | q | q | q | ⟨x, y, q1, q2, q3⟩ | q <;> omega) (by rcases hj with q | q | q | q | ⟨x, y, q1, q2, q3⟩ | q <;> omega)]) (fun i hi => by
    rw [h.nt130, nI_clamp (by omega)] at hi
    rw [sitA_o (by omega), hA _ (by omega) (by omega) (by omega) (by omega) (by omega) (by omega)]) (by
    rw [sitA_o (by omega), ← hB, pk_un (by omega), pk_un (by omega), pk_un (by omega), pk_us, h.nt130, nI_clamp (by omega), nI_clamp (by omega)]
    omega)
  exact ⟨_, _, _, H256, cE, rE, s1, s2, s3⟩
end STEPS2
