/-! an hour -/
theorem SI_up4 {s : Nat → Int32} {P J : Nat} (h : SI s P J) (v : Int32) : SI (upd s 4 v) P J := by
  have ho : ∀ i, i ≠ 4 → upd s 4 v i = s i := fun i hi => upd_n _ _ hi
  obtain ⟨⟨a1, a2, a3, a4⟩, ⟨b1, b2, b3, b4, b5, b6⟩, cc, d, e, f1, f2⟩ := h
  refine ⟨⟨a1, a2, by rw [ho 5 (by omega)]; exact a3, by rw [ho 6 (by omega)]; exact a4⟩, ⟨by rw [ho 0 (by omega)]; exact b1, by rw [ho 1 (by omega)]; exact b2, by rw [ho 2 (by omega)]; exact b3, by rw [ho 3 (by omega)]; exact b4, Or.inr trivial, fun k hk => by rw [ho (9 + k) (by omega)]; exact b6 k hk⟩, ?_, ?_, ?_, ?_, ?_⟩
  · intro p hp
    rw [ho _ (by omega), ho _ (by omega)]
    exact cc p hp
  · intro i hi
    have hx := d i hi
    unfold SIj HOW CRW at hx ⊢
    rw [ho _ (by omega), ho _ (by omega), ho _ (by omega), ho _ (by omega), ho _ (by omega), ho _ (by omega), ho _ (by omega), ho _ (by omega), ho _ (by omega), ho _ (by omega)]
    exact hx
  · intro i i2 hi hi2 hne h1 h2 p hb
    unfold HOW CRW at *
    rw [ho _ (by omega)] at h1 h2 hb ⊢
    exact e i i2 hi hi2 hne h1 h2 p hb
  · intro p hp hp2 k hk
    rw [ho _ (by omega)]
    exact f1 p hp hp2 k hk
  · intro i hi hi2 k hk
    rw [ho _ (by omega)]
    exact f2 i hi hi2 k hk
theorem SI_gobU {s : Nat → Int32} {P J : Nat} (h : SI s P J) : ∀ k, k ≤ J → SI (gobU s P k).2 P J := by
  intro k
  induction k with
  | zero => intro _; exact h
  | succ k ih =>
    intro hk
    rw [gobU_s]
    by_cases c : HOW (gobU s P k).2 k = 1
    · rw [if_pos c]
      exact SI_wrk (ih (by omega)) (by omega) c
    · rw [if_neg c]
      exact ih (by omega)
theorem SI_gobV {s : Nat → Int32} {P J : Nat} (h : SI s P J) : SI (gobV s P J).2 P J := by
  unfold gobV gobS
  exact SI_up4 (SI_rst (SI_gobU h J (Nat.le_refl _)) _) _
theorem rstU_congr (s : Nat → Int32) {c c' : Int32} : ∀ n, (∀ p, p < n → bt c p = bt c' p) → rstU s c n = rstU s c' n := by
  intro n
  induction n with
  | zero => intro _; rfl
  | succ n ih =>
    intro h
    rw [rstU_s, rstU_s, ih (fun p hp => h p (by omega)), h n (by omega)]
theorem bt_1023 : ∀ i, i < 10 → bt 1023 i = true := by decide +kernel
theorem c_one_l {B : Nat} {s : Nat → Int32} {P J : Nat} (hS : SI s P J) (b : Int32) : ∀ m k fuel (D : dT), k + m = J → m < fuel → FR D B (gobU s P k).2 P J → ∃ D', F_X0_passOneHour_9 fuel B (gobU s P k).1 b (nI k) D = some ((gobU s P J).1, D') ∧ FR D' B (upd (rstV (gobU s P J).2 P (b ^^^ -1)) 4 (rstV (gobU s P J).2 P (b ^^^ -1) 4 + 1)) P J ∧ off B D D' := by
  have h10 := SI_P hS
  have h16 := SI_J hS
  intro m
  induction m with
  | zero =>
    intro k fuel D hk hf h
    obtain ⟨f, rfl⟩ := Nat.exists_eq_add_of_lt hf
    have hkJ : k = J := by omega
    subst hkJ
    rw [show 0 + f + 1 = f + 1 by omega, F_X0_passOneHour_9, FR_J h, if_pos (nI_le (by omega) (by omega))]
    obtain ⟨D1, x1, x2, x3⟩ := c_rest h h10 (b ^^^ -1)
    rw [x1, bd_some, FR_h x2]
    exact ⟨_, rfl, FR_78 x2 h10 (Or.inl ⟨rfl, rfl⟩) _, off_u x3 (by omega) (by omega)⟩
  | succ m ih =>
    intro k fuel D hk hf h
    obtain ⟨f, rfl⟩ := Nat.exists_eq_add_of_lt hf
    have hSk := SI_gobU hS k (by omega)
    rw [F_X0_passOneHour_9, FR_J h, if_neg (nI_ge (by omega) (by omega)), if_pos (inRn (by omega) (by omega))]
    simp only [nI_clamp (show k < 2 ^ 31 by omega), FR_j h (show k < J by omega) (show 5 < 12 by omega)]
    by_cases c : HOW (gobU s P k).2 k = 1
    · rw [if_pos (show (gobU s P k).2 (52 + 12 * k + 5) = 1 from c), if_pos (inRn (by omega) (by omega))]
      obtain ⟨D1, x1, x2, x3⟩ := c_work h hSk (show k < J by omega) c
      rw [x1, bd_some, nI_1]
      have hn : FR D1 B (gobU s P (k + 1)).2 P J := by rw [gobU_s, if_pos c]; exact x2
      obtain ⟨D', y1, y2, y3⟩ := ih (k + 1) (m + 1 + f) D1 (by omega) (by omega) hn
      refine ⟨D', ?_, y2, off_t x3 y3⟩
      rw [gobU_s, if_pos c] at y1
      by_cases c2 : (wrkV (gobU s P k).2 P k).1 = 0
      · rw [if_pos c2]
        rw [if_pos c2, Int32.add_zero] at y1
        exact y1
      · rw [if_neg c2]
        rw [if_neg c2] at y1
        exact y1
    · rw [if_neg (show ¬ (gobU s P k).2 (52 + 12 * k + 5) = 1 from c), nI_1]
      have hn : FR D B (gobU s P (k + 1)).2 P J := by rw [gobU_s, if_neg c]; exact h
      obtain ⟨D', y1, y2, y3⟩ := ih (k + 1) (m + 1 + f) D (by omega) (by omega) hn
      refine ⟨D', ?_, y2, y3⟩
      rw [gobU_s, if_neg c, Int32.add_zero] at y1
      exact y1
theorem c_one {D : dT} {B : Nat} {s : Nat → Int32} {P J : Nat} (h : FR D B s P J) (hS : SI s P J) : ∃ D', F_X0_passOneHour B D = some ((gobV s P J).1, D') ∧ FR D' B (gobV s P J).2 P J ∧ off B D D' := by
  have h10 := SI_P hS
  unfold F_X0_passOneHour
  rw [c_busy h hS, bd_some]
  obtain ⟨D', a, b, c⟩ := c_one_l hS (busyV s J) J 0 lim D (by omega) (lim_lt (by have := SI_J hS; omega)) h
  refine ⟨D', a, ?_, c⟩
  have e : rstV (gobU s P J).2 P (busyV s J ^^^ -1) = gobS s P J := by
    unfold gobS rstV idlV
    refine rstU_congr _ P (fun p hp => ?_)
    rw [b_and, bt_1023 p (by omega), Bool.true_and]
  unfold gobV
  rw [← e]
  exact b
theorem gob_n (s : Nat → Int32) (P : Nat) : ∀ k, ∃ n, n ≤ k ∧ (gobU s P k).1 = nI n := by
  intro k
  induction k with
  | zero => exact ⟨0, Nat.le_refl _, rfl⟩
  | succ k ih =>
    obtain ⟨n, hn, e⟩ := ih
    rw [gobU_s]
    by_cases c : HOW (gobU s P k).2 k = 1
    · rw [if_pos c]
      by_cases c2 : (wrkV (gobU s P k).2 P k).1 = 0
      · rw [if_pos c2, Int32.add_zero]; exact ⟨n, by omega, e⟩
      · rw [if_neg c2, e, nI_1]; exact ⟨n + 1, by omega, rfl⟩
    · rw [if_neg c, Int32.add_zero]; exact ⟨n, by omega, e⟩
theorem pas_n (s : Nat → Int32) (P J : Nat) : ∀ h, ∃ n, n ≤ J * h ∧ (pasU s P J h).1 = nI n := by
  intro h
  induction h with
  | zero => exact ⟨0, by omega, rfl⟩
  | succ h ih =>
    obtain ⟨n, hn, e⟩ := ih
    obtain ⟨m, hm, e2⟩ := gob_n (pasU s P J h).2 P J
    rw [pasU_s, e, show (gobV (pasU s P J h).2 P J).1 = (gobU (pasU s P J h).2 P J).1 from rfl, e2, nI_add]
    exact ⟨n + m, by rw [Nat.mul_succ]; omega, rfl⟩
theorem SI_pas {s : Nat → Int32} {P J : Nat} (h : SI s P J) : ∀ n, SI (pasU s P J n).2 P J := by
  intro n
  induction n with
  | zero => exact h
  | succ n ih => rw [pasU_s]; exact SI_gobV ih
theorem c_pas_l {B : Nat} {s : Nat → Int32} {P J : Nat} (hS : SI s P J) {n : Nat} (hn : n < 1000) : ∀ m k fuel (D : dT), k + m = n → m < fuel → FR D B (pasU s P J k).2 P J → ∃ D', F_X0_passHours_32 fuel B (nI n) (pasU s P J k).1 (nI k) D = some ((pasU s P J n).1, D') ∧ FR D' B (pasU s P J n).2 P J ∧ off B D D' := by
  intro m
  induction m with
  | zero =>
    intro k fuel D hk hf h
    obtain ⟨f, rfl⟩ := Nat.exists_eq_add_of_lt hf
    have : k = n := by omega
    subst this
    rw [show 0 + f + 1 = f + 1 by omega, F_X0_passHours_32, if_pos (nI_le (by omega) (by omega))]
    exact ⟨D, rfl, h, off_r B D⟩
  | succ m ih =>
    intro k fuel D hk hf h
    obtain ⟨f, rfl⟩ := Nat.exists_eq_add_of_lt hf
    rw [F_X0_passHours_32, if_neg (nI_ge (by omega) (by omega))]
    obtain ⟨D1, x1, x2, x3⟩ := c_one h (SI_pas hS k)
    rw [x1, bd_some, nI_1]
    obtain ⟨D', y1, y2, y3⟩ := ih (k + 1) (m + 1 + f) D1 (by omega) (by omega) x2
    exact ⟨D', y1, y2, off_t x3 y3⟩
/-- pass, by cases -/
theorem c_pass0 {D : dT} {B : Nat} {s : Nat → Int32} {P J : Nat} (h : FR D B s P J) (hS : SI s P J) {n : Nat} (h1 : 1 ≤ n) (h99 : n ≤ 99) (hh : s 4 + nI n ≤ 9999) : ∃ D', F_X0_passHours B (nI n) D = some ((pasU s P J n).1, D') ∧ FR D' B (pasU s P J n).2 P J ∧ off B D D' := by
  unfold F_X0_passHours
  rw [c_isWithin, if_pos (show (1 : Int32) ≤ nI n ∧ nI n ≤ 99 from ⟨nI_le (a := 1) h1 (by omega), nI_le (b := 99) h99 (by omega)⟩), bd_some, if_neg (by decide), FR_h h, if_pos hh]
  exact c_pas_l hS (by omega) n 0 lim D (by omega) (lim_lt (by omega)) h
theorem c_pass1 (D : dT) (B : Nat) {x : Int32} (hx : ¬ (1 ≤ x ∧ x ≤ 99)) : F_X0_passHours B x D = some (-2, D) := by
  unfold F_X0_passHours
  rw [c_isWithin, if_neg hx, bd_some, if_pos rfl]
theorem c_pass2 {D : dT} {B : Nat} {s : Nat → Int32} {P J : Nat} (h : FR D B s P J) {x : Int32} (hx : 1 ≤ x ∧ x ≤ 99) (hh : ¬ s 4 + x ≤ 9999) : F_X0_passHours B x D = some (-5, D) := by
  unfold F_X0_passHours
  rw [c_isWithin, if_pos hx, bd_some, if_neg (by decide), FR_h h, if_neg hh]
