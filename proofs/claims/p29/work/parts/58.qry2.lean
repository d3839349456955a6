/-! what there is, of jobs and in all -/
theorem how_c {s : Nat → Int32} {P J j : Nat} (h : SI s P J) (hj : j < J) : HOW s j = 0 ∨ HOW s j = 1 ∨ HOW s j = 2 ∨ HOW s j = 3 := by
  obtain ⟨n, _, hn, e⟩ := (h.2.2.2.1 j hj).1.2.2.2.2.1
  rw [e]
  have : n = 0 ∨ n = 1 ∨ n = 2 ∨ n = 3 := by omega
  rcases this with rfl | rfl | rfl | rfl
  · exact Or.inl rfl
  · exact Or.inr (Or.inl rfl)
  · exact Or.inr (Or.inr (Or.inl rfl))
  · exact Or.inr (Or.inr (Or.inr rfl))
theorem c_late {D : dT} {B : Nat} {s : Nat → Int32} {P J j : Nat} (h : FR D B s P J) (hS : SI s P J) (hj : j < J) : F_X2_isLate (B + 16 + j) (s 4) D = some (latV s j, D) := by
  unfold F_X2_isLate latV
  rw [FR_j h hj (k := 5) (by omega), FR_j h hj (k := 11) (by omega), FR_j h hj (k := 4) (by omega)]
  have e5 : s (52 + 12 * j + 5) = HOW s j := rfl
  rw [e5]
  rcases how_c hS hj with e | e | e | e
  · rw [e, if_neg (show ¬ (0 : Int32) = 2 by decide), if_neg (show ¬ (0 : Int32) = 3 by decide), if_neg (show ¬ (0 : Int32) = 2 by decide), if_neg (show ¬ (2 : Int32) ≤ 0 by decide)]
    split <;> rfl
  · rw [e, if_neg (show ¬ (1 : Int32) = 2 by decide), if_neg (show ¬ (1 : Int32) = 3 by decide), if_neg (show ¬ (1 : Int32) = 2 by decide), if_neg (show ¬ (2 : Int32) ≤ 1 by decide)]
    split <;> rfl
  · rw [e, if_pos (show (2 : Int32) = 2 from rfl), if_pos (show (2 : Int32) = 2 from rfl)]
    split <;> rfl
  · rw [e, if_neg (show ¬ (3 : Int32) = 2 by decide), if_pos (show (3 : Int32) = 3 from rfl), if_neg (show ¬ (3 : Int32) = 2 by decide), if_pos (show (2 : Int32) ≤ 3 by decide)]
theorem c_state_l {D : dT} {B : Nat} {s : Nat → Int32} {P J : Nat} (h : FR D B s P J) (hS : SI s P J) {x : Int32} (hx : ¬ x = 3) : ∀ m k fuel, k + m = J → m < fuel → F_X0_jobsInState_4 fuel B x (thtU s x k) (nI k) D = some (thtU s x J, D) := by
  have h16 := SI_J hS
  intro m
  induction m with
  | zero =>
    intro k fuel hk hf
    obtain ⟨f, rfl⟩ := Nat.exists_eq_add_of_lt hf
    rw [show 0 + f + 1 = f + 1 by omega, F_X0_jobsInState_4, FR_J h, if_pos (nI_le (by omega) (by omega)), show k = J by omega]
  | succ m ih =>
    intro k fuel hk hf
    obtain ⟨f, rfl⟩ := Nat.exists_eq_add_of_lt hf
    have hi := ih (k + 1) (m + 1 + f) (by omega) (by omega)
    rw [thtU_s] at hi
    rw [F_X0_jobsInState_4, FR_J h, if_neg (nI_ge (by omega) (by omega)), if_pos (inRn (by omega) (by omega)), nI_clamp (by omega), FR_j h (show k < J by omega) (show 5 < 12 by omega), nI_1]
    by_cases c : HOW s k = x
    · rw [if_pos (show s (52 + 12 * k + 5) = x from c)]
      rw [if_pos (show (if x = 3 then ¬ latV s k = 0 else HOW s k = x) by rw [if_neg hx]; exact c)] at hi
      exact hi
    · rw [if_neg (show ¬ s (52 + 12 * k + 5) = x from c)]
      rw [if_neg (show ¬ (if x = 3 then ¬ latV s k = 0 else HOW s k = x) by rw [if_neg hx]; exact c)] at hi
      rw [Int32.or_zero] at hi
      exact hi
theorem c_state {D : dT} {B : Nat} {s : Nat → Int32} {P J : Nat} (h : FR D B s P J) (hS : SI s P J) {x : Int32} (hx : ¬ x = 3) : F_X0_jobsInState B x D = some (thtV s J x, D) := c_state_l h hS hx J 0 lim (by omega) (lim_lt (by have := SI_J hS; omega))
theorem c_lates_l {D : dT} {B : Nat} {s : Nat → Int32} {P J : Nat} (h : FR D B s P J) (hS : SI s P J) : ∀ m k fuel, k + m = J → m < fuel → F_X0_lateJobs_4 fuel B (thtU s 3 k) (nI k) D = some (thtU s 3 J, D) := by
  have h16 := SI_J hS
  intro m
  induction m with
  | zero =>
    intro k fuel hk hf
    obtain ⟨f, rfl⟩ := Nat.exists_eq_add_of_lt hf
    rw [show 0 + f + 1 = f + 1 by omega, F_X0_lateJobs_4, FR_J h, if_pos (nI_le (by omega) (by omega)), show k = J by omega]
  | succ m ih =>
    intro k fuel hk hf
    obtain ⟨f, rfl⟩ := Nat.exists_eq_add_of_lt hf
    have hi := ih (k + 1) (m + 1 + f) (by omega) (by omega)
    rw [thtU_s] at hi
    rw [F_X0_lateJobs_4, FR_J h, if_neg (nI_ge (by omega) (by omega)), if_pos (inRn (by omega) (by omega)), nI_clamp (by omega), FR_h h, c_late h hS (show k < J by omega), bd_some, nI_1]
    by_cases c : latV s k = 0
    · rw [if_pos c]
      rw [if_neg (show ¬ (if (3 : Int32) = 3 then ¬ latV s k = 0 else HOW s k = 3) by rw [if_pos rfl]; exact fun z => z c), Int32.or_zero] at hi
      exact hi
    · rw [if_neg c]
      rw [if_pos (show (if (3 : Int32) = 3 then ¬ latV s k = 0 else HOW s k = 3) by rw [if_pos rfl]; exact c)] at hi
      exact hi
theorem c_lates {D : dT} {B : Nat} {s : Nat → Int32} {P J : Nat} (h : FR D B s P J) (hS : SI s P J) : F_X0_lateJobs B D = some (thtV s J 3, D) := c_lates_l h hS J 0 lim (by omega) (lim_lt (by have := SI_J hS; omega))
theorem lat_b (s : Nat → Int32) (j : Nat) : latV s j = 0 ∨ latV s j = 1 := by
  unfold latV
  by_cases a : HOW s j = 2
  · rw [if_pos a]; split
    · exact Or.inl rfl
    · exact Or.inr rfl
  · rw [if_neg a]
    by_cases b : 2 ≤ HOW s j
    · rw [if_pos b]; exact Or.inl rfl
    · rw [if_neg b]; split
      · exact Or.inl rfl
      · exact Or.inr rfl