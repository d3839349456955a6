/-! what there is, of jobs and in all -/
theorem how_c {s : Nat → Int32} {P J j : Nat} (h : SI s P J) (hj : j < J) : HOW s j = 0 ∨ HOW s j = 1 ∨ HOW s j = 2 ∨ HOW s j = 3 := by
  obtain ⟨n, _, hn, e⟩ := (h.2.2.2.1 j hj).1.2.2.2.2.1
  rw [e]
  have : n = 0 ∨ n = 1 ∨ n = 2 ∨ n = 3 := by omega
  rcases this with rfl | rfl | rfl | rfl
  · exact Or.inl rfl
  · exact Or.inr (Or.inl rfl)
  · exact Or.inr (Or.inr (Or.inl rfl))
  · exact Or.inr (Or.inr (Or.inr rfl))
theorem c_late {D : dT} {B : Nat} {s : Nat → Int32} {P J j : Nat} (h : FR D B s P J) (hS : SI s P J) (hj : j < J) : F_X2_isLate (B + 16 + j) (s 4) D = some (latV s j, D) := by
  unfold F_X2_isLate latV
  rw [FR_j h hj (k := 5) (by omega), FR_j h hj (k := 11) (by omega), FR_j h hj (k := 4) (by omega)]
  have e5 : s (52 + 12 * j + 5) = HOW s j := rfl
  rw [e5]
  rcases how_c hS hj with e | e | e | e
  · rw [e, if_neg (show ¬ (0 : Int32) = 2 by decide), if_neg (show ¬ (0 : Int32) = 3 by decide), if_neg (show ¬ (0 : Int32) = 2 by decide), if_neg (show ¬ (2 : Int32) ≤ 0 by decide)]
    split <;> rfl
  · rw [e, if_neg (show ¬ (1 : Int32) = 2 by decide), if_neg (show ¬ (1 : Int32) = 3 by decide), if_neg (show ¬ (1 : Int32) = 2 by decide), if_neg (show ¬ (2 : Int32) ≤ 1 by decide)]
    split <;> rfl
  · rw [e, if_pos (show (2 : Int32) = 2 from rfl), if_pos (show (2 : Int32) = 2 from rfl)]
    split <;> rfl
  · rw [e, if_neg (show ¬ (3 : Int32) = 2 by decide), if_pos (show (3 : Int32) = 3 from rfl), if_neg (show ¬ (3 : Int32) = 2 by decide), if_pos (show (2 : Int32) ≤ 3 by decide)]
theorem c_state_l {D : dT} {B : Nat} {s : Nat → Int32} {P J : Nat} (h : FR D B s P J) (hS : SI s P J) {x : Int32} (hx : ¬ x = 3) : ∀ m k fuel, k + m = J → m < fuel → F_X0_jobsInState_4 fuel B x (thtU s x k) (nI k) D = some (thtU s x J, D) := by
  have h16 := SI_J hS
  intro m
  induction m with
  | zero =>
    intro k fuel hk hf
    obtain ⟨f, rfl⟩ := Nat.exists_eq_add_of_lt hf
    rw [show 0 + f + 1 = f + 1 by omega, F_X0_jobsInState_4, FR_J h, if_pos (nI_le (by omega) (by omega)), show k = J by omega]
  | succ m ih =>
    intro k fuel hk hf
    obtain ⟨f, rfl⟩ := Nat.exists_eq_add_of_lt hf
    have hi := ih (k + 1) (m + 1 + f) (by omega) (by omega)
    rw [thtU_s] at hi
    rw [F_X0_jobsInState_4, FR_J h, if_neg (nI_ge (by omega) (by omega)), if_pos (inRn (by omega) (by omega)), nI_clamp (by omega), FR_j h (show k < J by omega) (show 5 < 12 by omega), nI_1]
    by_cases c : HOW s k = x
    · rw [if_pos (show s (52 + 12 * k + 5) = x from c)]
      rw [if_pos (show (if x = 3 then ¬ latV s k = 0 else HOW s k = x) by rw [if_neg hx]; exact c)] at hi
      exact hi
    · rw [if_neg (show ¬ s (52 + 12 * k + 5) = x from c)]
      rw [if_neg (show ¬ (if x = 3 then ¬ latV s k = 0 else HOW s k = x) by rw [if_neg hx]; exact c)] at hi
      rw [Int32.or_zero] at hi
      exact hi
theorem c_state {D : dT} {B : Nat} {s : Nat → Int32} {P J : Nat} (h : FR D B s P J) (hS : SI s P J) {x : Int32} (hx : ¬ x = 3) : F_X0_jobsInState B x D = some (thtV s J x, D) := c_state_l h hS hx J 0 lim (by omega) (lim_lt (by have := SI_J hS; omega))
theorem c_lates_l {D : dT} {B : Nat} {s : Nat → Int32} {P J : Nat} (h : FR D B s P J) (hS : SI s P J) : ∀ m k fuel, k + m = J → m < fuel → F_X0_lateJobs_4 fuel B (thtU s 3 k) (nI k) D = some (thtU s 3 J, D) := by
  have h16 := SI_J hS
  intro m
  induction m with
  | zero =>
    intro k fuel hk hf
    obtain ⟨f, rfl⟩ := Nat.exists_eq_add_of_lt hf
    rw [show 0 + f + 1 = f + 1 by omega, F_X0_lateJobs_4, FR_J h, if_pos (nI_le (by omega) (by omega)), show k = J by omega]
  | succ m ih =>
    intro k fuel hk hf
    obtain ⟨f, rfl⟩ := Nat.exists_eq_add_of_lt hf
    have hi := ih (k + 1) (m + 1 + f) (by omega) (by omega)
    rw [thtU_s] at hi
    rw [F_X0_lateJobs_4, FR_J h, if_neg (nI_ge (by omega) (by omega)), if_pos (inRn (by omega) (by omega)), nI_clamp (by omega), FR_h h, c_late h hS (show k < J by omega), bd_some, nI_1]
    by_cases c : latV s k = 0
    · rw [if_pos c]
      rw [if_neg (show ¬ (if (3 : Int32) = 3 then ¬ latV s k = 0 else HOW s k = 3) by rw [if_pos rfl]; exact fun z => z c), Int32.or_zero] at hi
      exact hi
    · rw [if_neg c]
      rw [if_pos (show (if (3 : Int32) = 3 then ¬ latV s k = 0 else HOW s k = 3) by rw [if_pos rfl]; exact c)] at hi
      exact hi
theorem c_lates {D : dT} {B : Nat} {s : Nat → Int32} {P J : Nat} (h : FR D B s P J) (hS : SI s P J) : F_X0_lateJobs B D = some (thtV s J 3, D) := c_lates_l h hS J 0 lim (by omega) (lim_lt (by have := SI_J hS; omega))
theorem lat_b (s : Nat → Int32) (j : Nat) : latV s j = 0 ∨ latV s j = 1 := by
  unfold latV
  by_cases a : HOW s j = 2
  · rw [if_pos a]; split
    · exact Or.inl rfl
    · exact Or.inr rfl
  · rw [if_neg a]
    by_cases b : 2 ≤ HOW s j
    · rw [if_pos b]; exact Or.inl rfl
    · rw [if_neg b]; split
      · exact Or.inl rfl
      · exact Or.inr rfl
theorem q_ofJob {D : dT} {P J : Nat} (h : RF D P J) (x w : Int32) : ∃ v, F_X5_ofJob x w D = some (v, D) ∧ F_X6_ofJob x w D = some (v, D) := by
  obtain ⟨hF, hS, h0⟩ := h
  have h10 := SI_P hS
  have h16 := SI_J hS
  unfold F_X5_ofJob F_X6_ofJob
  rw [up2_id h0, r_isJob D hS.1.2.2.2 h16, bd_some, c_hasJob (FR_J hF) h16, bd_some]
  by_cases hx : inR x J
  · rw [if_pos hx, if_neg o10, if_neg o10]
    obtain ⟨j, hj, rfl⟩ := inR_of hx (by omega)
    have hr : inR (nI j) 16 := inRn (by omega) (by omega)
    simp only [if_pos hr, nI_clamp (show j < 2 ^ 31 by omega)]
    rw [r_in, bd_some]
    by_cases hw : inR w 13
    · obtain ⟨q, hq, rfl⟩ := inR_of hw (by omega)
      rw [if_pos (show (0 : Int32) ≤ nI q ∧ nI q ≤ 12 from ⟨nI_pos' (by omega), nI_le (b := 12) (by omega) (by omega)⟩), if_neg o10]
      unfold F_X0_tellOfJob
      by_cases q6 : q = 6
      · subst q6
        have n0 : ¬ nI 6 = 0 := by decide
        rw [if_neg n0, if_neg (show ¬ nI 6 = 1 by decide), if_neg (show ¬ nI 6 = 2 by decide), if_neg (show ¬ nI 6 = 3 by decide), if_neg (show ¬ nI 6 = 4 by decide), if_neg (show ¬ nI 6 = 5 by decide), if_pos (show nI 6 = 6 from rfl), if_pos (show nI 6 = 6 from rfl), r_ofJobs D 7 j 7 rfl rfl (by omega) (by omega), bd_some]
        unfold F_X2_wasBegun
        rw [FR_j hF hj (k := 7) (by omega)]
        by_cases h7 : D 379 (52 + 12 * j + 7) = 0
        · rw [if_pos h7, if_pos h7, bd_some, if_pos rfl, c_loadNow hF hj, bd_some, bd_some, r_loadBy D j rfl (by omega), bd_some]
          exact ⟨_, rfl, rfl⟩
        · rw [if_neg h7, if_neg h7, bd_some, if_neg o10, FR_j hF hj (k := 6) (by omega), bd_some, r_ofJobs D 6 j 6 rfl rfl (by omega) (by omega), bd_some]
          exact ⟨_, rfl, rfl⟩
      · have n6 : ¬ nI q = 6 := fun z => q6 ((nI_eq (b := 6) (by omega) (by omega)).mp z)
        rw [if_neg n6]
        by_cases q12 : q = 12
        · subst q12
          rw [if_neg (show ¬ nI 12 = 0 by decide), if_neg (show ¬ nI 12 = 1 by decide), if_neg (show ¬ nI 12 = 2 by decide), if_neg (show ¬ nI 12 = 3 by decide), if_neg (show ¬ nI 12 = 4 by decide), if_neg (show ¬ nI 12 = 5 by decide), if_neg n6, if_neg (show ¬ nI 12 = 7 by decide), if_neg (show ¬ nI 12 = 8 by decide), if_neg (show ¬ nI 12 = 9 by decide), if_neg (show ¬ nI 12 = 10 by decide), if_neg (show ¬ nI 12 = 11 by decide), if_pos (show nI 12 = 12 from rfl), if_pos (show nI 12 = 12 from rfl), FR_h hF, c_late hF hS hj, bd_some, r_late D j rfl (by omega), bd_some]
          rcases lat_b (D 379) j with e | e
          · rw [e, if_pos rfl, bd_some]; exact ⟨_, rfl, rfl⟩
          · rw [e, if_neg o10, bd_some]; exact ⟨_, rfl, rfl⟩
        · have n12 : ¬ nI q = 12 := fun z => q12 ((nI_eq (b := 12) (by omega) (by omega)).mp z)
          rw [if_neg n12, if_neg n6, if_neg n12, r_ofJobs D (nI q) j q rfl rfl (by omega) (by omega), bd_some]
          have f := fun k (hk : k < 12) => FR_j hF hj (k := k) hk
          rw [f 0 (by omega), f 1 (by omega), f 2 (by omega), f 3 (by omega), f 4 (by omega), f 5 (by omega), f 7 (by omega), f 8 (by omega), f 9 (by omega), f 10 (by omega), f 11 (by omega)]
          have : q = 0 ∨ q = 1 ∨ q = 2 ∨ q = 3 ∨ q = 4 ∨ q = 5 ∨ q = 7 ∨ q = 8 ∨ q = 9 ∨ q = 10 ∨ q = 11 := by omega
          refine ⟨D 379 (52 + 12 * j + q), ?_, rfl⟩
          rcases this with rfl | rfl | rfl | rfl | rfl | rfl | rfl | rfl | rfl | rfl | rfl <;> rfl
    · have hn : ¬ (0 ≤ w ∧ w ≤ 12) := fun z => hw (by
        rw [inR_iff]
        have a := z.1
        have b := z.2
        rw [le_toInt] at a b
        rw [show (0 : Int32).toInt = 0 from rfl] at a
        rw [show (12 : Int32).toInt = 12 from rfl] at b
        omega)
      rw [if_neg hn, if_pos rfl]
      unfold F_X0_tellOfJob
      have ne : ∀ k, k < 13 → ¬ w = nI k := fun k hk z => hw (by rw [z]; exact inRn hk (by omega))
      rw [if_neg (show ¬ w = 0 from ne 0 (by omega)), if_neg (show ¬ w = 1 from ne 1 (by omega)), if_neg (show ¬ w = 2 from ne 2 (by omega)), if_neg (show ¬ w = 3 from ne 3 (by omega)), if_neg (show ¬ w = 4 from ne 4 (by omega)), if_neg (show ¬ w = 5 from ne 5 (by omega)), if_neg (show ¬ w = 6 from ne 6 (by omega)), if_neg (show ¬ w = 7 from ne 7 (by omega)), if_neg (show ¬ w = 8 from ne 8 (by omega)), if_neg (show ¬ w = 9 from ne 9 (by omega)), if_neg (show ¬ w = 10 from ne 10 (by omega)), if_neg (show ¬ w = 11 from ne 11 (by omega)), if_neg (show ¬ w = 12 from ne 12 (by omega)), bd_some]
      exact ⟨_, rfl, rfl⟩
  · rw [if_neg hx, if_pos rfl, if_pos rfl]
    exact ⟨_, rfl, rfl⟩
