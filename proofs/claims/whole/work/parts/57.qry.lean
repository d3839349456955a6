/-! what only asks -/
theorem o10 : ¬ (1 : Int32) = 0 := by decide
def RF (D : dT) (P J : Nat) : Prop := FR D 19 (D 379) P J ∧ SI (D 379) P J ∧ D 378 0 = 0
theorem up2_id {D : dT} {o k : Nat} {v : Int32} (h : D o k = v) : up2 D o k v = D := by
  funext i j
  by_cases e : i = o ∧ j = k
  · obtain ⟨rfl, rfl⟩ := e
    rw [up2_self, h]
  · rw [up2_ne _ _ e]
theorem q_why {D : dT} {P J : Nat} (h : RF D P J) (x c k : Int32) : ∃ v, F_X5_why x c k D = some (v, D) ∧ F_X6_why x c k D = some (v, D) := by
  obtain ⟨hF, hS, h0⟩ := h
  have h10 := SI_P hS
  have h16 := SI_J hS
  unfold F_X5_why F_X6_why
  rw [up2_id h0, r_isJob D hS.1.2.2.2 h16, bd_some]
  by_cases hx : inR x J
  · rw [if_pos hx, if_neg o10, r_isStraps, bd_some]
    by_cases hk : k = -6 ∨ inR k 3
    · obtain ⟨j, hj, rfl⟩ := inR_of hx (by omega)
      rw [if_pos hk, if_neg o10, r_reason D hS.1.2.2.1 h10 hS.1.2.2.2 h16 c j rfl (by omega) hk, bd_some, c_whyNot hF hS hj c hk, bd_some]
      exact ⟨_, rfl, rfl⟩
    · rw [if_neg hk, if_pos rfl, c_whyNot2 hF h16 hx c hk, bd_some]
      exact ⟨_, rfl, rfl⟩
  · rw [if_neg hx, if_pos rfl, c_whyNot1 hF h16 hx, bd_some]
    exact ⟨_, rfl, rfl⟩
theorem q_crew {D : dT} {P J : Nat} (h : RF D P J) (x k : Int32) : ∃ v, F_X5_crew x k D = some (v, D) ∧ F_X6_crew x k D = some (v, D) := by
  obtain ⟨hF, hS, h0⟩ := h
  have h10 := SI_P hS
  have h16 := SI_J hS
  obtain ⟨hd, _, hd6, ehd⟩ := hS.2.1.2.2.2.1
  unfold F_X5_crew F_X6_crew
  rw [up2_id h0, r_isJob D hS.1.2.2.2 h16, bd_some, c_hasJob (FR_J hF) h16, bd_some]
  by_cases hx : inR x J
  · rw [if_pos hx, if_neg o10, if_neg o10, r_isStraps, bd_some, c_isKN, bd_some]
    by_cases hk : k = -6 ∨ inR k 3
    · obtain ⟨j, hj, rfl⟩ := inR_of hx (by omega)
      have hr : inR (nI j) 16 := inRn (by omega) (by omega)
      rw [if_pos hk, if_neg o10, if_neg o10, r_ofJobs D 5 j 5 rfl rfl (by omega) (by omega), bd_some]
      simp only [if_pos hr, nI_clamp (show j < 2 ^ 31 by omega)]
      rw [FR_j hF hj (k := 5) (by omega)]
      by_cases h5 : D 379 (52 + 12 * j + 5) = 0
      · rw [if_pos h5, if_pos h5, c_crew hF hS hj hk, bd_some, r_crew D hS.1.2.2.1 h10 hS.1.2.2.2 h16 ehd hd6 j rfl (by omega) hk (SI_lPos hS j hj k hk), bd_some]
        exact ⟨_, rfl, rfl⟩
      · rw [if_neg h5, if_neg h5]
        exact ⟨_, rfl, rfl⟩
    · rw [if_neg hk, if_pos rfl, if_pos rfl]
      exact ⟨_, rfl, rfl⟩
  · rw [if_neg hx, if_pos rfl, if_pos rfl]
    exact ⟨_, rfl, rfl⟩
theorem q_best {D : dT} {P J : Nat} (h : RF D P J) (x : Int32) : ∃ v, F_X5_bestStraps x D = some (v, D) ∧ F_X6_bestStraps x D = some (v, D) := by
  obtain ⟨hF, hS, h0⟩ := h
  have h10 := SI_P hS
  have h16 := SI_J hS
  obtain ⟨hd, _, hd6, ehd⟩ := hS.2.1.2.2.2.1
  unfold F_X5_bestStraps F_X6_bestStraps
  rw [up2_id h0, r_isJob D hS.1.2.2.2 h16, bd_some, c_hasJob (FR_J hF) h16, bd_some]
  by_cases hx : inR x J
  · rw [if_pos hx, if_neg o10, if_neg o10]
    obtain ⟨j, hj, rfl⟩ := inR_of hx (by omega)
    have hr : inR (nI j) 16 := inRn (by omega) (by omega)
    rw [r_ofJobs D 5 j 5 rfl rfl (by omega) (by omega), bd_some]
    simp only [if_pos hr, nI_clamp (show j < 2 ^ 31 by omega)]
    rw [FR_j hF hj (k := 5) (by omega)]
    by_cases h5 : D 379 (52 + 12 * j + 5) = 0
    · rw [if_pos h5, if_pos h5, c_few hF hS hj, bd_some, r_stp D hS.1.2.2.1 h10 hS.1.2.2.2 h16 ehd hd6 j rfl (by omega) (SI_lPos hS j hj), bd_some]
      exact ⟨_, rfl, rfl⟩
    · rw [if_neg h5, if_neg h5]
      exact ⟨_, rfl, rfl⟩
  · rw [if_neg hx, if_pos rfl, if_pos rfl]
    exact ⟨_, rfl, rfl⟩
theorem q_waiting {D : dT} {P J : Nat} (h : RF D P J) (x : Int32) : ∃ v, F_X5_waiting x D = some (v, D) ∧ F_X6_waiting x D = some (v, D) := by
  obtain ⟨hF, hS, h0⟩ := h
  have h16 := SI_J hS
  unfold F_X5_waiting F_X6_waiting F_X6_waiting_20
  rw [up2_id h0, c_waitAt hF hS, bd_some]
  unfold waitV
  by_cases hx : x < 0
  · rw [if_pos hx, if_neg (Int32.not_le.mpr hx), if_pos rfl]
    exact ⟨_, rfl, rfl⟩
  · rw [if_neg hx, if_pos (Int32.not_lt.mp hx), r_wt D hS.1.2.2.2 h16, bd_some]
    by_cases h6 : wtV (D 379) J x 0 = -6
    · rw [if_pos h6, if_pos h6]
      exact ⟨_, rfl, rfl⟩
    · rw [if_neg h6, if_neg h6]
      exact ⟨_, rfl, rfl⟩
theorem in_2 {x : Int32} : (0 ≤ x ∧ x ≤ 2) ↔ inR x 3 := by
  rw [inR_iff, le_toInt, le_toInt, show (0 : Int32).toInt = 0 from rfl, show (2 : Int32).toInt = 2 from rfl]
  omega
theorem q_straps {D : dT} {P J : Nat} (h : RF D P J) (x w : Int32) : ∃ v, F_X5_straps x w D = some (v, D) ∧ F_X6_straps x w D = some (v, D) := by
  obtain ⟨hF, hS, h0⟩ := h
  have h16 := SI_J hS
  unfold F_X5_straps F_X6_straps
  rw [up2_id h0, c_isKind, bd_some, r_in, bd_some]
  by_cases hx : inR x 3
  · rw [if_pos hx, if_neg o10, if_pos (in_2.mpr hx), if_neg o10, r_in, bd_some]
    obtain ⟨k, hk, rfl⟩ := inR_of hx (by omega)
    by_cases w0 : w = 0
    · subst w0
      rw [if_pos rfl, if_pos hx, if_pos (show (0 : Int32) ≤ 0 ∧ (0 : Int32) ≤ 1 by decide), if_neg o10, if_pos (show (0 : Int32) = 0 from rfl), show (9 : Int32) + nI k = nI (9 + k) from nI_add 9 k, if_pos (inRn (by omega) (by omega)), nI_clamp (by omega), nI_clamp (by omega), FR_own hF k hk]
      exact ⟨_, rfl, rfl⟩
    · rw [if_neg w0]
      by_cases w1 : w = 1
      · subst w1
        rw [if_pos rfl, if_pos hx, if_pos (show (0 : Int32) ≤ 1 ∧ (1 : Int32) ≤ 1 by decide), if_neg o10, if_neg o10, r_free D hS.1.2.2.2 h16 k rfl hk, bd_some, nI_clamp (by omega), FR_fre hF k hk]
        exact ⟨_, rfl, rfl⟩
      · rw [if_neg w1, if_neg (show ¬ (0 ≤ w ∧ w ≤ 1) from fun z => by
          have a := z.1
          have b := z.2
          rw [le_toInt] at a b
          rw [show (0 : Int32).toInt = 0 from rfl] at a
          rw [show (1 : Int32).toInt = 1 from rfl] at b
          by_cases e : w.toInt = 0
          · exact w0 (Int32.toInt_inj.mp e)
          · exact w1 (Int32.toInt_inj.mp (show w.toInt = 1 by omega))), if_pos rfl]
        exact ⟨_, rfl, rfl⟩
  · rw [if_neg hx, if_pos rfl, if_neg (fun z => hx (in_2.mp z)), if_pos rfl]
    exact ⟨_, rfl, rfl⟩
theorem q_of {D : dT} {P J : Nat} (h : RF D P J) (x w : Int32) : ∃ v, F_X5_of x w D = some (v, D) ∧ F_X6_of x w D = some (v, D) := by
  obtain ⟨hF, hS, h0⟩ := h
  have h10 := SI_P hS
  have h16 := SI_J hS
  unfold F_X5_of F_X6_of
  rw [up2_id h0, c_hasPerson (FR_P hF) h10, bd_some, if_pos c5, t5, hS.1.2.2.1, r_in0 x (by omega), bd_some]
  by_cases hx : inR x P
  · rw [if_pos hx, if_neg o10, if_neg o10]
    obtain ⟨p, hp, rfl⟩ := inR_of hx (by omega)
    have hr : inR (nI p) 10 := inRn (by omega) (by omega)
    simp only [if_pos hr, nI_clamp (show p < 2 ^ 31 by omega)]
    rw [if_pos (show inR (1 : Int32) 4 by decide)]
    unfold F_X4_tell F_X4_hoursOfRest
    by_cases w0 : w = 0
    · subst w0
      rw [if_pos rfl, if_pos rfl, bd_some, r_ofPerson D 0 p 0 rfl rfl (by omega) (by omega), bd_some, FR_p0 hF hp]
      exact ⟨_, rfl, rfl⟩
    rw [if_neg w0, if_neg w0]
    by_cases w1 : w = 1
    · subst w1
      rw [if_pos rfl, if_pos rfl, bd_some, r_ofPerson D 1 p 1 rfl rfl (by omega) (by omega), bd_some, FR_p1 hF hp]
      exact ⟨_, rfl, rfl⟩
    rw [if_neg w1, if_neg w1]
    by_cases w2 : w = 2
    · subst w2
      rw [if_pos rfl, if_pos rfl, bd_some, r_jobOf D hS.1.2.2.2 h16 p rfl (by omega), bd_some, FR_p2 hF hp]
      exact ⟨_, rfl, rfl⟩
    rw [if_neg w2, if_neg w2]
    by_cases w3 : w = 3
    · subst w3
      rw [if_pos rfl, if_pos rfl, bd_some, r_ofPerson D _ p 2 rfl (by decide) (by omega) (by omega), bd_some, FR_p3 hF hp]
      exact ⟨_, rfl, rfl⟩
    rw [if_neg w3, if_neg w3]
    by_cases w4 : w = 4
    · subst w4
      rw [if_pos rfl, if_pos rfl, bd_some, r_ofPerson D _ p 3 rfl (by decide) (by omega) (by omega), bd_some, FR_p4 hF hp]
      exact ⟨_, rfl, rfl⟩
    rw [if_neg w4, if_neg w4]
    by_cases w5 : w = 5
    · subst w5
      obtain ⟨g, hg1, hg, eg⟩ := hS.2.1.2.1
      rw [if_pos rfl, if_pos rfl, r_ofPerson D 0 p 0 rfl rfl (by omega) (by omega), bd_some, r_ofPerson D 1 p 1 rfl rfl (by omega) (by omega), bd_some, if_pos c1, if_pos c1, t1, FR_set hF 1 (by omega), FR_p0 hF hp, FR_p1 hF hp]
      have hm : (if (1 : Int32) < D 379 1 then D 379 1 else 1) = D 379 1 := by
        by_cases e : g = 1
        · subst e; rw [eg]; decide
        · rw [eg, if_pos (show (1 : Int32) < nI g from nI_lt (a := 1) (by omega) (by omega))]
      rw [hm, if_pos (show ¬ D 379 1 = 0 by rw [eg]; exact nI_ne0 (by omega) (by omega)), if_pos (show ¬ D 379 1 = 0 by rw [eg]; exact nI_ne0 (by omega) (by omega)), bd_some, bd_some]
      exact ⟨_, rfl, rfl⟩
    rw [if_neg w5, if_neg w5, bd_some]
    exact ⟨_, rfl, rfl⟩
  · rw [if_neg hx, if_pos rfl, if_pos rfl]
    exact ⟨_, rfl, rfl⟩
