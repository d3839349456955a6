theorem q_count {D : dT} {P J : Nat} (h : RF D P J) (hl : D 311 4 = D 378 8) (hu : D 85 2 = D 378 4) (x : Int32) : ∃ v, F_X5_count x D = some (v, D) ∧ F_X6_count x D = some (v, D) := by
  obtain ⟨hF, hS, h0⟩ := h
  have h16 := SI_J hS
  unfold F_X5_count F_X6_count F_X0_tellCount
  rw [up2_id h0]
  by_cases a14 : x = 14
  · subst a14
    refine ⟨D 311 4, rfl, ?_⟩
    rw [hl]; rfl
  by_cases a15 : x = 15
  · subst a15
    refine ⟨D 85 2, rfl, ?_⟩
    rw [hu]; rfl
  rw [if_neg a14, if_neg a15]
  by_cases a0 : x = 0
  · subst a0
    refine ⟨D 379 4, ?_, rfl⟩
    rw [if_pos (show (0 : Int32) = 0 from rfl), FR_h hF]; rfl
  rw [if_neg a0, if_neg a0]
  by_cases a1 : x = 1
  · subst a1
    refine ⟨D 379 5, ?_, rfl⟩
    rw [if_pos (show (1 : Int32) = 1 from rfl), FR_P hF, hS.1.2.2.1]; rfl
  rw [if_neg a1, if_neg a1]
  by_cases a2 : x = 2
  · subst a2
    rw [if_pos (show (2 : Int32) = 2 from rfl), if_pos (show (2 : Int32) = 2 from rfl), c_busy hF hS, bd_some, bd_some, r_busy D hS.1.2.2.2 h16, bd_some]
    exact ⟨_, rfl, rfl⟩
  rw [if_neg a2, if_neg a2]
  by_cases a3 : x = 3
  · subst a3
    refine ⟨D 379 6, ?_, rfl⟩
    rw [if_pos (show (3 : Int32) = 3 from rfl), FR_J hF, hS.1.2.2.2]; rfl
  rw [if_neg a3, if_neg a3]
  by_cases a4 : x = 4
  · subst a4
    rw [if_pos (show (4 : Int32) = 4 from rfl), if_pos (show (4 : Int32) = 4 from rfl), c_state hF hS (by decide), bd_some, bd_some, r_tht D hS.1.2.2.2 h16, bd_some]
    exact ⟨_, rfl, rfl⟩
  rw [if_neg a4, if_neg a4]
  by_cases a5 : x = 5
  · subst a5
    rw [if_pos (show (5 : Int32) = 5 from rfl), if_pos (show (5 : Int32) = 5 from rfl), c_state hF hS (by decide), bd_some, bd_some, r_tht D hS.1.2.2.2 h16, bd_some]
    exact ⟨_, rfl, rfl⟩
  rw [if_neg a5, if_neg a5]
  by_cases a6 : x = 6
  · subst a6
    rw [if_pos (show (6 : Int32) = 6 from rfl), if_pos (show (6 : Int32) = 6 from rfl), c_state hF hS (by decide), bd_some, bd_some, r_tht D hS.1.2.2.2 h16, bd_some]
    exact ⟨_, rfl, rfl⟩
  rw [if_neg a6, if_neg a6]
  by_cases a7 : x = 7
  · subst a7
    rw [if_pos (show (7 : Int32) = 7 from rfl), if_pos (show (7 : Int32) = 7 from rfl), c_lates hF hS, bd_some, bd_some, r_tht D hS.1.2.2.2 h16, bd_some]
    exact ⟨_, rfl, rfl⟩
  rw [if_neg a7, if_neg a7]
  by_cases a8 : x = 8
  · subst a8
    refine ⟨D 379 7, ?_, rfl⟩
    rw [if_pos (show (8 : Int32) = 8 from rfl), FR_c hF]; rfl
  rw [if_neg a8, if_neg a8]
  by_cases a9 : x = 9
  · subst a9
    refine ⟨D 379 8, ?_, rfl⟩
    rw [if_pos (show (9 : Int32) = 9 from rfl), FR_p hF]; rfl
  rw [if_neg a9, if_neg a9]
  by_cases a10 : x = 10
  · subst a10
    refine ⟨D 379 0, ?_, rfl⟩
    rw [← FR_set hF 0 (by omega)]; rfl
  rw [if_neg a10, if_neg a10]
  by_cases a11 : x = 11
  · subst a11
    refine ⟨D 379 1, ?_, rfl⟩
    rw [← FR_set hF 1 (by omega)]; rfl
  rw [if_neg a11, if_neg a11]
  by_cases a12 : x = 12
  · subst a12
    refine ⟨D 379 2, ?_, rfl⟩
    rw [← FR_set hF 2 (by omega)]; rfl
  rw [if_neg a12, if_neg a12]
  by_cases a13 : x = 13
  · subst a13
    refine ⟨D 379 3, ?_, rfl⟩
    rw [← FR_set hF 3 (by omega)]; rfl
  rw [if_neg a13, if_neg a13, if_neg a14, if_neg a15]
  exact ⟨_, rfl, rfl⟩
/-! the reference's orders -/
theorem r_refPer (D : dT) {P : Nat} (hP : D 379 5 = nI P) (h10 : P ≤ 10) (x : Int32) : F_X6_refusesPerson x D = some (if 10 ≤ x ∧ x ≤ 150 then (if P = 10 then -4 else 0) else -2, D) := by
  unfold F_X6_refusesPerson
  rw [r_in, bd_some]
  by_cases hx : 10 ≤ x ∧ x ≤ 150
  · rw [if_pos hx, if_neg o10, if_pos hx, if_pos c5, t5, hP]
    by_cases e : P = 10
    · subst e; rfl
    · rw [if_neg (show ¬ nI P = 10 from fun z => e ((nI_eq (b := 10) (by omega) (by omega)).mp z)), if_neg e]
  · rw [if_neg hx, if_pos rfl, if_neg hx]
theorem r_addPer (D : dT) {P : Nat} (hP : D 379 5 = nI P) (h10 : P < 10) (x : Int32) : F_X6_addsPerson x D = some (nI P, ws D (perV (D 379) P x)) := by
  unfold F_X6_addsPerson
  simp only [if_pos c5, t5]
  rw [r_layPerson D 0 P 0 hP rfl h10 (by omega), bd_some, r_layPerson _ 1 P 1 hP rfl h10 (by omega), bd_some, ws_up, ws_up, ws_up, ws_ws, ws_ws, ws_s, ws_s, hP]
  unfold perV
  rw [upd_n _ _ (show 5 ≠ 12 + 4 * P + 1 by omega), Nat.add_zero, upd_n _ _ (show 5 ≠ 12 + 4 * P by omega), hP, nI_1]
theorem r_refJob (D : dT) {J : Nat} (hJ : D 379 6 = nI J) (h16 : J ≤ 16) (w f h p d : Int32) : (jokV w f h p d → F_X6_refusesJob w f h p d D = some (if J = 16 then -4 else 0, D)) ∧ (¬ jokV w f h p d → F_X6_refusesJob w f h p d D = some (-2, D)) := by
  unfold F_X6_refusesJob F_X6_refusesJob_46 F_X6_refusesJob_47 jokV
  constructor
  · intro hx
    rw [r_in, if_pos hx.1, bd_some, if_neg o10, r_in, if_pos hx.2.1, bd_some, if_neg o10, r_in, if_pos hx.2.2.1, bd_some, if_neg o10, r_in, if_pos hx.2.2.2.1, bd_some, if_neg o10, if_neg o10, r_in, if_pos hx.2.2.2.2, bd_some, if_neg o10, if_pos c6, t6, hJ]
    by_cases e : J = 16
    · subst e; rfl
    · rw [if_neg (show ¬ nI J = 16 from fun z => e ((nI_eq (b := 16) (by omega) (by omega)).mp z)), if_neg e]
  · intro hx
    rw [r_in]
    by_cases h1 : 50 ≤ w ∧ w ≤ 600
    · rw [if_pos h1, bd_some, if_neg o10, r_in]
      by_cases h2 : 0 ≤ f ∧ f ≤ 9
      · rw [if_pos h2, bd_some, if_neg o10, r_in]
        by_cases h3 : 1 ≤ h ∧ h ≤ 9
        · rw [if_pos h3, bd_some, if_neg o10, r_in]
          by_cases h4 : 0 ≤ p ∧ p ≤ 3
          · rw [if_pos h4, bd_some, if_neg o10, if_neg o10, r_in, if_neg (fun z => hx ⟨h1, h2, h3, h4, z⟩), bd_some, if_pos rfl]
          · rw [if_neg h4, bd_some, if_pos rfl, if_pos rfl]
        · rw [if_neg h3, bd_some, if_pos rfl, if_pos rfl]
      · rw [if_neg h2, bd_some, if_pos rfl, if_pos rfl]
    · rw [if_neg h1, bd_some, if_pos rfl, if_pos rfl]
theorem r_addJob (D : dT) {J : Nat} (hJ : D 379 6 = nI J) (h16 : J < 16) (w f h p d : Int32) : F_X6_addsJob w f h p d D = some (nI J, ws D (adjV (D 379) J w f h p d)) := by
  unfold F_X6_addsJob
  simp only [if_pos c6, t6]
  rw [r_lay D 0 J 0 hJ rfl h16 (by omega), bd_some, r_lay _ 1 J 1 hJ rfl h16 (by omega), bd_some, r_lay _ 2 J 2 hJ rfl h16 (by omega), bd_some, r_lay _ 3 J 3 hJ rfl h16 (by omega), bd_some, r_lay _ 4 J 4 hJ rfl h16 (by omega), bd_some, r_lay _ 8 J 8 hJ rfl h16 (by omega), bd_some, r_lay _ 11 J 11 hJ rfl h16 (by omega), bd_some, hJ]
  simp only [ws_up, ws_ws, ws_s]
  unfold adjV
  rw [upd_n _ _ (show 6 ≠ 52 + 12 * J + 11 by omega), upd_n _ _ (show 6 ≠ 52 + 12 * J + 8 by omega), upd_n _ _ (show 6 ≠ 52 + 12 * J + 4 by omega), upd_n _ _ (show 6 ≠ 52 + 12 * J + 3 by omega), upd_n _ _ (show 6 ≠ 52 + 12 * J + 2 by omega), upd_n _ _ (show 6 ≠ 52 + 12 * J + 1 by omega), Nat.add_zero, upd_n _ _ (show 6 ≠ 52 + 12 * J by omega), hJ, nI_1]
theorem r_delays (D : dT) (j : Nat) (hj : j < 16) (x : Int32) : F_X6_delays (nI j) x D = some (D 379 (52 + 12 * j + 9) + x, ws D (delV (D 379) j x)) := by
  unfold F_X6_delays
  rw [r_ofJobs D 9 j 9 rfl rfl hj (by omega), bd_some, r_lay D 9 j 9 rfl rfl hj (by omega), bd_some, r_ofJobs _ 9 j 9 rfl rfl hj (by omega), bd_some, up2_self, ws_up]
  rfl
theorem r_callsOff (D : dT) (j : Nat) (hj : j < 16) : F_X6_callsOff (nI j) D = some (CRW (D 379) j, ws D (offV (D 379) j)) := by
  unfold F_X6_callsOff
  rw [r_ofJobs D 7 j 7 rfl rfl hj (by omega), bd_some, r_lay D 5 j 5 rfl rfl hj (by omega), bd_some, ws_up]
  rfl
theorem r_refHours (D : dT) (x : Int32) : F_X6_refusesHours x D = some (if 1 ≤ x ∧ x ≤ 99 then (if D 379 4 + x ≤ 9999 then 0 else -5) else -2, D) := by
  unfold F_X6_refusesHours
  rw [r_in, bd_some]
  by_cases hx : 1 ≤ x ∧ x ≤ 99
  · rw [if_pos hx, if_neg o10, if_pos hx, if_pos c4, t4]
    split <;> rfl
  · rw [if_neg hx, if_pos rfl, if_neg hx]
theorem r_refDel (D : dT) {J : Nat} (hJ : D 379 6 = nI J) (h16 : J ≤ 16) (x y : Int32) : F_X6_refusesDelay x y D = some (if inR x J then (if 1 ≤ y ∧ y ≤ 20 then (if HOW (D 379) x.toNatClampNeg = 1 ∧ D 379 (52 + 12 * x.toNatClampNeg + 9) + y ≤ 60 then 0 else -5) else -2) else -1, D) := by
  unfold F_X6_refusesDelay
  rw [r_isJob D hJ h16, bd_some]
  by_cases hx : inR x J
  · rw [if_pos hx, if_neg o10, r_in, bd_some, if_pos hx]
    obtain ⟨j, hj, rfl⟩ := inR_of hx (by omega)
    rw [nI_clamp (by omega)]
    by_cases hy : 1 ≤ y ∧ y ≤ 20
    · rw [if_pos hy, if_neg o10, r_ofJobs D 5 j 5 rfl rfl (by omega) (by omega), bd_some, if_pos hy]
      by_cases h1 : HOW (D 379) j = 1
      · rw [if_pos (show D 379 (52 + 12 * j + 5) = 1 from h1), r_ofJobs D 9 j 9 rfl rfl (by omega) (by omega), bd_some]
        by_cases h60 : D 379 (52 + 12 * j + 9) + y ≤ 60
        · rw [if_pos h60, if_pos ⟨h1, h60⟩]
        · rw [if_neg h60, if_neg (fun z => h60 z.2)]
      · rw [if_neg (show ¬ D 379 (52 + 12 * j + 5) = 1 from h1), if_neg (fun z => h1 z.1)]
    · rw [if_neg hy, if_pos rfl, if_neg hy]
  · rw [if_neg hx, if_pos rfl, if_neg hx]
theorem r_refCall (D : dT) {J : Nat} (hJ : D 379 6 = nI J) (h16 : J ≤ 16) (x : Int32) : F_X6_refusesCall x D = some (if inR x J then (if HOW (D 379) x.toNatClampNeg ≤ 1 then 0 else -5) else -1, D) := by
  unfold F_X6_refusesCall
  rw [r_isJob D hJ h16, bd_some]
  by_cases hx : inR x J
  · rw [if_pos hx, if_neg o10, if_pos hx]
    obtain ⟨j, hj, rfl⟩ := inR_of hx (by omega)
    rw [r_ofJobs D 5 j 5 rfl rfl (by omega) (by omega), bd_some, nI_clamp (by omega)]
    split <;> rfl
  · rw [if_neg hx, if_pos rfl, if_neg hx]
theorem r_refBeg (D : dT) {P J : Nat} (hP : D 379 5 = nI P) (h10 : P ≤ 10) (hJ : D 379 6 = nI J) (h16 : J ≤ 16) (x c k : Int32) : F_X6_refusesBegin x c k D = some (if inR x J then (if k = -6 ∨ inR k 3 then (if reasonV (D 379) P J x.toNatClampNeg c k ≤ 0 then 0 else -5) else -2) else -1, D) := by
  unfold F_X6_refusesBegin
  rw [r_isJob D hJ h16, bd_some]
  by_cases hx : inR x J
  · rw [if_pos hx, if_neg o10, r_isStraps, bd_some, if_pos hx]
    by_cases hk : k = -6 ∨ inR k 3
    · obtain ⟨j, hj, rfl⟩ := inR_of hx (by omega)
      rw [if_pos hk, if_neg o10, r_reason D hP h10 hJ h16 c j rfl (by omega) hk, bd_some, nI_clamp (by omega), if_pos hk]
      split <;> rfl
    · rw [if_neg hk, if_pos rfl, if_neg hk]
  · rw [if_neg hx, if_pos rfl, if_neg hx]
/-! orders in step: firm 19 and row 379 -/
def lock (s : Nat → Int32) (D : dT) (c : Option (Int32 × dT)) (r a : dT → Option (Int32 × dT)) : Prop :=
  (∃ e, e < 0 ∧ c = some (e, D) ∧ ∀ E : dT, E 379 = s → r E = some (e, E)) ∨ ∃ v s' D' P' J', ¬ v < 0 ∧ c = some (v, D') ∧ (∀ E : dT, E 379 = s → r E = some (0, E)) ∧ (∀ E : dT, E 379 = s → a E = some (v, ws E s')) ∧ FR D' 19 s' P' J' ∧ SI s' P' J' ∧ off 19 D D'
theorem k_per {D : dT} {s : Nat → Int32} {P J : Nat} (hF : FR D 19 s P J) (hS : SI s P J) (x : Int32) : lock s D (F_X0_addPerson 19 x D) (F_X6_refusesPerson x) (F_X6_addsPerson x) := by
  have h10 := SI_P hS
  have hP := hS.1.2.2.1
  by_cases hx : 10 ≤ x ∧ x ≤ 150
  · by_cases e : P = 10
    · refine Or.inl ⟨-4, by decide, c_per2 hF hx e, fun E hE => ?_⟩
      rw [r_refPer E (by rw [hE]; exact hP) h10, if_pos hx, if_pos e]
    · obtain ⟨D', a, b, c⟩ := c_per0 hF hS hx (by omega)
      refine Or.inr ⟨_, _, D', _, _, nI_pos (by omega), a, fun E hE => ?_, fun E hE => ?_, b, SI_per hS hx (by omega), c⟩
      · rw [r_refPer E (by rw [hE]; exact hP) h10, if_pos hx, if_neg e]
      · rw [r_addPer E (by rw [hE]; exact hP) (by omega) x, hE]
  · refine Or.inl ⟨-2, by decide, c_per1 D 19 hx, fun E hE => ?_⟩
    rw [r_refPer E (by rw [hE]; exact hP) h10, if_neg hx]
theorem k_job {D : dT} {s : Nat → Int32} {P J : Nat} (hF : FR D 19 s P J) (hS : SI s P J) (w f h p d : Int32) : lock s D (F_X0_addJob 19 w f h p d D) (F_X6_refusesJob w f h p d) (F_X6_addsJob w f h p d) := by
  have h16 := SI_J hS
  have hJ := hS.1.2.2.2
  have r12 := fun (E : dT) (hE : E 379 = s) => r_refJob E (show E 379 6 = nI J by rw [hE]; exact hJ) h16 w f h p d
  by_cases hx : jokV w f h p d
  · by_cases e : J = 16
    · refine Or.inl ⟨-4, by decide, c_job2 hF hx e, fun E hE => ?_⟩
      rw [(r12 E hE).1 hx, if_pos e]
    · obtain ⟨D', a, b, c⟩ := c_job0 hF hS hx (by omega)
      refine Or.inr ⟨_, _, D', _, _, nI_pos (by omega), a, fun E hE => ?_, fun E hE => ?_, b, SI_job hS hx (by omega), c⟩
      · rw [(r12 E hE).1 hx, if_neg e]
      · rw [r_addJob E (by rw [hE]; exact hJ) (by omega) w f h p d, hE]
  · exact Or.inl ⟨-2, by decide, c_job1 D 19 hx, fun E hE => (r12 E hE).2 hx⟩
theorem k_del {D : dT} {s : Nat → Int32} {P J : Nat} (hF : FR D 19 s P J) (hS : SI s P J) (x y : Int32) : lock s D (F_X0_delayJob 19 x y D) (F_X6_refusesDelay x y) (F_X6_delays x y) := by
  have h16 := SI_J hS
  have hJ := hS.1.2.2.2
  have rr := fun (E : dT) (hE : E 379 = s) => r_refDel E (show E 379 6 = nI J by rw [hE]; exact hJ) h16 x y
  by_cases hx : inR x J
  · obtain ⟨j, hj, rfl⟩ := inR_of hx (by omega)
    simp only [if_pos hx, nI_clamp (show j < 2 ^ 31 by omega)] at rr
    by_cases hy : 1 ≤ y ∧ y ≤ 20
    · simp only [if_pos hy] at rr
      by_cases h1 : HOW s j = 1 ∧ s (52 + 12 * j + 9) + y ≤ 60
      · obtain ⟨D', a, b, c⟩ := c_del0 hF hS hj hy h1.1 h1.2
        obtain ⟨dl, _, hdl, edl⟩ := (hS.2.2.2.1 j hj).1.2.2.2.2.2
        obtain ⟨m, m1, m2, em⟩ := rg_of (a := 1) (b := 20) (by omega) hy.1 hy.2 (by omega)
        refine Or.inr ⟨_, _, D', _, _, ?_, a, fun E hE => ?_, fun E hE => ?_, b, SI_del hS hj hy h1.1 h1.2, c⟩
        · rw [edl, em, nI_add]
          exact nI_pos (by omega)
        · rw [rr E hE, hE, if_pos h1]
        · rw [r_delays E j (by omega) _, hE]
      · refine Or.inl ⟨-5, by decide, c_del3 hF hS hj hy h1, fun E hE => ?_⟩
        rw [rr E hE, hE, if_neg h1]
    · simp only [if_neg hy] at rr
      exact Or.inl ⟨-2, by decide, c_del2 hF h16 hx hy, rr⟩
  · simp only [if_neg hx] at rr
    exact Or.inl ⟨-1, by decide, c_del1 hF h16 hx, rr⟩
