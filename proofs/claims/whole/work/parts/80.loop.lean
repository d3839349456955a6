/-! the law's loop: every call is answered alike -/
theorem lw_go {f g K : dT → Option (Int32 × dT)} {D : dT} (h : both D f g) (hK : ∀ E, RR E → ∃ D', K E = some (1, D')) :
    ∃ D', bd (f D) (fun (r : Int32) (D5 : dT) => bd (g D5) (fun (r8 : Int32) (D9 : dT) => if r = r8 then K D9 else some ((0 : Int32), D9))) = some (1, D') := by
  obtain ⟨v, D1, D2, a, b, c⟩ := h
  obtain ⟨D', e⟩ := hK D2 c
  refine ⟨D', ?_⟩
  rw [a, bd_some, b, bd_some, if_pos rfl, e]
set_option maxHeartbeats 4000000 in
theorem lw_18 {sL : Nat} (hL : sL ≤ 3072) (sX : Nat → Int32) : ∀ m fu i (D : dT), sL < i + 6 * m + 6 → i ≤ sL + 5 → m < fu → RR D → ∃ D', F_L_law_18 fu sL sX (nI i) D = some (1, D') := by
  have hcond : ∀ i, i ≤ 4000 → ((Int32.ofNat sL) - (6 : Int32) < nI i ↔ sL < i + 6) := by
    intro i hi
    have e : ((Int32.ofNat sL) - (6 : Int32)).toInt = (sL : Int) - 6 := pk_sub_toInt (a := sL) (b := 6) (by omega) (by omega)
    rw [lt_toInt, e, nI_toInt (by omega)]
    omega
  intro m
  induction m with
  | zero =>
    intro fu i D h1 h2 h3 hR
    obtain ⟨fu, rfl⟩ : ∃ f, fu = f + 1 := ⟨fu - 1, by omega⟩
    refine ⟨D, ?_⟩
    unfold F_L_law_18
    rw [if_pos ((hcond i (by omega)).mpr (by omega))]
  | succ m ih =>
    intro fu i D h1 h2 h3 hR
    obtain ⟨fu, rfl⟩ : ∃ f, fu = f + 1 := ⟨fu - 1, by omega⟩
    by_cases hc : sL < i + 6
    · refine ⟨D, ?_⟩
      unfold F_L_law_18
      rw [if_pos ((hcond i (by omega)).mpr hc)]
    · have hn := ih fu (i + 6)
      have nx : ∀ E, RR E → ∃ D', F_L_law_18 fu sL sX (nI i + 6) E = some (1, D') := fun E hE => by
        rw [show nI i + (6 : Int32) = nI (i + 6) from nI_add i 6]
        exact hn E (by omega) (by omega) (by omega) hE
      have r0 : inR (nI i) sL := inRn (by omega) (by omega)
      have rr : ∀ k, k < 6 → inR (nI i + nI k) sL := fun k hk => by
        rw [nI_add]; exact inRn (by omega) (by omega)
      have r1 : inR (nI i + 1) sL := rr 1 (by omega)
      have r2 : inR (nI i + 2) sL := rr 2 (by omega)
      have r3 : inR (nI i + 3) sL := rr 3 (by omega)
      have r4 : inR (nI i + 4) sL := rr 4 (by omega)
      have r5 : inR (nI i + 5) sL := rr 5 (by omega)
      unfold F_L_law_18
      rw [if_neg (fun z => hc ((hcond i (by omega)).mp z)), if_pos r0]
      generalize (sX (nI i).toNatClampNeg) &&& (31 : Int32) = w
      by_cases c : w = 0
      · rw [if_pos c]
        simp only [if_pos r1, if_pos r2]
        exact lw_go (b_set hR _ _) nx
      rw [if_neg c]
      clear c
      by_cases c : w = 1
      · rw [if_pos c]
        simp only [if_pos r1]
        exact lw_go (b_person hR _) nx
      rw [if_neg c]
      clear c
      by_cases c : w = 2
      · rw [if_pos c]
        simp only [if_pos r1]
        exact lw_go (b_buy hR _) nx
      rw [if_neg c]
      clear c
      by_cases c : w = 3
      · rw [if_pos c]
        simp only [if_pos r1, if_pos r2, if_pos r3, if_pos r4, if_pos r5]
        exact lw_go (b_job hR _ _ _ _ _) nx
      rw [if_neg c]
      clear c
      by_cases c : w = 4
      · rw [if_pos c]
        simp only [if_pos r1, if_pos r2, if_pos r3]
        exact lw_go (b_begin hR _ _ _) nx
      rw [if_neg c]
      clear c
      by_cases c : w = 5
      · rw [if_pos c]
        exact lw_go (b_assign hR) nx
      rw [if_neg c]
      clear c
      by_cases c : w = 6
      · rw [if_pos c]
        simp only [if_pos r1, if_pos r2]
        exact lw_go (b_delay hR _ _) nx
      rw [if_neg c]
      clear c
      by_cases c : w = 7
      · rw [if_pos c]
        simp only [if_pos r1]
        exact lw_go (b_callOff hR _) nx
      rw [if_neg c]
      clear c
      by_cases c : w = 8
      · rw [if_pos c]
        simp only [if_pos r1]
        exact lw_go (b_pass hR _) nx
      rw [if_neg c]
      clear c
      by_cases c : w = 9
      · rw [if_pos c]
        simp only [if_pos r1, if_pos r2]
        exact lw_go (b_of hR _ _) nx
      rw [if_neg c]
      clear c
      by_cases c : w = 10
      · rw [if_pos c]
        simp only [if_pos r1, if_pos r2]
        exact lw_go (b_ofJob hR _ _) nx
      rw [if_neg c]
      clear c
      by_cases c : w = 11
      · rw [if_pos c]
        simp only [if_pos r1]
        exact lw_go (b_waiting hR _) nx
      rw [if_neg c]
      clear c
      by_cases c : w = 12
      · rw [if_pos c]
        simp only [if_pos r1, if_pos r2]
        exact lw_go (b_straps hR _ _) nx
      rw [if_neg c]
      clear c
      by_cases c : w = 13
      · rw [if_pos c]
        simp only [if_pos r1]
        exact lw_go (b_count hR _) nx
      rw [if_neg c]
      clear c
      by_cases c : w = 14
      · rw [if_pos c]
        simp only [if_pos r1, if_pos r2, if_pos r3]
        exact lw_go (b_why hR _ _ _) nx
      rw [if_neg c]
      clear c
      by_cases c : w = 15
      · rw [if_pos c]
        simp only [if_pos r1, if_pos r2]
        exact lw_go (b_crew hR _ _) nx
      rw [if_neg c]
      clear c
      by_cases c : w = 16
      · rw [if_pos c]
        simp only [if_pos r1]
        exact lw_go (b_best hR _) nx
      rw [if_neg c]
      clear c
      by_cases c : w = 17
      · rw [if_pos c]
        simp only [if_pos r1]
        exact lw_go (b_doneIn hR _) nx
      rw [if_neg c]
      clear c
      by_cases c : w = 18
      · rw [if_pos c]
        exact lw_go (b_ifAssigned hR) nx
      rw [if_neg c]
      clear c
      by_cases c : w = 19
      · rw [if_pos c]
        simp only [if_pos r1, if_pos r2]
        exact lw_go (b_put hR _) nx
      rw [if_neg c]
      clear c
      by_cases c : w = 20
      · rw [if_pos c]
        exact lw_go (b_wipe hR) nx
      rw [if_neg c]
      clear c
      by_cases c : w = 21
      · rw [if_pos c]
        exact lw_go (b_fault hR) nx
      rw [if_neg c]
      clear c
      by_cases c : w = 22
      · rw [if_pos c]
        exact lw_go (b_carryOut hR) nx
      rw [if_neg c]
      clear c
      by_cases c : w = 23
      · rw [if_pos c]
        exact lw_go (b_undo hR) nx
      rw [if_neg c]
      clear c
      by_cases c : w = 24
      · rw [if_pos c]
        simp only [if_pos r1]
        exact lw_go (b_save hR _) nx
      rw [if_neg c]
      clear c
      by_cases c : w = 25
      · rw [if_pos c]
        simp only [if_pos r1]
        exact lw_go (b_restore hR _) nx
      rw [if_neg c]
      clear c
      exact nx D hR
theorem lw_all {sL : Nat} (hL : sL ≤ 3072) (sX : Nat → Int32) {D : dT} (h : RR D) : ∃ D', F_L_law sL sX D = some (1, D') :=
  lw_18 hL sX 512 lim 0 D (by omega) (by omega) (lim_lt (by omega)) h
