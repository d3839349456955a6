theorem reason_nn (s : Nat → Int32) (P J j : Nat) (c k : Int32) : 0 ≤ reasonV s P J j c k := by
  unfold reasonV
  split
  · decide
  · split
    · decide
    · split
      · decide
      · split
        · decide
        · split <;> decide
theorem k_off {D : dT} {s : Nat → Int32} {P J : Nat} (hF : FR D 19 s P J) (hS : SI s P J) (x : Int32) : lock s D (F_X0_callOffJob 19 x D) (F_X6_refusesCall x) (F_X6_callsOff x) := by
  have h10 := SI_P hS
  have h16 := SI_J hS
  have hJ := hS.1.2.2.2
  have rr := fun (E : dT) (hE : E 379 = s) => r_refCall E (show E 379 6 = nI J by rw [hE]; exact hJ) h16 x
  by_cases hx : inR x J
  · obtain ⟨j, hj, rfl⟩ := inR_of hx (by omega)
    simp only [if_pos hx, nI_clamp (show j < 2 ^ 31 by omega)] at rr
    have hb : ¬ CRW s j < 0 := by
      obtain ⟨n, hn, e⟩ := c_small h10 (hS.2.2.2.1 j hj).2.2.1
      have := pw_le h10
      rw [e]
      exact nI_pos (by omega)
    by_cases h1 : HOW s j = 0 ∨ HOW s j = 1
    · obtain ⟨D', a, b, c⟩ := c_off0 hF hS hj h1
      refine Or.inr ⟨_, _, D', _, _, hb, a, fun E hE => ?_, fun E hE => ?_, b, SI_off hS hj, c⟩
      · rw [rr E hE, hE, if_pos]
        cases h1 with
        | inl e => rw [e]; decide
        | inr e => rw [e]; decide
      · rw [r_callsOff E j (by omega), hE]
    · refine Or.inl ⟨-5, by decide, c_off2 hF hS hj h1, fun E hE => ?_⟩
      rw [rr E hE, hE, if_neg]
      rcases how_c hS hj with e | e | e | e
      · exact absurd (Or.inl e) h1
      · exact absurd (Or.inr e) h1
      · rw [e]; decide
      · rw [e]; decide
  · simp only [if_neg hx] at rr
    exact Or.inl ⟨-1, by decide, c_off1 hF h16 hx, rr⟩
theorem k_beg {D : dT} {s : Nat → Int32} {P J : Nat} (hF : FR D 19 s P J) (hS : SI s P J) (x c k : Int32) : lock s D (F_X0_beginJob 19 x c k D) (F_X6_refusesBegin x c k) (F_X6_begins x c k) := by
  have h10 := SI_P hS
  have h16 := SI_J hS
  have rr := fun (E : dT) (hE : E 379 = s) => r_refBeg E (show E 379 5 = nI P by rw [hE]; exact hS.1.2.2.1) h10 (show E 379 6 = nI J by rw [hE]; exact hS.1.2.2.2) h16 x c k
  by_cases hx : inR x J
  · by_cases hk : k = -6 ∨ inR k 3
    · obtain ⟨j, hj, rfl⟩ := inR_of hx (by omega)
      simp only [if_pos hx, if_pos hk, nI_clamp (show j < 2 ^ 31 by omega)] at rr
      by_cases hw : reasonV s P J j c k = 0
      · obtain ⟨D', a1, a2, a3⟩ := c_begin0 hF hS hj hk hw
        refine Or.inr ⟨_, _, D', _, _, ?_, a1, fun E hE => ?_, fun E hE => ?_, a2, SI_beg hS hj hk hw, a3⟩
        · have := SI_lPos hS j hj k hk
          rw [lt_toInt] at this ⊢; omega
        · rw [rr E hE, hE, hw, if_pos (by decide)]
        · rw [r_begins E c k j rfl (by omega), hE]
      · have hn := reason_nn s P J j c k
        refine Or.inl ⟨-5, by decide, c_begin1 hF hS hj hk hw hn, fun E hE => ?_⟩
        rw [rr E hE, hE, if_neg (fun z => hw (by
          apply Int32.toInt_inj.mp
          rw [le_toInt] at z hn
          rw [show (0 : Int32).toInt = 0 from rfl] at z hn ⊢
          omega))]
    · simp only [if_pos hx, if_neg hk] at rr
      refine Or.inl ⟨-2, by decide, ?_, rr⟩
      unfold F_X0_beginJob
      rw [c_whyNot2 hF h16 hx c hk, bd_some, if_neg (by decide), if_neg (by decide)]
  · simp only [if_neg hx] at rr
    refine Or.inl ⟨-1, by decide, ?_, rr⟩
    unfold F_X0_beginJob
    rw [c_whyNot1 hF h16 hx, bd_some, if_neg (by decide), if_neg (by decide)]
theorem k_hrs {D : dT} {s : Nat → Int32} {P J : Nat} (hF : FR D 19 s P J) (hS : SI s P J) (x : Int32) : lock s D (F_X0_passHours 19 x D) (F_X6_refusesHours x) (F_X6_passes x) := by
  have h10 := SI_P hS
  have h16 := SI_J hS
  by_cases hx : 1 ≤ x ∧ x ≤ 99
  · by_cases hh : s 4 + x ≤ 9999
    · obtain ⟨n, n1, n2, rfl⟩ := rg_of (a := 1) (b := 99) (by omega) hx.1 hx.2 (by omega)
      obtain ⟨D', a1, a2, a3⟩ := c_pass0 hF hS n1 n2 hh
      refine Or.inr ⟨_, _, D', _, _, ?_, a1, fun E hE => ?_, fun E hE => ?_, a2, SI_pas hS n, a3⟩
      · obtain ⟨m, hm, e⟩ := pas_n s P J n
        rw [e]
        have : J * n ≤ 16 * 99 := Nat.mul_le_mul h16 n2
        exact nI_pos (by omega)
      · rw [r_refHours, hE, if_pos hx, if_pos hh]
      · rw [r_pas E (by rw [hE]; exact hS.1.2.2.1) h10 (by rw [hE]; exact hS.1.2.2.2) h16 n rfl (by omega), hE]
    · refine Or.inl ⟨-5, by decide, c_pass2 hF hx hh, fun E hE => ?_⟩
      rw [r_refHours, hE, if_pos hx, if_neg hh]
  · refine Or.inl ⟨-2, by decide, c_pass1 D 19 hx, fun E hE => ?_⟩
    rw [r_refHours, if_neg hx]
theorem k_asg {D : dT} {B : Nat} {s : Nat → Int32} {P J : Nat} (hF : FR D B s P J) (hS : SI s P J) : ∃ v s' D', ¬ v < 0 ∧ F_X0_assignJobs B D = some (v, D') ∧ (∀ E : dT, E 379 = s → F_X6_assigns E = some (v, ws E s')) ∧ FR D' B s' P J ∧ SI s' P J ∧ off B D D' := by
  obtain ⟨hd, _, hd6, ehd⟩ := hS.2.1.2.2.2.1
  obtain ⟨D', a1, a2, a3, a4⟩ := c_asg hF hS
  refine ⟨_, _, D', asg_nn (SI_J hS), a1, fun E hE => ?_, a2, a3, a4⟩
  rw [r_asg E (by rw [hE]; exact hS.1.2.2.1) (SI_P hS) (by rw [hE]; exact hS.1.2.2.2) (SI_J hS) (by rw [hE]; exact ehd) hd6 (by rw [hE]; exact SI_lPos hS), hE]
/-! ifAssigned -/
theorem FR_off {D D' : dT} {B : Nat} {s : Nat → Int32} {P J : Nat} (h : FR D B s P J) (h10 : P ≤ 10) (h16 : J ≤ 16) (e : ∀ q, B ≤ q → q < B + 32 → D' q = D q) : FR D' B s P J := by
  refine ⟨⟨fun i hi => ?_, fun i hi => ?_, fun i hi => ?_⟩, ⟨?_, ?_, ?_, ?_, ?_⟩, fun p hp => ?_, fun i hi q hq => ?_⟩
  · rw [e _ (by omega) (by omega), FR_set h i hi]
  · rw [e _ (by omega) (by omega), FR_own h i hi]
  · rw [e _ (by omega) (by omega), FR_fre h i hi]
  · rw [e _ (by omega) (by omega), FR_P h]
  · rw [e _ (by omega) (by omega), FR_J h]
  · rw [e _ (by omega) (by omega), FR_h h]
  · rw [e _ (by omega) (by omega), FR_c h]
  · rw [e _ (by omega) (by omega), FR_p h]
  · rw [e _ (by omega) (by omega)]
    exact ⟨FR_p0 h hp, FR_p1 h hp, FR_p2 h hp, FR_p3 h hp, FR_p4 h hp⟩
  · rw [e _ (by omega) (by omega), FR_j h hi hq]
