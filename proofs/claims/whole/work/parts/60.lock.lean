theorem k_off {D : dT} {P J : Nat} (hF : FR D 19 (D 379) P J) (hS : SI (D 379) P J) (x : Int32) : lock D P J (F_X0_callOffJob 19 x D) (F_X6_refusesCall x D) (F_X6_callsOff x D) := by
  have h10 := SI_P hS
  have h16 := SI_J hS
  unfold F_X6_refusesCall
  rw [r_isJob D hS.1.2.2.2 h16, bd_some]
  by_cases hx : inR x J
  · rw [if_pos hx, if_neg o10]
    obtain ⟨j, hj, rfl⟩ := inR_of hx (by omega)
    rw [r_ofJobs D 5 j 5 rfl rfl (by omega) (by omega), bd_some]
    have e5 : D 379 (52 + 12 * j + 5) = HOW (D 379) j := rfl
    rw [e5]
    have hb : ¬ CRW (D 379) j < 0 := by
      obtain ⟨n, hn, e⟩ := c_small h10 (hS.2.2.2.1 j hj).2.2.1
      have := pw_le h10
      rw [e]
      exact nI_pos (by omega)
    by_cases h1 : HOW (D 379) j = 0 ∨ HOW (D 379) j = 1
    · obtain ⟨D', a, b, c⟩ := c_off0 hF hS hj h1
      refine Or.inr ⟨_, _, D', _, _, hb, a, ?_, r_callsOff D j (by omega), b, SI_off hS hj, c⟩
      rw [if_pos]
      cases h1 with
      | inl e => rw [e]; decide
      | inr e => rw [e]; decide
    · refine Or.inl ⟨-5, by decide, c_off2 hF hS hj h1, ?_⟩
      rw [if_neg]
      rcases how_c hS hj with e | e | e | e
      · exact absurd (Or.inl e) h1
      · exact absurd (Or.inr e) h1
      · rw [e]; decide
      · rw [e]; decide
  · rw [if_neg hx, if_pos rfl]
    exact Or.inl ⟨-1, by decide, c_off1 hF h16 hx, rfl⟩
theorem reason_nn (s : Nat → Int32) (P J j : Nat) (c k : Int32) : 0 ≤ reasonV s P J j c k := by
  unfold reasonV
  split
  · decide
  · split
    · decide
    · split
      · decide
      · split
        · decide
        · split <;> decide
theorem k_beg {D : dT} {P J : Nat} (hF : FR D 19 (D 379) P J) (hS : SI (D 379) P J) (x c k : Int32) : lock D P J (F_X0_beginJob 19 x c k D) (F_X6_refusesBegin x c k D) (F_X6_begins x c k D) := by
  have h10 := SI_P hS
  have h16 := SI_J hS
  unfold F_X6_refusesBegin
  rw [r_isJob D hS.1.2.2.2 h16, bd_some]
  by_cases hx : inR x J
  · rw [if_pos hx, if_neg o10, r_isStraps, bd_some]
    by_cases hk : k = -6 ∨ inR k 3
    · obtain ⟨j, hj, rfl⟩ := inR_of hx (by omega)
      rw [if_pos hk, if_neg o10, r_reason D hS.1.2.2.1 h10 hS.1.2.2.2 h16 c j rfl (by omega) hk, bd_some]
      by_cases hw : reasonV (D 379) P J j c k = 0
      · obtain ⟨D', a1, a2, a3⟩ := c_begin0 hF hS hj hk hw
        refine Or.inr ⟨_, _, D', _, _, ?_, a1, ?_, r_begins D c k j rfl (by omega), a2, SI_beg hS hj hk hw, a3⟩
        · have := SI_lPos hS j hj k hk
          rw [lt_toInt] at this ⊢; omega
        · rw [hw, if_pos (by decide)]
      · have hn := reason_nn (D 379) P J j c k
        refine Or.inl ⟨-5, by decide, c_begin1 hF hS hj hk hw hn, ?_⟩
        rw [if_neg (fun z => hw (by
          apply Int32.toInt_inj.mp
          rw [le_toInt] at z hn
          rw [show (0 : Int32).toInt = 0 from rfl] at z hn ⊢
          omega))]
    · rw [if_neg hk, if_pos rfl]
      refine Or.inl ⟨-2, by decide, ?_, rfl⟩
      unfold F_X0_beginJob
      rw [c_whyNot2 hF h16 hx c hk, bd_some, if_neg (by decide), if_neg (by decide)]
  · rw [if_neg hx, if_pos rfl]
    refine Or.inl ⟨-1, by decide, ?_, rfl⟩
    unfold F_X0_beginJob
    rw [c_whyNot1 hF h16 hx, bd_some, if_neg (by decide), if_neg (by decide)]
theorem k_hrs {D : dT} {P J : Nat} (hF : FR D 19 (D 379) P J) (hS : SI (D 379) P J) (x : Int32) : lock D P J (F_X0_passHours 19 x D) (F_X6_refusesHours x D) (F_X6_passes x D) := by
  have h10 := SI_P hS
  have h16 := SI_J hS
  rw [r_refHours]
  by_cases hx : 1 ≤ x ∧ x ≤ 99
  · rw [if_pos hx]
    by_cases hh : D 379 4 + x ≤ 9999
    · rw [if_pos hh]
      obtain ⟨n, n1, n2, rfl⟩ := rg_of (a := 1) (b := 99) (by omega) hx.1 hx.2 (by omega)
      obtain ⟨D', a1, a2, a3⟩ := c_pass0 hF hS n1 n2 hh
      refine Or.inr ⟨_, _, D', _, _, ?_, a1, rfl, r_pas D hS.1.2.2.1 h10 hS.1.2.2.2 h16 n rfl (by omega), a2, SI_pas hS n, a3⟩
      obtain ⟨m, hm, e⟩ := pas_n (D 379) P J n
      rw [e]
      have : J * n ≤ 16 * 99 := Nat.mul_le_mul h16 n2
      exact nI_pos (by omega)
    · rw [if_neg hh]
      exact Or.inl ⟨-5, by decide, c_pass2 hF hx hh, rfl⟩
  · rw [if_neg hx]
    exact Or.inl ⟨-2, by decide, c_pass1 D 19 hx, rfl⟩
theorem k_asg {D : dT} {P J : Nat} (hF : FR D 19 (D 379) P J) (hS : SI (D 379) P J) : ∃ v s' D', ¬ v < 0 ∧ F_X0_assignJobs 19 D = some (v, D') ∧ F_X6_assigns D = some (v, ws D s') ∧ FR D' 19 s' P J ∧ SI s' P J ∧ off 19 D D' := by
  obtain ⟨hd, _, hd6, ehd⟩ := hS.2.1.2.2.2.1
  obtain ⟨D', a1, a2, a3, a4⟩ := c_asg hF hS
  exact ⟨_, _, D', asg_nn (SI_J hS), a1, r_asg D hS.1.2.2.1 (SI_P hS) hS.1.2.2.2 (SI_J hS) ehd hd6 (SI_lPos hS), a2, a3, a4⟩
/-! ifAssigned -/
theorem FR_off {D D' : dT} {B : Nat} {s : Nat → Int32} {P J : Nat} (h : FR D B s P J) (h10 : P ≤ 10) (h16 : J ≤ 16) (e : ∀ q, B ≤ q → q < B + 32 → D' q = D q) : FR D' B s P J := by
  refine ⟨⟨fun i hi => ?_, fun i hi => ?_, fun i hi => ?_⟩, ⟨?_, ?_, ?_, ?_, ?_⟩, fun p hp => ?_, fun i hi q hq => ?_⟩
  · rw [e _ (by omega) (by omega), FR_set h i hi]
  · rw [e _ (by omega) (by omega), FR_own h i hi]
  · rw [e _ (by omega) (by omega), FR_fre h i hi]
  · rw [e _ (by omega) (by omega), FR_P h]
  · rw [e _ (by omega) (by omega), FR_J h]
  · rw [e _ (by omega) (by omega), FR_h h]
  · rw [e _ (by omega) (by omega), FR_c h]
  · rw [e _ (by omega) (by omega), FR_p h]
  · rw [e _ (by omega) (by omega)]
    exact ⟨FR_p0 h hp, FR_p1 h hp, FR_p2 h hp, FR_p3 h hp, FR_p4 h hp⟩
  · rw [e _ (by omega) (by omega), FR_j h hi hq]
