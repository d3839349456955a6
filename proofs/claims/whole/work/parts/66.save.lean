/-! save -/
theorem in_1 {x : Int32} : (0 ≤ x ∧ x ≤ 1) ↔ inR x 2 := by
  rw [inR_iff, le_toInt, le_toInt, show (0 : Int32).toInt = 0 from rfl, show (1 : Int32).toInt = 1 from rfl]
  omega
theorem c_isSlot (x : Int32) (D : dT) : F_X5_isSlot x D = some (if inR x 2 then 1 else 0, D) := by
  unfold F_X5_isSlot
  rw [c_isWithin, bd_some]
  by_cases h : inR x 2
  · rw [if_pos (in_1.mpr h), if_pos h, if_pos (Or.inr rfl)]
  · rw [if_neg (fun z => h (in_1.mp z)), if_neg h, if_pos (Or.inl rfl)]
theorem b_save {D : dT} (h : RR D) (x : Int32) : both D (F_X5_save x) (F_X6_save x) := by
  obtain ⟨hf, h0, ⟨o, c, ho, hc, h1, h2, h4, hX⟩, hS, hP⟩ := id h
  by_cases hx : inR x 2
  · obtain ⟨t, ht, rfl⟩ := inR_of hx (by omega)
    obtain ⟨P, J, hF, hSI⟩ := id hf
    obtain ⟨Da, a1, a2, a3⟩ := FS_copy (B := 314 + 32 * t) hf (by omega)
    have ea : ∀ q, ¬ (314 + 32 * t ≤ q ∧ q < 314 + 32 * t + 32) → Da q = D q := fun q hq => a3 q (by omega)
    generalize hDb : up2 Da 84 t (1 : Int32) = Db
    have eb : ∀ q, q ≠ 84 → Db q = Da q := fun q hq => by rw [← hDb, up2_o _ _ _ hq]
    have ed : ∀ q, q ≠ 84 → ¬ (314 + 32 * t ≤ q ∧ q < 314 + 32 * t + 32) → Db q = D q := fun q a b => by rw [eb q a, ea q b]
    have g379 : Db 379 = D 379 := ed 379 (by omega) (by omega)
    have g382 : Db 382 = D 382 := ed 382 (by omega) (by omega)
    refine ⟨nI J, Db, up2 (wr Db 382 (cpR (D 382) (D 379) (244 * t) 244)) 383 t 1, ?_, ?_, ?_⟩
    · unfold F_X5_save
      rw [c_isSlot, if_pos hx, bd_some, if_neg o10]
      simp only [if_pos hx, nI_clamp (show t < 2 ^ 31 by omega)]
      rw [a1, bd_some, hDb, eb 19 (by omega), ea 19 (by omega), FR_J hF]
    · unfold F_X6_save
      rw [up2_id (by rw [ed 378 (by omega) (by omega)]; exact h0), r_in, if_pos (in_1.mpr hx), bd_some, if_neg o10]
      have hu := r_save_l (D 382) (D 379) (x := nI t) rfl ht 244 0 lim Db (by
        rw [g382]
        funext k
        unfold cpR
        rw [if_neg (by omega)]) g379 (by omega) (lim_lt (by omega))
      rw [hSI.1.2.2.2] at hu
      exact hu
    · generalize hE : up2 (wr Db 382 (cpR (D 382) (D 379) (244 * t) 244)) 383 t (1 : Int32) = E
      have eo : ∀ q, q ≠ 382 → q ≠ 383 → E q = Db q := fun q a b => by rw [← hE, up2_o _ _ _ b, wr_o _ _ a]
      have ee : ∀ q, q ≠ 382 → q ≠ 383 → q ≠ 84 → ¬ (314 + 32 * t ≤ q ∧ q < 314 + 32 * t + 32) → E q = D q := fun q a b c d => by rw [eo q a b, ed q c d]
      have e382 : E 382 = cpR (D 382) (D 379) (244 * t) 244 := by rw [← hE, up2_o _ _ _ (by omega), wr_s]
      refine ⟨?_, by rw [ee 378 (by omega) (by omega) (by omega) (by omega)]; exact h0, ⟨o, c, ho, hc, by rw [ee 85 (by omega) (by omega) (by omega) (by omega)]; exact h1, by rw [ee 85 (by omega) (by omega) (by omega) (by omega)]; exact h2, by rw [ee 378 (by omega) (by omega) (by omega) (by omega)]; exact h4, ?_⟩, ?_, PX_off hP (by rw [ee 311 (by omega) (by omega) (by omega) (by omega)]) (by rw [ee 378 (by omega) (by omega) (by omega) (by omega)]) (fun q hq => ee q (by omega) (by omega) (by omega) (by omega))⟩
      · rw [ee 379 (by omega) (by omega) (by omega) (by omega)]
        exact FS_off hf (fun q a b => ee q (by omega) (by omega) (by omega) (by omega))
      · rw [ee 381 (by omega) (by omega) (by omega) (by omega)]
        exact HX_off hX (fun i hi q a b => ee q (by omega) (by omega) (by omega) (by omega))
      · intro i hi
        rw [eo 84 (by omega) (by omega), e382, ← hE, ← hDb]
        by_cases e : i = t
        · subst e
          rw [up2_self, up2_self]
          refine ⟨rfl, Or.inr ?_⟩
          refine FS_eq (s := D 379) (FS_off (D := Da) a2 (fun q a b => by rw [up2_o _ _ _ (by omega), wr_o _ _ (by omega), up2_o _ _ _ (by omega)])) (fun k hk => ?_)
          unfold rw244 cpR
          rw [if_pos (by omega)]
          exact congrArg _ (by omega)
        · rw [up2_ne (o := 84) _ _ (by omega), up2_ne (o := 383) _ _ (by omega), wr_o _ _ (by omega), up2_o (o := 84) (i := 383) _ _ _ (by omega), ea 84 (by omega), ea 383 (by omega)]
          obtain ⟨s1, s2⟩ := hS i hi
          refine ⟨s1, s2.elim Or.inl (fun s2 => Or.inr ?_)⟩
          refine FS_eq (s := rw244 (D 382) i) (FS_off s2 (fun q a b => by rw [up2_o _ _ _ (by omega), wr_o _ _ (by omega), up2_o _ _ _ (by omega), ea q (by omega)])) (fun k hk => ?_)
          unfold rw244 cpR
          rw [if_neg (by omega)]
  · refine ⟨-2, D, D, ?_, ?_, h⟩
    · unfold F_X5_save
      rw [c_isSlot, if_neg hx, bd_some, if_pos rfl]
    · unfold F_X6_save
      rw [up2_id h0, r_in, if_neg (fun z => hx (in_1.mp z)), bd_some, if_pos rfl]
