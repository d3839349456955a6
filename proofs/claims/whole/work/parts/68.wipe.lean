/-! wipe -/
theorem b_wipe {D : dT} (h : RR D) : both D F_X5_wipe F_X6_wipe := by
  obtain ⟨hf, h0, ⟨o, c, ho, hc, h1, h2, h4, hX⟩, hS, ⟨L, hL, l1, l2, _⟩⟩ := id h
  have g378 : (up2 D 311 4 (0 : Int32)) 378 = D 378 := up2_o _ _ _ (by omega)
  refine ⟨nI L, up2 D 311 4 0, up2 (up2 D 311 4 0) 378 8 0, ?_, ?_, ?_⟩
  · unfold F_X5_wipe F_X3_empty
    rw [bd_some, l1]
  · unfold F_X6_wipe
    rw [up2_id (by rw [g378]; exact h0), g378, l2]
  · have eo : ∀ q, q ≠ 311 → q ≠ 378 → (up2 (up2 D 311 4 (0 : Int32)) 378 8 0) q = D q := fun q a b => by rw [up2_o _ _ _ b, up2_o _ _ _ a]
    have e8 : ∀ k, k ≠ 8 → (up2 (up2 D 311 4 (0 : Int32)) 378 8 0) 378 k = D 378 k := fun k hk => by rw [up2_ne _ _ (by omega), g378]
    refine ⟨?_, by rw [e8 0 (by omega)]; exact h0, ⟨o, c, ho, hc, by rw [eo 85 (by omega) (by omega)]; exact h1, by rw [eo 85 (by omega) (by omega)]; exact h2, by rw [e8 4 (by omega)]; exact h4, ?_⟩, SX_off hS (fun q hq => eo q (by omega) (by omega)), ⟨0, by omega, ?_, by rw [up2_self]; rfl, fun i hi => absurd hi (by omega)⟩⟩
    · rw [eo 379 (by omega) (by omega)]
      exact FS_off hf (fun q a b => eo q (by omega) (by omega))
    · rw [eo 381 (by omega) (by omega)]
      exact HX_off hX (fun i hi q a b => eo q (by omega) (by omega))
    · rw [up2_o _ _ _ (by omega), up2_self]; rfl
