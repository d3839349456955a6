/-! ifAssigned, undo -/
theorem RR_frame {D D' : dT} (h : RR D) (e : ∀ q, ¬ (51 ≤ q ∧ q < 83) → q ≠ 379 → q ≠ 380 → D' q = D q) (e9 : ∀ k, k < 244 → D' 379 k = D 379 k) : RR D' := by
  obtain ⟨hf, h0, ⟨o, c, ho, hc, h1, h2, h4, hX⟩, hS, hP⟩ := h
  refine ⟨FS_eq (FS_off hf (fun q a b => e q (by omega) (by omega) (by omega))) e9, by rw [e 378 (by omega) (by omega) (by omega)]; exact h0, ⟨o, c, ho, hc, by rw [e 85 (by omega) (by omega) (by omega)]; exact h1, by rw [e 85 (by omega) (by omega) (by omega)]; exact h2, by rw [e 378 (by omega) (by omega) (by omega)]; exact h4, ?_⟩, SX_off hS (fun q hq => e q (by omega) (by omega) (by omega)), PX_off hP (by rw [e 311 (by omega) (by omega) (by omega)]) (by rw [e 378 (by omega) (by omega) (by omega)]) (fun q hq => e q (by omega) (by omega) (by omega))⟩
  rw [e 381 (by omega) (by omega) (by omega)]
  exact HX_off hX (fun i hi q a b => e q (by omega) (by omega) (by omega))
theorem b_ifAssigned {D : dT} (h : RR D) : both D F_X5_ifAssigned F_X6_ifAssigned := by
  obtain ⟨hf, h0, _⟩ := id h
  obtain ⟨Da, a1, ⟨P, J, a2, a3⟩, a4⟩ := FS_copy (B := 51) hf (by omega)
  obtain ⟨v, s', Db, v0, b1, b2, b3, b4, b5⟩ := k_asg a2 a3
  have ed : ∀ q, ¬ (51 ≤ q ∧ q < 83) → Db q = D q := fun q hq => by rw [b5 q (by omega), a4 q (by omega)]
  have g378 : Db 378 = D 378 := ed 378 (by omega)
  have g379 : Db 379 = D 379 := ed 379 (by omega)
  refine ⟨v, Db, wr (ws (wr Db 380 (cpR (Db 380) (Db 379) 0 244)) s') 379 (cpR s' (cpR (Db 380) (Db 379) 0 244) 0 244), ?_, ?_, ?_⟩
  · unfold F_X5_ifAssigned
    rw [a1, bd_some, b1, bd_some]
  · unfold F_X6_ifAssigned
    rw [up2_id (by rw [g378]; exact h0), r_aside, bd_some, b2 _ (by rw [wr_o _ _ (by omega)]; exact g379), bd_some, r_back, bd_some, ws_s, ws_o _ _ (by omega), wr_s]
  · refine RR_frame h (fun q a b c => ?_) (fun k hk => ?_)
    · rw [wr_o _ _ b, ws_o _ _ b, wr_o _ _ c, ed q a]
    · rw [wr_s]
      unfold cpR
      rw [if_pos (by omega), if_pos (by omega), g379]
      exact congrArg _ (by omega)
theorem b_undo {D : dT} (h : RR D) : both D F_X5_undo F_X6_undo := by
  obtain ⟨hf, h0, ⟨o, c, ho, hc, h1, h2, h4, hX⟩, hS, hP⟩ := id h
  by_cases c0 : c = 0
  · subst c0
    refine ⟨-5, D, D, ?_, ?_, h⟩
    · unfold F_X5_undo F_X1_takeBack
      rw [h2, if_neg (show ¬ (0 : Int32) < nI 0 by decide), bd_some]
    · unfold F_X6_undo
      rw [up2_id h0, h4, if_pos (show nI 0 = 0 from rfl)]
  · obtain ⟨m, rfl⟩ := Nat.exists_eq_succ_of_ne_zero c0
    have e2 : (up2 D 85 2 ((D 85 2) - (1 : Int32))) = up2 D 85 2 (nI m) := by rw [h2, Nat.succ_eq_add_one, nI_pred]
    have hfm := FS_off (D' := up2 D 85 2 (nI m)) (hX m (by omega)) (fun q a b => up2_o _ _ _ (by omega))
    obtain ⟨D', a1, a2, a3⟩ := FS_copy (B := 19) hfm (by omega)
    have ed : ∀ q, q ≠ 85 → (q < 19 ∨ 51 ≤ q) → D' q = D q := fun q a b => by rw [a3 q (by omega), up2_o _ _ _ a]
    have e85 : D' 85 = up2 D 85 2 (nI m) 85 := a3 85 (by omega)
    have g378 : D' 378 = D 378 := ed 378 (by omega) (by omega)
    have g381 : D' 381 = D 381 := ed 381 (by omega) (by omega)
    refine ⟨nI m, D', wr (up2 D' 378 4 (nI m)) 379 (cpR (D' 379) (fun j => D 381 (244 * m + j)) 0 244), ?_, ?_, ?_⟩
    · unfold F_X5_undo F_X1_takeBack
      rw [e2, h2, if_pos (show (0 : Int32) < nI (m.succ) from nI_lt (a := 0) (by omega) (by omega)), c_row (x := up2 D 85 2 (nI m) 85 2) (n := o + m) (by rw [up2_self, up2_ne (o := 85) (k := 2) _ _ (by omega), h1, nI_add]) (by omega), bd_some, if_pos (inRn (by omega) (by omega)), nI_clamp (by omega), a1, bd_some, bd_some, e85, up2_self]
    · unfold F_X6_undo
      rw [up2_id (show D' 378 0 = 0 by rw [g378]; exact h0), show D' 378 4 = nI (m + 1) by rw [g378]; exact h4, if_neg (nI_ne0 (by omega) (by omega)), nI_pred]
      have hu := r_undo_l (D' 379) (D 381) (c := m) (by omega) 244 0 lim (up2 D' 378 4 (nI m)) (by
        rw [up2_o _ _ _ (by omega)]
        funext k
        unfold cpR
        rw [if_neg (by omega)]) (by rw [up2_o _ _ _ (by omega)]; exact g381) (by rw [up2_self]) (by omega) (lim_lt (by omega))
      exact hu
    · generalize hE : wr (up2 D' 378 4 (nI m)) 379 (cpR (D' 379) (fun j => D 381 (244 * m + j)) 0 244) = E
      have eo : ∀ q, q ≠ 379 → q ≠ 378 → E q = D' q := fun q a b => by rw [← hE, wr_o _ _ a, up2_o _ _ _ b]
      have e378 : ∀ k, k ≠ 4 → E 378 k = D 378 k := fun k hk => by rw [← hE, wr_o _ _ (by omega), up2_ne _ _ (by omega), g378]
      have e3784 : E 378 4 = nI m := by rw [← hE, wr_o _ _ (by omega), up2_self]
      refine ⟨FS_eq (FS_off a2 (fun q a b => eo q (by omega) (by omega))) (fun k hk => ?_), by rw [e378 0 (by omega)]; exact h0, ⟨o, m, ho, by omega, ?_, ?_, e3784, ?_⟩, SX_off hS (fun q hq => by rw [eo q (by omega) (by omega), ed q (by omega) (by omega)]), PX_off hP (by rw [eo 311 (by omega) (by omega), ed 311 (by omega) (by omega)]) (e378 8 (by omega)) (fun q hq => by rw [eo q (by omega) (by omega), ed q (by omega) (by omega)])⟩
      · rw [← hE, wr_s]
        unfold cpR rw244
        rw [if_pos (by omega)]
        exact congrArg _ (by omega)
      · rw [eo 85 (by omega) (by omega), e85, up2_ne _ _ (by omega)]; exact h1
      · rw [eo 85 (by omega) (by omega), e85, up2_self]
      · rw [eo 381 (by omega) (by omega), g381]
        exact HX_off (fun i hi => hX i (by omega)) (fun i hi q a b => by rw [eo q (by omega) (by omega), ed q (by omega) (by omega)])
