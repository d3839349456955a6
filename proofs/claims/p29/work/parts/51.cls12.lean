/-! an hour of a job -/
theorem upd_comm (s : Nat → Int32) {a b : Nat} (x y : Int32) (h : a ≠ b) : upd (upd s a x) b y = upd (upd s b y) a x := by
  funext i
  by_cases ha : i = a
  · subst ha; rw [upd_n _ _ h, upd_s, upd_s]
  · by_cases hb : i = b
    · subst hb; rw [upd_s, upd_n _ _ ha, upd_s]
    · rw [upd_n _ _ hb, upd_n _ _ ha, upd_n _ _ ha, upd_n _ _ hb]
theorem endU_upd (s : Nat → Int32) (c : Int32) {i : Nat} (v : Int32) (hi : 52 ≤ i) : ∀ n, n ≤ 10 → endU (upd s i v) c n = upd (endU s c n) i v := by
  intro n
  induction n with
  | zero => intro _; rfl
  | succ n ih =>
    intro hn
    rw [endU_s, endU_s, ih (by omega), upd_n _ _ (by omega), upd_comm _ _ _ (by omega)]
theorem wrkS_o (s : Nat → Int32) {P : Nat} (h10 : P ≤ 10) (j : Nat) {i : Nat} (h : ∀ p, p < 10 → i ≠ 12 + 4 * p + 1 ∧ i ≠ 12 + 4 * p + 2) (h2 : i ≠ 52 + 12 * j + 2) (h7 : i ≠ 7) : wrkS s P j i = s i := by
  unfold wrkS carV
  rw [carU_o _ _ h P h10, upd_n _ _ h7, upd_n _ _ h2]
theorem endV_e (s : Nat → Int32) {P j : Nat} (h10 : P ≤ 10) : endV (wrkS s P j) P j = upd (upd (endU (wrkS s P j) (CRW s j) P) (52 + 12 * j + 11) (s 4)) (52 + 12 * j + 5) 2 := by
  unfold endV
  rw [show CRW (wrkS s P j) j = CRW s j from wrkS_o s h10 j (by omega) (by omega) (by omega), wrkS_o s h10 j (i := 4) (by omega) (by omega) (by omega)]
  rw [endU_upd _ _ _ (by omega) P h10, endU_upd _ _ _ (by omega) P h10, upd_comm _ _ _ (by omega)]
theorem c_work {D : dT} {B : Nat} {s : Nat → Int32} {P J j : Nat} (h : FR D B s P J) (hS : SI s P J) (hj : j < J) (h1 : HOW s j = 1) : ∃ D', F_X0_workOneHour B (B + 16 + j) D = some ((wrkV s P j).1, D') ∧ FR D' B (wrkV s P j).2 P J ∧ off B D D' := by
  have h10 := SI_P hS
  have h16 := SI_J hS
  obtain ⟨⟨_, _, _, _, _, _⟩, a7, _, a9, _⟩ := hS.2.2.2.1 j hj
  obtain ⟨n, n1, n9, en⟩ := a9 (Or.inr h1)
  have f9 := FR_j h hj (k := 9) (by omega)
  have f7 := FR_j h hj (k := 7) (by omega)
  have f6 := FR_j h hj (k := 6) (by omega)
  have f2 := FR_j h hj (k := 2) (by omega)
  have f10 := FR_j h hj (k := 10) (by omega)
  unfold F_X0_workOneHour wrkV
  rw [f9]
  by_cases c9 : s (52 + 12 * j + 9) ≤ 0
  · rw [if_pos c9, if_neg (show ¬ ¬ s (52 + 12 * j + 9) ≤ 0 from fun z => z c9), f7, c_str h h10, bd_some, f6]
    by_cases c6 : s (52 + 12 * j + 6) ≤ strV s P (CRW s j)
    · rw [if_pos (show s (52 + 12 * j + 6) ≤ strV s P (s (52 + 12 * j + 7)) from c6), if_neg (show ¬ ¬ s (52 + 12 * j + 6) ≤ strV s P (CRW s j) from fun z => z c6)]
      rw [up2_ne (o := B) (k := 8) _ _ (by omega), up2_self, up2_ne (o := B + 16 + j) (k := 2) (i := B) _ _ (by omega), f2, FR_c h]
      have h0 : FR (up2 (up2 D (B + 16 + j) 2 (s (52 + 12 * j + 2) - 1)) B 8 (s 7 + 1)) B (upd (upd s (52 + 12 * j + 2) (s (52 + 12 * j + 2) - 1)) 7 (s 7 + 1)) P J := FR_78 (FR_jup h h10 hj (by omega) (by omega) (by omega) (by omega) _) h10 (Or.inr (Or.inl ⟨rfl, rfl⟩)) _
      have o0 : off B D (up2 (up2 D (B + 16 + j) 2 (s (52 + 12 * j + 2) - 1)) B 8 (s 7 + 1)) := off_u (off_u (off_r B D) (by omega) (by omega)) (by omega) (by omega)
      have g7 : (up2 (up2 D (B + 16 + j) 2 (s (52 + 12 * j + 2) - 1)) B 8 (s 7 + 1)) (B + 16 + j) 7 = CRW s j := by rw [up2_ne _ _ (by omega), up2_ne _ _ (by omega), f7]
      generalize hD0 : up2 (up2 D (B + 16 + j) 2 (s (52 + 12 * j + 2) - 1)) B 8 (s 7 + 1) = D0 at h0 o0 g7 ⊢
      have hw : ∀ i, i < 12 ∨ 52 ≤ i → wrkS s P j i = (upd (upd s (52 + 12 * j + 2) (s (52 + 12 * j + 2) - 1)) 7 (s 7 + 1)) i := fun i hi => carU_o _ _ (by omega) P h10
      unfold F_X0_workOneHour_104
      rw [g7, c_carry D0 (FR_P h0) h10 _ (Or.inl rfl), c_carry D0 (FR_P h0) h10 _ (Or.inr rfl), bd_some, bd_some, if_pos rfl, if_pos (Or.inl rfl), if_neg (show ¬ (1 : Int32) = 0 by decide)]
      rw [en, show (1 : Int32) = nI 1 from rfl, nI_sub n1]
      by_cases cn : n = 1
      · subst cn
        rw [show (1 : Nat) - 1 = 0 from rfl, if_neg (show ¬ (0 : Int32) < nI 0 by decide), if_pos (show nI 0 = 0 from rfl), show nI 1 = (1 : Int32) from rfl, endV_e s h10]
        have w1 : FR (crD D0 B (CRW s j) 1 P) B (endU (wrkS s P j) (CRW s j) P) P J := by
          refine FR_car h0 h10 (CRW s j) 1 (fun i hi => ?_) (fun p hp => ?_)
          · rw [endU_o _ _ (by omega) P h10, hw i hi]
          · rw [endU_o _ _ (by omega) P h10, endU_o _ _ (by omega) P h10, endU_o _ _ (by omega) P h10, endU_a3 _ _ P h10 (by omega)]
            unfold wrkS carV
            rw [carU_o _ _ (by omega) P h10, carU_a1 _ _ P h10 (by omega), carU_a2 _ _ P h10 (by omega), carU_o _ _ (by omega) P h10]
            refine ⟨rfl, ?_, ?_, ?_⟩
            · cases bt (CRW s j) p
              · rw [if_neg (fun z => absurd z.2 (by decide)), if_neg (by decide)]
              · rw [if_pos ⟨hp, rfl⟩, if_pos rfl]
            · cases bt (CRW s j) p
              · rw [if_neg (fun z => absurd z.2 (by decide)), if_neg (by decide)]
              · rw [if_pos ⟨hp, rfl⟩, if_pos rfl]
            · cases bt (CRW s j) p
              · rw [if_neg (fun z => absurd z.2 (by decide)), if_neg (by decide)]
              · rw [if_pos ⟨hp, rfl⟩, if_pos rfl]
        have w2 := FR_jup w1 h10 hj (k := 11) (by omega) (by omega) (by omega) (by omega) (s 4)
        have e4 : (crD D0 B (CRW s j) 1 P) B 7 = s 4 := by
          rw [FR_h w1, endU_o _ _ (by omega) P h10, hw 4 (by omega), upd_n _ _ (by omega), upd_n _ _ (by omega)]
        rw [e4]
        have hu : ∀ i, 52 ≤ i → i ≠ 52 + 12 * j + 2 → i ≠ 52 + 12 * j + 11 → (upd (endU (wrkS s P j) (CRW s j) P) (52 + 12 * j + 11) (s 4)) i = s i := fun i hi hi2 hi3 => by
          rw [upd_n _ _ hi3, endU_o _ _ (by omega) P h10, hw i (by omega), upd_n _ _ (by omega), upd_n _ _ hi2]
        obtain ⟨D', x1, x2, x3⟩ := c_end (x := 2) w2 h10 h16 hj (by rw [show HOW _ j = HOW s j from hu _ (by omega) (by omega) (by omega)]; exact h1) (by decide) (fun i hi hij hh p hb => by
          rw [show HOW _ i = HOW s i from hu _ (by omega) (by omega) (by omega)] at hh
          rw [show CRW _ i = CRW s i from hu _ (by omega) (by omega) (by omega)] at hb
          rw [show CRW _ j = CRW s j from hu _ (by omega) (by omega) (by omega)]
          exact hS.2.2.2.2.1 i j hi hj hij hh h1 p hb) (by rw [hu _ (by omega) (by omega) (by omega)]; exact a7)
        rw [x1, bd_some, if_pos (Or.inr rfl)]
        exact ⟨D', rfl, x2, off_t (off_t o0 (off_u (fun q hq => crD_o _ _ _ P (by omega)) (by omega) (by omega))) x3⟩
      · rw [if_pos (show (0 : Int32) < nI (n - 1) from nI_lt (a := 0) (by omega) (by omega)), if_neg (show ¬ nI (n - 1) = 0 from nI_ne0 (by omega) (by omega))]
        refine ⟨_, rfl, FR_car (s' := wrkS s P j) h0 h10 (CRW s j) 0 hw (fun p hp => ?_), off_t o0 (fun q hq => crD_o _ _ _ P (by omega))⟩
        unfold wrkS carV
        rw [carU_o _ _ (by omega) P h10, carU_a1 _ _ P h10 (by omega), carU_a2 _ _ P h10 (by omega), carU_o _ _ (by omega) P h10]
        refine ⟨rfl, ?_, ?_, ?_⟩
        · cases bt (CRW s j) p
          · rw [if_neg (fun z => absurd z.2 (by decide)), if_neg (by decide)]
          · rw [if_pos ⟨hp, rfl⟩, if_pos rfl]
        · cases bt (CRW s j) p
          · rw [if_neg (fun z => absurd z.2 (by decide)), if_neg (by decide)]
          · rw [if_pos ⟨hp, rfl⟩, if_pos rfl]
        · rw [ite_self, Int32.add_zero]
    · rw [if_neg (show ¬ s (52 + 12 * j + 6) ≤ strV s P (s (52 + 12 * j + 7)) from c6), if_pos c6]
      rw [up2_ne (o := B) (k := 9) _ _ (by omega), up2_ne (o := B + 16 + j) (k := 10) (j := 7) _ _ (by omega), up2_ne (o := B + 16 + j) (k := 10) (i := B) _ _ (by omega), f7, f10, FR_p h]
      obtain ⟨D', x1, x2, x3⟩ := c_rest (FR_78 (FR_jup h h10 hj (k := 10) (by omega) (by omega) (by omega) (by omega) (s (52 + 12 * j + 10) + 1)) h10 (k := 9) (i := 8) (Or.inr (Or.inr ⟨rfl, rfl⟩)) (s 8 + 1)) h10 (CRW s j)
      rw [x1, bd_some]
      exact ⟨D', rfl, x2, off_t (off_u (off_u (off_r B D) (by omega) (by omega)) (by omega) (by omega)) x3⟩
  · rw [if_neg c9, if_pos c9]
    rw [up2_ne (o := B + 16 + j) (k := 9) (j := 7) _ _ (by omega), f7]
    obtain ⟨D', x1, x2, x3⟩ := c_rest (FR_jup h h10 hj (k := 9) (by omega) (by omega) (by omega) (by omega) (s (52 + 12 * j + 9) - 1)) h10 (CRW s j)
    rw [x1, bd_some]
    exact ⟨D', rfl, x2, off_t (off_u (off_r B D) (by omega) (by omega)) x3⟩
