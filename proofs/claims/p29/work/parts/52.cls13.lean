/-! what holds stays -/
theorem SI_gen {s s' : Nat → Int32} {P J j : Nat} (h : SI s P J) (hj : j < J) (h0 : ∀ i, i < 12 → i ≠ 7 → i ≠ 8 → s' i = s i) (hp : ∀ p, p < P → ∃ f w, w ≤ f ∧ f ≤ 150 ∧ s' (12 + 4 * p) = nI f ∧ s' (12 + 4 * p + 1) = nI w)
    (hz : ∀ p, P ≤ p → p < 10 → ∀ k, k < 4 → s' (12 + 4 * p + k) = s (12 + 4 * p + k)) (ho : ∀ i, 52 ≤ i → ¬ (52 + 12 * j ≤ i ∧ i < 52 + 12 * j + 12) → s' i = s i) (hr : SIj s' P j) (hc : HOW s' j = 1 → CRW s' j = CRW s j ∧ HOW s j = 1) : SI s' P J := by
  obtain ⟨⟨a1, a2, a3, a4⟩, ⟨b1, b2, b3, b4, b5, b6⟩, c, d, e, f1, f2⟩ := h
  have oi : ∀ i, i < 16 → i ≠ j → ∀ q, q < 12 → s' (52 + 12 * i + q) = s (52 + 12 * i + q) := fun i hi hij q hq => ho _ (by omega) (by omega)
  refine ⟨⟨a1, a2, by rw [h0 5 (by omega) (by omega) (by omega)]; exact a3, by rw [h0 6 (by omega) (by omega) (by omega)]; exact a4⟩, ⟨by rw [h0 0 (by omega) (by omega) (by omega)]; exact b1, by rw [h0 1 (by omega) (by omega) (by omega)]; exact b2, by rw [h0 2 (by omega) (by omega) (by omega)]; exact b3, by rw [h0 3 (by omega) (by omega) (by omega)]; exact b4, by rw [h0 4 (by omega) (by omega) (by omega)]; exact b5, fun k hk => by rw [h0 (9 + k) (by omega) (by omega) (by omega)]; exact b6 k hk⟩, hp, ?_, ?_, ?_, ?_⟩
  · intro i hi
    by_cases hij : i = j
    · subst hij; exact hr
    · have hx := d i hi
      have o := oi i (by omega) hij
      unfold SIj HOW CRW at hx ⊢
      rw [show s' (52 + 12 * i) = s (52 + 12 * i) from o 0 (by omega), o 1 (by omega), o 2 (by omega), o 3 (by omega), o 4 (by omega), o 5 (by omega), o 6 (by omega), o 7 (by omega), o 8 (by omega), o 9 (by omega)]
      exact hx
  · have key : ∀ i, i < J → HOW s' i = 1 → CRW s' i = CRW s i ∧ HOW s i = 1 := by
      intro i hi h1
      by_cases hij : i = j
      · subst hij; exact hc h1
      · have o := oi i (by omega) hij
        rw [show HOW s' i = HOW s i from o 5 (by omega)] at h1
        exact ⟨o 7 (by omega), h1⟩
    intro i i2 hi hi2 hne h1 h2 p hb
    rw [(key i hi h1).1] at hb
    rw [(key i2 hi2 h2).1]
    exact e i i2 hi hi2 hne (key i hi h1).2 (key i2 hi2 h2).2 p hb
  · intro p hp hp2 k hk
    rw [hz p hp hp2 k hk]
    exact f1 p hp hp2 k hk
  · intro i hi hi2 k hk
    rw [ho _ (by omega) (by omega)]
    exact f2 i hi hi2 k hk
theorem minR_n {f w g : Nat} (h : w ≤ f) (hf : f ≤ 150) (hg : g ≤ 20) : ∃ v, v ≤ f ∧ minR (nI f) (nI w) (nI g) = nI v := by
  unfold minR
  rw [nI_add]
  by_cases c : f ≤ w + g
  · exact ⟨f, by omega, if_pos (nI_le c (by omega))⟩
  · exact ⟨w + g, by omega, if_neg (nI_ge (by omega) (by omega))⟩
theorem dimR_n {f w t : Nat} (h : w ≤ f) (hf : f ≤ 150) (ht : t ≤ 20) : ∃ v, v ≤ f ∧ dimR (nI w) (nI t) = nI v := by
  unfold dimR
  by_cases c : t ≤ w
  · refine ⟨w - t, by omega, ?_⟩
    rw [nI_sub c, if_pos (nI_pos' (by omega))]
  · refine ⟨0, by omega, if_neg (fun z => c ?_)⟩
    rw [le_toInt, sub_ti (by omega) (by omega), show (0 : Int32).toInt = 0 from rfl] at z
    omega
/-- people after a rest -/
theorem SI_pr {s t : Nat → Int32} {P J : Nat} (h : SI s P J) (c : Int32) (h1 : t 1 = s 1) (hp : ∀ p, p < P → t (12 + 4 * p) = s (12 + 4 * p) ∧ t (12 + 4 * p + 1) = s (12 + 4 * p + 1)) : ∀ p, p < P → ∃ f w, w ≤ f ∧ f ≤ 150 ∧ rstV t P c (12 + 4 * p) = nI f ∧ rstV t P c (12 + 4 * p + 1) = nI w := by
  intro p hp2
  have h10 := SI_P h
  obtain ⟨f, w, hw, hf, ef, ew⟩ := h.2.2.1 p hp2
  obtain ⟨g, _, hg, eg⟩ := h.2.1.2.1
  obtain ⟨v, hv, ev⟩ := minR_n hw hf hg
  unfold rstV
  rw [rstU_o t c (by omega) P h10, rstU_pt t c P h10 (by omega), (hp p hp2).1, (hp p hp2).2, h1, ef, ew, eg, ev]
  by_cases c1 : p < P ∧ bt c p = true
  · exact ⟨f, v, hv, hf, rfl, if_pos c1⟩
  · exact ⟨f, w, hw, hf, rfl, if_neg c1⟩
theorem rstV_z (t : Nat → Int32) (c : Int32) {P : Nat} (h10 : P ≤ 10) (p : Nat) (hp : P ≤ p) (hp2 : p < 10) (k : Nat) (hk : k < 4) : rstV t P c (12 + 4 * p + k) = t (12 + 4 * p + k) := by
  by_cases e : k = 1
  · subst e
    exact rstU_at t c p P h10 hp
  · exact rstU_o t c (by omega) P h10
theorem SI_rst {s : Nat → Int32} {P J : Nat} (h : SI s P J) (c : Int32) : SI (rstV s P c) P J := by
  have h10 := SI_P h
  have ho : ∀ i, (i < 12 ∨ 52 ≤ i) → rstV s P c i = s i := fun i hi => rstU_o s c (by omega) P h10
  obtain ⟨⟨a1, a2, a3, a4⟩, ⟨b1, b2, b3, b4, b5, b6⟩, cc, d, e, f1, f2⟩ := id h
  refine ⟨⟨a1, a2, by rw [ho 5 (by omega)]; exact a3, by rw [ho 6 (by omega)]; exact a4⟩, ⟨by rw [ho 0 (by omega)]; exact b1, by rw [ho 1 (by omega)]; exact b2, by rw [ho 2 (by omega)]; exact b3, by rw [ho 3 (by omega)]; exact b4, by rw [ho 4 (by omega)]; exact b5, fun k hk => by rw [ho (9 + k) (by omega)]; exact b6 k hk⟩, SI_pr h c rfl (fun p _ => ⟨rfl, rfl⟩), ?_, ?_, ?_, ?_⟩
  · intro i hi
    have hx := d i hi
    unfold SIj HOW CRW at hx ⊢
    rw [ho _ (by omega), ho _ (by omega), ho _ (by omega), ho _ (by omega), ho _ (by omega), ho _ (by omega), ho _ (by omega), ho _ (by omega), ho _ (by omega), ho _ (by omega)]
    exact hx
  · intro i i2 hi hi2 hne h1 h2 p hb
    unfold HOW CRW at *
    rw [ho _ (by omega)] at h1 h2 hb ⊢
    exact e i i2 hi hi2 hne h1 h2 p hb
  · intro p hp hp2 k hk
    rw [rstV_z s c h10 p hp hp2 k hk]
    exact f1 p hp hp2 k hk
  · intro i hi hi2 k hk
    rw [ho _ (by omega)]
    exact f2 i hi hi2 k hk
/-- the row of a job with some fields changed -/
theorem SIj_mk {s s' : Nat → Int32} {P j : Nat} (h : SIj s P j) (ho : ∀ k, k < 12 → k ≠ 2 → k ≠ 5 → k ≠ 9 → k ≠ 10 → k ≠ 11 → s' (52 + 12 * j + k) = s (52 + 12 * j + k)) (h5 : rg (HOW s' j) 0 3) (h9 : rg (s' (52 + 12 * j + 9)) 0 60) (h2 : HOW s' j = 0 ∨ HOW s' j = 1 → rg (s' (52 + 12 * j + 2)) 1 9) (h6 : HOW s' j = 1 → HOW s j = 1) : SIj s' P j := by
  obtain ⟨⟨a1, a2, a3, a4, a5, a6⟩, a7, a8, a9, a10⟩ := h
  refine ⟨⟨by rw [show s' (52 + 12 * j) = s (52 + 12 * j) from ho 0 (by omega) (by omega) (by omega) (by omega) (by omega) (by omega)]; exact a1, by rw [ho 1 (by omega) (by omega) (by omega) (by omega) (by omega) (by omega)]; exact a2, by rw [ho 3 (by omega) (by omega) (by omega) (by omega) (by omega) (by omega)]; exact a3, by rw [ho 4 (by omega) (by omega) (by omega) (by omega) (by omega) (by omega)]; exact a4, h5, h9⟩, by rw [ho 8 (by omega) (by omega) (by omega) (by omega) (by omega) (by omega)]; exact a7, ?_, h2, ?_⟩
  · intro i hi h32
    rw [show CRW s' j = CRW s j from ho 7 (by omega) (by omega) (by omega) (by omega) (by omega) (by omega)]
    exact a8 i hi h32
  · intro z
    rw [ho 6 (by omega) (by omega) (by omega) (by omega) (by omega) (by omega)]
    exact a10 (h6 z)
theorem SI_wrk {s : Nat → Int32} {P J j : Nat} (h : SI s P J) (hj : j < J) (h1 : HOW s j = 1) : SI (wrkV s P j).2 P J := by
  have h10 := SI_P h
  have hr := h.2.2.2.1 j hj
  obtain ⟨n, n1, n9, en⟩ := hr.2.2.2.1 (Or.inr h1)
  obtain ⟨dl, _, hdl, edl⟩ := hr.1.2.2.2.2.2
  unfold wrkV
  by_cases c9 : s (52 + 12 * j + 9) ≤ 0
  · rw [if_neg (show ¬ ¬ s (52 + 12 * j + 9) ≤ 0 from fun z => z c9)]
    by_cases c6 : s (52 + 12 * j + 6) ≤ strV s P (CRW s j)
    · rw [if_neg (show ¬ ¬ s (52 + 12 * j + 6) ≤ strV s P (CRW s j) from fun z => z c6), en, show (1 : Int32) = nI 1 from rfl, nI_sub n1]
      have wp : ∀ p, p < P → ∃ f w, w ≤ f ∧ f ≤ 150 ∧ wrkS s P j (12 + 4 * p) = nI f ∧ wrkS s P j (12 + 4 * p + 1) = nI w := by
        intro p hp
        obtain ⟨f, w, hw, hf, ef, ew⟩ := h.2.2.1 p hp
        obtain ⟨g, _, hg, eg⟩ := h.2.1.2.2.1
        obtain ⟨v, hv, ev⟩ := dimR_n hw hf hg
        rw [wrkS_o s h10 j (by omega) (by omega) (by omega)]
        unfold wrkS carV
        rw [carU_a1 _ _ P h10 (by omega)]
        rw [upd_n _ _ (show 12 + 4 * p + 1 ≠ 7 by omega), upd_n _ _ (show 12 + 4 * p + 1 ≠ 52 + 12 * j + 2 by omega), upd_n _ _ (show 2 ≠ 7 by omega), upd_n _ _ (show 2 ≠ 52 + 12 * j + 2 by omega), ef, ew, eg, ev]
        by_cases c1 : p < P ∧ bt (CRW s j) p = true
        · exact ⟨f, v, hv, hf, rfl, if_pos c1⟩
        · exact ⟨f, w, hw, hf, rfl, if_neg c1⟩
      have wz : ∀ p, P ≤ p → p < 10 → ∀ k, k < 4 → wrkS s P j (12 + 4 * p + k) = s (12 + 4 * p + k) := by
        intro p hp hp2 k hk
        by_cases k1 : k = 1
        · subst k1
          unfold wrkS carV
          rw [carU_a1 _ _ P h10 hp2, if_neg (fun z => absurd z.1 (by omega)), upd_n _ _ (by omega), upd_n _ _ (by omega)]
        · by_cases k2 : k = 2
          · subst k2
            unfold wrkS carV
            rw [carU_a2 _ _ P h10 hp2, if_neg (fun z => absurd z.1 (by omega)), upd_n _ _ (by omega), upd_n _ _ (by omega)]
          · exact wrkS_o s h10 j (by omega) (by omega) (by omega)
      by_cases cn : n = 1
      · subst cn
        rw [if_pos (show nI (1 - 1) = 0 from rfl)]
        have eo : ∀ i, (∀ p, p < 10 → i ≠ 12 + 4 * p + 3) → i ≠ 52 + 12 * j + 5 → i ≠ 52 + 12 * j + 11 → endV (wrkS s P j) P j i = wrkS s P j i := fun i a b c => endV_o _ h10 a b c
        have e5 : HOW (endV (wrkS s P j) P j) j = 2 := by rw [endV_e s h10]; exact upd_s _ _ _
        show SI (endV (wrkS s P j) P j) P J
        refine SI_gen h hj (fun i hi h7 h8 => ?_) (fun p hp => ?_) (fun p hp hp2 k hk => ?_) (fun i hi hij => ?_) ?_ (fun z => ?_)
        · rw [eo i (by omega) (by omega) (by omega), wrkS_o s h10 j (by omega) (by omega) (by omega)]
        · rw [eo _ (by omega) (by omega) (by omega), eo _ (by omega) (by omega) (by omega)]
          exact wp p hp
        · by_cases k3 : k = 3
          · subst k3
            unfold endV
            rw [endU_a3 _ _ P h10 hp2, if_neg (fun z => absurd z.1 (by omega)), Int32.add_zero, upd_n _ _ (by omega), upd_n _ _ (by omega)]
            exact wz p hp hp2 3 hk
          · rw [eo _ (by omega) (by omega) (by omega)]
            exact wz p hp hp2 k hk
        · rw [eo _ (by omega) (by omega) (by omega), wrkS_o s h10 j (by omega) (by omega) (by omega)]
        · refine SIj_mk hr (fun k hk k2 k5 k9 k10 k11 => ?_) (by rw [e5]; exact ⟨2, by omega, by omega, rfl⟩) ?_ (fun z => ?_) (fun z => ?_)
          · rw [eo _ (by omega) (by omega) (by omega), wrkS_o s h10 j (by omega) (by omega) (by omega)]
          · rw [eo _ (by omega) (by omega) (by omega), wrkS_o s h10 j (by omega) (by omega) (by omega)]
            exact hr.1.2.2.2.2.2
          · rw [e5] at z
            exact z.elim (fun z => absurd z (by decide)) (fun z => absurd z (by decide))
          · rw [e5] at z; exact absurd z (by decide)
        · rw [e5] at z; exact absurd z (by decide)
      · rw [if_neg (show ¬ nI (n - 1) = 0 from nI_ne0 (by omega) (by omega))]
        have e5 : HOW (wrkS s P j) j = HOW s j := wrkS_o s h10 j (by omega) (by omega) (by omega)
        show SI (wrkS s P j) P J
        refine SI_gen h hj (fun i hi h7 h8 => wrkS_o s h10 j (by omega) (by omega) (by omega)) wp wz (fun i hi hij => wrkS_o s h10 j (by omega) (by omega) (by omega)) ?_ (fun z => ⟨wrkS_o s h10 j (by omega) (by omega) (by omega), h1⟩)
        refine SIj_mk hr (fun k hk k2 k5 k9 k10 k11 => wrkS_o s h10 j (by omega) (by omega) (by omega)) (by rw [e5]; exact hr.1.2.2.2.2.1) (by rw [wrkS_o s h10 j (by omega) (by omega) (by omega)]; exact hr.1.2.2.2.2.2) (fun z => ?_) (fun _ => h1)
        rw [wrkS_l s h10, en, show (1 : Int32) = nI 1 from rfl, nI_sub n1]
        exact ⟨n - 1, by omega, by omega, rfl⟩
    · rw [if_pos c6]
      have ho : ∀ i, (i < 12 ∨ 52 ≤ i) → i ≠ 8 → i ≠ 52 + 12 * j + 10 → rstV (upd (upd s (52 + 12 * j + 10) (s (52 + 12 * j + 10) + 1)) 8 (s 8 + 1)) P (CRW s j) i = s i := fun i hi h8 h10' => (rstU_o _ _ (by omega) P h10).trans (by rw [upd_n _ _ h8, upd_n _ _ h10'])
      show SI (rstV (upd (upd s (52 + 12 * j + 10) (s (52 + 12 * j + 10) + 1)) 8 (s 8 + 1)) P (CRW s j)) P J
      refine SI_gen h hj (fun i hi h7 h8 => ho i (by omega) h8 (by omega)) (SI_pr h _ (by rw [upd_n _ _ (by omega), upd_n _ _ (by omega)]) (fun p hp => ⟨by rw [upd_n _ _ (by omega), upd_n _ _ (by omega)], by rw [upd_n _ _ (by omega), upd_n _ _ (by omega)]⟩)) (fun p hp hp2 k hk => by rw [rstV_z _ _ h10 p hp hp2 k hk, upd_n _ _ (by omega), upd_n _ _ (by omega)]) (fun i hi hij => ho i (by omega) (by omega) (by omega)) ?_ (fun z => ⟨ho _ (by omega) (by omega) (by omega), h1⟩)
      refine SIj_mk hr (fun k hk k2 k5 k9 k10 k11 => ho _ (by omega) (by omega) (by omega)) (by rw [show HOW _ j = HOW s j from ho _ (by omega) (by omega) (by omega)]; exact hr.1.2.2.2.2.1) (by rw [ho _ (by omega) (by omega) (by omega)]; exact hr.1.2.2.2.2.2) (fun z => ?_) (fun _ => h1)
      rw [ho _ (by omega) (by omega) (by omega)]
      exact ⟨n, n1, n9, en⟩
  · rw [if_pos c9]
    have ho : ∀ i, (i < 12 ∨ 52 ≤ i) → i ≠ 52 + 12 * j + 9 → rstV (upd s (52 + 12 * j + 9) (s (52 + 12 * j + 9) - 1)) P (CRW s j) i = s i := fun i hi h9 => (rstU_o _ _ (by omega) P h10).trans (by rw [upd_n _ _ h9])
    have hd1 : 1 ≤ dl := by
      by_cases e : dl = 0
      · rw [edl, e] at c9; exact absurd (by decide) c9
      · omega
    show SI (rstV (upd s (52 + 12 * j + 9) (s (52 + 12 * j + 9) - 1)) P (CRW s j)) P J
    refine SI_gen h hj (fun i hi h7 h8 => ho i (by omega) (by omega)) (SI_pr h _ (by rw [upd_n _ _ (by omega)]) (fun p hp => ⟨by rw [upd_n _ _ (by omega)], by rw [upd_n _ _ (by omega)]⟩)) (fun p hp hp2 k hk => by rw [rstV_z _ _ h10 p hp hp2 k hk, upd_n _ _ (by omega)]) (fun i hi hij => ho i (by omega) (by omega)) ?_ (fun z => ⟨ho _ (by omega) (by omega), h1⟩)
    refine SIj_mk hr (fun k hk k2 k5 k9 k10 k11 => ho _ (by omega) (by omega)) (by rw [show HOW _ j = HOW s j from ho _ (by omega) (by omega)]; exact hr.1.2.2.2.2.1) ?_ (fun z => ?_) (fun _ => h1)
    · unfold rstV
      rw [rstU_o _ _ (by omega) P h10, upd_s, edl, show (1 : Int32) = nI 1 from rfl, nI_sub hd1]
      exact ⟨dl - 1, by omega, by omega, rfl⟩
    · rw [ho _ (by omega) (by omega)]
      exact ⟨n, n1, n9, en⟩
