/-! set and buy -/
theorem r_least (D : dT) : ∀ k, k < 4 → F_X6_leastOf (nI k) D = some (sDat 1 k, D) := by
  intro k hk
  have : k = 0 ∨ k = 1 ∨ k = 2 ∨ k = 3 := by omega
  rcases this with rfl | rfl | rfl | rfl <;> rfl
theorem r_most (D : dT) : ∀ k, k < 4 → F_X6_mostOf (nI k) D = some (sDat 2 k, D) := by
  intro k hk
  have : k = 0 ∨ k = 1 ∨ k = 2 ∨ k = 3 := by omega
  rcases this with rfl | rfl | rfl | rfl <;> rfl
theorem in_3 {x : Int32} : (0 ≤ x ∧ x ≤ 3) ↔ inR x 4 := by
  rw [inR_iff, le_toInt, le_toInt, show (0 : Int32).toInt = 0 from rfl, show (3 : Int32).toInt = 3 from rfl]
  omega
def stR (x v : Int32) (E : dT) : Option (Int32 × dT) := if inR x 4 ∧ sDat 1 x.toNatClampNeg ≤ v ∧ v ≤ sDat 2 x.toNatClampNeg then some (0, E) else some (-2, E)
def stA (x v : Int32) (E : dT) : Option (Int32 × dT) := some (E 379 x.toNatClampNeg, up2 E 379 x.toNatClampNeg v)
theorem st_nn {s : Nat → Int32} {P J k : Nat} (h : SI s P J) (hk : k < 4) : ¬ s k < 0 := by
  have hb : ∃ a b, b < 100 ∧ rg (s k) a b := by
    obtain ⟨b1, b2, b3, b4, _, _⟩ := h.2.1
    have : k = 0 ∨ k = 1 ∨ k = 2 ∨ k = 3 := by omega
    rcases this with rfl | rfl | rfl | rfl
    · exact ⟨_, _, by omega, b1⟩
    · exact ⟨_, _, by omega, b2⟩
    · exact ⟨_, _, by omega, b3⟩
    · exact ⟨_, _, by omega, b4⟩
  obtain ⟨a, b, hb, n, _, hn, e⟩ := hb
  rw [e]
  exact nI_pos (by omega)
theorem k_set {D : dT} {s : Nat → Int32} {P J : Nat} (hF : FR D 19 s P J) (hS : SI s P J) (x v : Int32) : lock s D (F_X0_changeSetting 19 x v D) (stR x v) (stA x v) := by
  by_cases hx : inR x 4
  · obtain ⟨k, hk, rfl⟩ := inR_of hx (by omega)
    have hc : (nI k).toNatClampNeg = k := nI_clamp (by omega)
    by_cases hv : sDat 1 k ≤ v ∧ v ≤ sDat 2 k
    · obtain ⟨D', a, b, c⟩ := c_set0 hF (SI_P hS) hk hv
      refine Or.inr ⟨_, _, D', P, J, st_nn hS hk, a, fun E hE => ?_, fun E hE => ?_, b, SI_set hS hk hv, c⟩
      · exact if_pos ⟨hx, by rw [hc]; exact hv⟩
      · unfold stA
        rw [hc, ws_up, hE]
    · refine Or.inl ⟨-2, by decide, c_set2 D 19 hk hv, fun E hE => if_neg (fun z => hv (by have := z.2; rw [hc] at this; exact this))⟩
  · exact Or.inl ⟨-2, by decide, c_set1 D 19 hx, fun E hE => if_neg (fun z => hx z.1)⟩
theorem r_set (D : dT) (x v : Int32) : F_X6_set x v D = bd (stR x v (up2 D 378 0 (0 : Int32))) (fun (r1 : Int32) (D2 : dT) => if r1 = 0 then bd (F_X6_records D2) (fun (_ : Int32) (D4 : dT) => bd (stA x v D4) (fun (r5 : Int32) (D6 : dT) => some (r5, D6))) else some (r1, D2)) := by
  unfold F_X6_set stR
  rw [r_in, bd_some]
  by_cases hx : inR x 4
  · obtain ⟨k, hk, rfl⟩ := inR_of hx (by omega)
    have hr : inR (nI k) 244 := inRn (by omega) (by omega)
    rw [if_pos (in_3.mpr hx), if_neg o10, r_least _ k hk, bd_some, r_most _ k hk, bd_some, r_in, bd_some]
    by_cases hv : sDat 1 k ≤ v ∧ v ≤ sDat 2 k
    · rw [if_pos hv, if_neg o10, if_pos ⟨hx, by rw [nI_clamp (by omega)]; exact hv⟩, bd_some, if_pos (show (0 : Int32) = 0 from rfl)]
      unfold stA
      simp only [if_pos hr, bd_some]
    · rw [if_neg hv, if_pos rfl, if_neg (fun z => hv (by have := z.2; rw [nI_clamp (by omega)] at this; exact this)), bd_some, if_neg (by decide)]
  · rw [if_neg (fun z => hx (in_3.mp z)), if_pos rfl, if_neg (fun z => hx z.1), bd_some, if_neg (by decide)]
theorem b_set {D : dT} (h : RR D) (a b : Int32) : both D (F_X5_set a b) (F_X6_set a b) := by
  obtain ⟨v, D1, D2, x, y, z⟩ := chg h (op := F_X0_changeSetting 19 a b) (r := stR a b) (a := stA a b) (fun _ _ _ _ hF hS => k_set hF hS a b)
  exact ⟨v, D1, D2, x, by rw [r_set]; exact y, z⟩
def byR (x : Int32) (E : dT) : Option (Int32 × dT) := if inR x 3 then (if E 379 (9 + x.toNatClampNeg) = 9 then some (-4, E) else some (0, E)) else some (-1, E)
def byA (x : Int32) (E : dT) : Option (Int32 × dT) := some (E 379 (9 + x.toNatClampNeg) + 1, up2 E 379 (9 + x.toNatClampNeg) (E 379 (9 + x.toNatClampNeg) + 1))
theorem k_buy {D : dT} {s : Nat → Int32} {P J : Nat} (hF : FR D 19 s P J) (hS : SI s P J) (x : Int32) : lock s D (F_X0_addStraps 19 x D) (byR x) (byA x) := by
  by_cases hx : inR x 3
  · obtain ⟨k, hk, rfl⟩ := inR_of hx (by omega)
    have hc : (nI k).toNatClampNeg = k := nI_clamp (by omega)
    by_cases hv : s (9 + k) = 9
    · refine Or.inl ⟨-4, by decide, c_buy2 hF hk hv, fun E hE => ?_⟩
      unfold byR
      rw [if_pos hx, if_pos (by rw [hc, hE]; exact hv)]
    · obtain ⟨D', a, b, c⟩ := c_buy0 hF hS hk hv
      refine Or.inr ⟨_, _, D', P, J, ?_, a, fun E hE => ?_, fun E hE => ?_, b, SI_buy hS hk hv, c⟩
      · obtain ⟨n, _, hn, e⟩ := hS.2.1.2.2.2.2.2 k hk
        rw [e, nI_1]
        exact nI_pos (by omega)
      · unfold byR
        rw [if_pos hx, if_neg (by rw [hc, hE]; exact hv)]
      · unfold byA buyV
        rw [hc, ws_up, hE]
  · exact Or.inl ⟨-1, by decide, c_buy1 D 19 hx, fun E hE => if_neg hx⟩
theorem r_buy (D : dT) (x : Int32) : F_X6_buy x D = bd (byR x (up2 D 378 0 (0 : Int32))) (fun (r1 : Int32) (D2 : dT) => if r1 = 0 then bd (F_X6_records D2) (fun (_ : Int32) (D4 : dT) => bd (byA x D4) (fun (r5 : Int32) (D6 : dT) => some (r5, D6))) else some (r1, D2)) := by
  unfold F_X6_buy byR
  rw [r_in, bd_some]
  by_cases hx : inR x 3
  · obtain ⟨k, hk, rfl⟩ := inR_of hx (by omega)
    have hr : inR (nI (9 + k)) 244 := inRn (by omega) (by omega)
    rw [if_pos (in_2.mpr hx), if_neg o10, if_pos hx, show (9 : Int32) + nI k = nI (9 + k) from nI_add 9 k]
    unfold byA
    simp only [if_pos hr, nI_clamp (show 9 + k < 2 ^ 31 by omega), nI_clamp (show k < 2 ^ 31 by omega), up2_self]
    by_cases hv : (up2 D 378 0 (0 : Int32)) 379 (9 + k) = 9
    · rw [if_pos hv, if_pos hv, bd_some, if_neg (by decide)]
    · rw [if_neg hv, if_neg hv, bd_some, if_pos (show (0 : Int32) = 0 from rfl)]
      rfl
  · rw [if_neg (fun z => hx (in_2.mp z)), if_pos rfl, if_neg hx, bd_some, if_neg (by decide)]
theorem b_buy {D : dT} (h : RR D) (a : Int32) : both D (F_X5_buy a) (F_X6_buy a) := by
  obtain ⟨v, D1, D2, x, y, z⟩ := chg h (op := F_X0_addStraps 19 a) (r := byR a) (a := byA a) (fun _ _ _ _ hF hS => k_buy hF hS a)
  exact ⟨v, D1, D2, x, by rw [r_buy]; exact y, z⟩
