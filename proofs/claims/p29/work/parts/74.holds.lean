/-! holds -/
theorem tht_s (s : Nat → Int32) {h : Int32} (h3 : ¬ h = 3) (j : Nat) : thtU s h (j + 1) = thtU s h j ||| (if HOW s j = h then (1 : Int32) <<< (nI j &&& 31) else 0) := by
  rw [thtU_s]
  by_cases c : HOW s j = h
  · rw [if_pos c, if_pos (by rw [if_neg h3]; exact c)]
  · rw [if_neg c, if_neg (by rw [if_neg h3]; exact c)]
theorem bu_s (s : Nat → Int32) (j : Nat) : busyU s (j + 1) = busyU s j ||| (if HOW s j = 1 then CRW s j else 0) := rfl
theorem jobU_in (s : Nat → Int32) (p : Nat) : ∀ J, jobU s p J = -6 ∨ ∃ j, j < J ∧ jobU s p J = nI j ∧ HOW s j = 1 ∧ bt (CRW s j) p = true := by
  intro J
  induction J with
  | zero => exact Or.inl rfl
  | succ J ih =>
    rw [jobU_s]
    by_cases c : HOW s J = 1 ∧ bt (CRW s J) p = true
    · rw [if_pos c]
      exact Or.inr ⟨J, by omega, rfl, c.1, c.2⟩
    · rw [if_neg c]
      rcases ih with e | ⟨j, hj, e⟩
      · exact Or.inl e
      · exact Or.inr ⟨j, by omega, e⟩
theorem hr_0 {s : Nat → Int32} {P J p : Nat} (hS : SI s P J) (hp : p < P) : hrV s p = 0 ↔ s (12 + 4 * p + 1) = s (12 + 4 * p) := by
  obtain ⟨f, w, hw, hf, ef, ew⟩ := hS.2.2.1 p hp
  obtain ⟨g, g1, g2, eg⟩ := hS.2.1.2.1
  unfold hrV
  have hm : (if (1 : Int32) < s 1 then s 1 else (1 : Int32)) = nI g := by
    rw [eg]
    by_cases c : (1 : Int32) < nI g
    · rw [if_pos c]
    · rw [if_neg c]
      have : ¬ 1 < g := fun z => c (nI_lt (a := 1) z (by omega))
      rw [show g = 1 by omega]; rfl
  rw [hm, ef, ew, nI_sub hw, nI_add, show (1 : Int32) = nI 1 from rfl, nI_sub (by omega), nI_div (by omega) (by omega), show (0 : Int32) = nI 0 from rfl]
  have hd : (f - w + g - 1) / g ≤ f - w + g - 1 := Nat.div_le_self _ _
  rw [nI_eq (by omega) (by omega), nI_eq (by omega) (by omega)]
  constructor
  · intro z
    rcases Nat.lt_or_ge w f with h | h
    · have : 0 < (f - w + g - 1) / g := Nat.div_pos (by omega) (by omega)
      omega
    · omega
  · intro z
    exact Nat.div_eq_of_lt (by omega)
section HB
variable {D : dT} {s : Nat → Int32} {P J k : Nat}
theorem hb_0 (hF : FR D 19 s P J) (hS : SI s P J) (hk : k < J) (k12 : Int32 → Int32 → Int32 → Int32 → Int32 → dT → Option (Int32 × dT)) (v1 v3 v4 s0 s1 : Int32) (hd : ojV s k 11 < 0) : F_L_holds_55 k12 v1 v3 v4 (nI k) 0 0 s0 s1 D = k12 v1 (s1 ||| s0) v3 v4 (nI (k + 1)) D := by
  have a11 : F_X5_ofJob (nI k) 11 D = some (ojV s k 11, D) := a_oj hF hS hk (q := 11) (by omega)
  unfold F_L_holds_55 F_L_holds_72 F_L_holds_90 F_L_holds_122 F_L_holds_132 F_L_holds_143 F_L_holds_159 F_L_holds_180 F_L_holds_193
  rw [if_neg (show ¬ (0 : Int32) = 1 by decide), if_neg (show ¬ (0 : Int32) = 2 by decide), if_neg (show ¬ (0 : Int32) = 1 by decide), if_pos (show (0 : Int32) = 0 from rfl), if_pos (show (0 : Int32) = 0 from rfl), if_neg (show ¬ (0 : Int32) = 2 by decide), a11, bd_some, if_pos hd, if_pos (show (0 : Int32) = 0 from rfl), if_neg (show ¬ (0 : Int32) = 2 by decide), if_neg (show ¬ (0 : Int32) = 1 by decide), Int32.or_zero, Int32.or_zero, Int32.or_zero, nI_1]
theorem hb_1 (hF : FR D 19 s P J) (hS : SI s P J) (hk : k < J) (k12 : Int32 → Int32 → Int32 → Int32 → Int32 → dT → Option (Int32 × dT)) (v1 v3 v4 s0 s1 c : Int32) (hc : ¬ c = 0) (hb : c &&& v1 = 0) (hl : ¬ ojV s k 2 < 1) (hd : ojV s k 11 < 0) : F_L_holds_55 k12 v1 v3 v4 (nI k) 1 c s0 s1 D = k12 (v1 ||| c) (s1 ||| s0) (v3 ||| ((1 : Int32) <<< (nI k &&& 31))) v4 (nI (k + 1)) D := by
  have a11 : F_X5_ofJob (nI k) 11 D = some (ojV s k 11, D) := a_oj hF hS hk (q := 11) (by omega)
  have a2 : F_X5_ofJob (nI k) 2 D = some (ojV s k 2, D) := a_oj hF hS hk (q := 2) (by omega)
  unfold F_L_holds_55 F_L_holds_72 F_L_holds_90 F_L_holds_122 F_L_holds_132 F_L_holds_143 F_L_holds_159 F_L_holds_180 F_L_holds_193
  rw [if_pos (show (1 : Int32) = 1 from rfl), if_neg (show ¬ (1 : Int32) = 2 by decide), if_pos (show (1 : Int32) = 1 from rfl), if_pos hb, if_neg hc, a2, bd_some, if_neg hl, if_neg (show ¬ (1 : Int32) = 0 by decide), if_neg (show ¬ (1 : Int32) = 2 by decide), a11, bd_some, if_pos hd, if_pos (show (0 : Int32) = 0 from rfl), if_neg (show ¬ (1 : Int32) = 2 by decide), if_pos (show (1 : Int32) = 1 from rfl), Int32.or_zero, nI_1]
theorem hb_2 (hF : FR D 19 s P J) (hS : SI s P J) (hk : k < J) (k12 : Int32 → Int32 → Int32 → Int32 → Int32 → dT → Option (Int32 × dT)) (v1 v3 v4 s0 s1 c : Int32) (hl : ojV s k 2 = 0) (hd : ¬ ojV s k 11 < 0) : F_L_holds_55 k12 v1 v3 v4 (nI k) 2 c s0 s1 D = k12 v1 (s1 ||| s0) v3 (v4 ||| ((1 : Int32) <<< (nI k &&& 31))) (nI (k + 1)) D := by
  have a11 : F_X5_ofJob (nI k) 11 D = some (ojV s k 11, D) := a_oj hF hS hk (q := 11) (by omega)
  have a2 : F_X5_ofJob (nI k) 2 D = some (ojV s k 2, D) := a_oj hF hS hk (q := 2) (by omega)
  unfold F_L_holds_55 F_L_holds_72 F_L_holds_90 F_L_holds_122 F_L_holds_132 F_L_holds_143 F_L_holds_159 F_L_holds_180 F_L_holds_193
  rw [if_neg (show ¬ (2 : Int32) = 1 by decide), if_pos (show (2 : Int32) = 2 from rfl), if_neg (show ¬ (2 : Int32) = 1 by decide), if_neg (show ¬ (2 : Int32) = 0 by decide), if_pos (show (2 : Int32) = 2 from rfl), a11, bd_some, if_neg hd, if_pos (show (1 : Int32) = 1 from rfl), if_pos (show (2 : Int32) = 2 from rfl), a2, bd_some, if_pos hl, if_neg (show ¬ (2 : Int32) = 1 by decide), Int32.or_zero, Int32.or_zero, nI_1]
theorem hb_3 (hF : FR D 19 s P J) (hS : SI s P J) (hk : k < J) (k12 : Int32 → Int32 → Int32 → Int32 → Int32 → dT → Option (Int32 × dT)) (v1 v3 v4 s0 s1 c : Int32) (hd : ojV s k 11 < 0) : F_L_holds_55 k12 v1 v3 v4 (nI k) 3 c s0 s1 D = k12 v1 (s1 ||| s0) v3 v4 (nI (k + 1)) D := by
  have a11 : F_X5_ofJob (nI k) 11 D = some (ojV s k 11, D) := a_oj hF hS hk (q := 11) (by omega)
  unfold F_L_holds_55 F_L_holds_72 F_L_holds_90 F_L_holds_122 F_L_holds_132 F_L_holds_143 F_L_holds_159 F_L_holds_180 F_L_holds_193
  rw [if_neg (show ¬ (3 : Int32) = 1 by decide), if_neg (show ¬ (3 : Int32) = 2 by decide), if_neg (show ¬ (3 : Int32) = 1 by decide), if_neg (show ¬ (3 : Int32) = 0 by decide), if_neg (show ¬ (3 : Int32) = 2 by decide), a11, bd_some, if_pos hd, if_pos (show (0 : Int32) = 0 from rfl), if_neg (show ¬ (3 : Int32) = 2 by decide), if_neg (show ¬ (3 : Int32) = 1 by decide), Int32.or_zero, Int32.or_zero, Int32.or_zero, nI_1]
end HB
/-- straps, and the counts -/
theorem h_350 {D : dT} {s : Nat → Int32} {P J : Nat} (hF : FR D 19 s P J) (hS : SI s P J) (hX : XI s J) : ∀ m k fu, k + m = 3 → m < fu → F_L_holds_350 fu (busyV s J) (thtV s J 0) (thtV s J 1) (thtV s J 2) (nI k) D = some (1, D) := by
  intro m
  induction m with
  | zero =>
    intro k fu hk hf
    obtain ⟨f, rfl⟩ := Nat.exists_eq_add_of_lt hf
    have a2 : F_X5_count 2 D = some (busyV s J, D) := a_cn hF hS (w := 2) (by omega)
    have a4 : F_X5_count 4 D = some (thtV s J 0, D) := a_cn hF hS (w := 4) (by omega)
    have a5 : F_X5_count 5 D = some (thtV s J 1, D) := a_cn hF hS (w := 5) (by omega)
    have a6 : F_X5_count 6 D = some (thtV s J 2, D) := a_cn hF hS (w := 6) (by omega)
    rw [show 0 + f + 1 = f + 1 by omega, F_L_holds_350, if_pos (show (3 : Int32) ≤ nI k from nI_le (a := 3) (by omega) (by omega)), a2, bd_some, if_pos rfl, a4, bd_some, if_pos rfl, a5, bd_some, if_pos rfl, a6, bd_some, if_pos rfl]
  | succ m ih =>
    intro k fu hk hf
    obtain ⟨f, rfl⟩ := Nat.exists_eq_add_of_lt hf
    have hi := ih (k + 1) (m + 1 + f) (by omega) (by omega)
    obtain ⟨w, c, hw, hc, ew, e⟩ := free_bd hS (k := k) (by omega)
    have h0 := hX.2 k (by omega)
    rw [F_L_holds_350, if_neg (show ¬ (3 : Int32) ≤ nI k from nI_ge (b := 3) (by omega) (by omega)), a_st1 hF (by omega), bd_some, if_neg (by rw [lt_toInt, show (0 : Int32).toInt = 0 from rfl]; omega), a_st1 hF (by omega), bd_some, a_st0 hF (by omega), bd_some, if_neg (by rw [lt_toInt, ew, nI_toInt (by omega)]; omega), a_st0 hF (by omega), bd_some, if_pos (by rw [ew]; exact nI_le (b := 9) hw (by omega)), nI_1]
    exact hi
/-- people -/
theorem h_204 {D : dT} {s : Nat → Int32} {P J : Nat} (hF : FR D 19 s P J) (hS : SI s P J) (hX : XI s J) : ∀ m k fu, k + m = P → m < fu → F_L_holds_204 fu (busyV s J) (thtV s J 0) (thtV s J 1) (thtV s J 2) (nI k) D = some (1, D) := by
  have h10 := SI_P hS
  have h16 := SI_J hS
  intro m
  induction m with
  | zero =>
    intro k fu hk hf
    obtain ⟨f, rfl⟩ := Nat.exists_eq_add_of_lt hf
    rw [show 0 + f + 1 = f + 1 by omega, F_L_holds_204, a_c1 hF hS, bd_some, if_pos (nI_le (by omega) (by omega))]
    exact h_350 hF hS hX 3 0 lim (by omega) (lim_lt (by omega))
  | succ m ih =>
    intro k fu hk hf
    obtain ⟨f, rfl⟩ := Nat.exists_eq_add_of_lt hf
    have hi := ih (k + 1) (m + 1 + f) (by omega) (by omega)
    have hp : k < P := by omega
    obtain ⟨fl, w, hw, hfl, efl, ew⟩ := hS.2.2.1 k hp
    have b0 : F_X5_of (nI k) 0 D = some (s (12 + 4 * k), D) := a_of hF hS hp (w := 0) (by omega)
    have b1 : F_X5_of (nI k) 1 D = some (s (12 + 4 * k + 1), D) := a_of hF hS hp (w := 1) (by omega)
    have b2 : F_X5_of (nI k) 2 D = some (jobV s J k, D) := a_of hF hS hp (w := 2) (by omega)
    have b5 : F_X5_of (nI k) 5 D = some (hrV s k, D) := a_of hF hS hp (w := 5) (by omega)
    have fin : ∀ k204 : Int32 → Int32 → Int32 → Int32 → Int32 → dT → Option (Int32 × dT), F_L_holds_299 k204 (busyV s J) (thtV s J 0) (thtV s J 1) (thtV s J 2) (nI k) D = k204 (busyV s J) (thtV s J 0) (thtV s J 1) (thtV s J 2) (nI k + 1) D := by
      intro k204
      unfold F_L_holds_299 F_L_holds_314 F_L_holds_336
      rw [b5, bd_some]
      by_cases c : hrV s k = 0
      · rw [if_pos c, b1, bd_some, b0, bd_some, if_pos ((hr_0 hS hp).mp c), if_pos (show (1 : Int32) = 1 from rfl)]
      · rw [if_neg c, b1, bd_some, b0, bd_some, if_neg (fun z => c ((hr_0 hS hp).mpr z)), if_pos (show (0 : Int32) = 0 from rfl)]
    rw [F_L_holds_204, a_c1 hF hS, bd_some, if_neg (nI_ge (by omega) (by omega)), b2, bd_some, b1, bd_some, if_neg (by rw [ew]; exact nI_pos (by omega)), b1, bd_some, b0, bd_some, if_neg (by rw [ew, efl]; exact nI_nlt hw (by omega))]
    unfold F_L_holds_260 F_L_holds_275
    rw [sh_bit _ k (by omega), fin]
    rcases jobU_in s k J with e | ⟨j, hj, e, h1, hb⟩
    · have e : jobV s J k = -6 := e
      rw [(busy_job h16 k).mp e, e, if_pos (show (-6 : Int32) < 0 by decide), if_neg (show ¬ (false = true) by decide), if_neg (show ¬ (0 : Int32) = 1 by decide), if_pos (show (0 : Int32) = 0 from rfl), if_pos (show (-6 : Int32) < 0 by decide), nI_1]
      exact hi
    · have e : jobV s J k = nI j := e
      have hbb : bt (busyV s J) k = true := by
        cases hz : bt (busyV s J) k
        · have := (busy_job h16 k).mpr hz
          rw [e] at this
          exact absurd this (nI_n6 (by omega))
        · rfl
      have a7 : F_X5_ofJob (nI j) 7 D = some (CRW s j, D) := a_oj hF hS hj (q := 7) (by omega)
      rw [hbb, e, if_neg (nI_pos (by omega)), if_pos (show true = true from rfl), if_pos (show (1 : Int32) = 1 from rfl), if_pos (show (1 : Int32) = 1 from rfl), if_neg (nI_pos (by omega)), a7, bd_some, sh_bit _ k (by omega), hb, if_pos (show true = true from rfl), if_neg (show ¬ (1 : Int32) = 0 by decide), fin, nI_1]
      exact hi
/-- jobs -/
theorem h_12 {D : dT} {s : Nat → Int32} {P J : Nat} (hF : FR D 19 s P J) (hS : SI s P J) (hX : XI s J) : ∀ m k fu, k + m = J → m < fu → F_L_holds_12 fu (busyU s k) (thtU s 0 k) (thtU s 1 k) (thtU s 2 k) (nI k) D = some (1, D) := by
  have h10 := SI_P hS
  have h16 := SI_J hS
  intro m
  induction m with
  | zero =>
    intro k fu hk hf
    obtain ⟨f, rfl⟩ := Nat.exists_eq_add_of_lt hf
    rw [show 0 + f + 1 = f + 1 by omega, F_L_holds_12, a_c3 hF hS, bd_some, if_pos (nI_le (by omega) (by omega)), show k = J by omega]
    exact h_204 hF hS hX P 0 lim (by omega) (lim_lt (by omega))
  | succ m ih =>
    intro k fu hk hf
    obtain ⟨f, rfl⟩ := Nat.exists_eq_add_of_lt hf
    have hi := ih (k + 1) (m + 1 + f) (by omega) (by omega)
    have hp : k < J := by omega
    have hx := hX.1 k hp
    have a5 : F_X5_ofJob (nI k) 5 D = some (HOW s k, D) := a_oj hF hS hp (q := 5) (by omega)
    have a7 : F_X5_ofJob (nI k) 7 D = some (CRW s k, D) := a_oj hF hS hp (q := 7) (by omega)
    have o11 : ojV s k 11 = s (52 + 12 * k + 11) := rfl
    have o2 : ojV s k 2 = s (52 + 12 * k + 2) := rfl
    have neg : ¬ HOW s k = 2 → ojV s k 11 < 0 := fun z => by rw [o11, hx.2.2.2 z]; decide
    rw [bu_s, tht_s s (h := 0) (by decide), tht_s s (h := 1) (by decide), tht_s s (h := 2) (by decide)] at hi
    rw [F_L_holds_12, a_c3 hF hS, bd_some, if_neg (nI_ge (by omega) (by omega)), a5, bd_some, a7, bd_some]
    rcases how_c hS hp with e | e | e | e
    · rw [e, if_neg (show ¬ (0 : Int32) = 1 by decide), if_pos (show (0 : Int32) = 0 from rfl), if_neg (show ¬ (0 : Int32) = 1 by decide), if_neg (show ¬ (0 : Int32) = 2 by decide), Int32.or_zero, Int32.or_zero, Int32.or_zero] at hi
      rw [e, hx.1 e, if_pos (show (0 : Int32) = 0 from rfl), hb_0 hF hS hp _ _ _ _ _ _ (neg (by rw [e]; decide))]
      exact hi
    · rw [e, if_pos (show (1 : Int32) = 1 from rfl), if_neg (show ¬ (1 : Int32) = 0 by decide), if_pos (show (1 : Int32) = 1 from rfl), if_neg (show ¬ (1 : Int32) = 2 by decide), Int32.or_zero, Int32.or_zero] at hi
      obtain ⟨n, n1, n9, en⟩ := (hS.2.2.2.1 k hp).2.2.2.1 (Or.inr e)
      have hd : CRW s k &&& busyU s k = 0 := by
        apply b_ext
        intro i hi2
        rw [b_and, b_0]
        cases hb : bt (CRW s k) i
        · rfl
        · rw [Bool.true_and]
          refine (busyU_iff s i k).mpr (fun j hj h1 => ?_)
          cases hb2 : bt (CRW s j) i
          · rfl
          · have := hS.2.2.2.2.1 j k (by omega) hp (by omega) h1 e i hb2
            rw [hb] at this; cases this
      rw [e, if_neg (show ¬ (1 : Int32) = 0 by decide), hb_1 hF hS hp _ _ _ _ _ _ _ (hx.2.1 e) hd (by rw [o2, en]; exact nI_nlt (a := n) (b := 1) n1 (by omega)) (neg (by rw [e]; decide)), Int32.or_zero]
      exact hi
    · rw [e, if_neg (show ¬ (2 : Int32) = 1 by decide), if_neg (show ¬ (2 : Int32) = 0 by decide), if_neg (show ¬ (2 : Int32) = 1 by decide), if_pos (show (2 : Int32) = 2 from rfl), Int32.or_zero, Int32.or_zero, Int32.or_zero] at hi
      rw [e, if_neg (show ¬ (2 : Int32) = 0 by decide), hb_2 hF hS hp _ _ _ _ _ _ _ (by rw [o2]; exact (hx.2.2.1 e).1) (by rw [o11]; exact Int32.not_lt.mpr (hx.2.2.1 e).2), Int32.or_zero]
      exact hi
    · rw [e, if_neg (show ¬ (3 : Int32) = 1 by decide), if_neg (show ¬ (3 : Int32) = 0 by decide), if_neg (show ¬ (3 : Int32) = 1 by decide), if_neg (show ¬ (3 : Int32) = 2 by decide), Int32.or_zero, Int32.or_zero, Int32.or_zero, Int32.or_zero] at hi
      rw [e, if_neg (show ¬ (3 : Int32) = 0 by decide), hb_3 hF hS hp _ _ _ _ _ _ _ (neg (by rw [e]; decide)), Int32.or_zero]
      exact hi
theorem h_all {D : dT} {s : Nat → Int32} {n : Nat} (hD : FS D 19 s) (hK : KK s n) : F_L_holds D = some (1, D) := by
  obtain ⟨P, J, h, hS, hX, _, _⟩ := hK
  exact h_12 (FS_at hD hS) hS hX J 0 lim (by omega) (lim_lt (by have := SI_J hS; omega))
