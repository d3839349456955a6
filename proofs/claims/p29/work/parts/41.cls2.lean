/-! who is busy -/
theorem jobU_iff (s : Nat → Int32) (p : Nat) : ∀ J, J ≤ 16 → (jobU s p J = -6 ↔ ∀ j, j < J → HOW s j = 1 → bt (CRW s j) p = false) := by
  intro J
  induction J with
  | zero => intro _; exact ⟨fun _ j hj => absurd hj (by omega), fun _ => rfl⟩
  | succ J ih =>
    intro h
    rw [jobU_s]
    by_cases c : HOW s J = 1 ∧ bt (CRW s J) p = true
    · rw [if_pos c]
      refine ⟨fun z => ?_, fun z => ?_⟩
      · exact absurd z ((by decide +kernel : ∀ j, j < 16 → ¬ nI j = -6) J (by omega))
      · have := z J (by omega) c.1
        rw [c.2] at this; cases this
    · rw [if_neg c, ih (by omega)]
      refine ⟨fun z j hj h1 => ?_, fun z j hj h1 => z j (by omega) h1⟩
      by_cases e : j = J
      · subst e
        cases hb : bt (CRW s j) p
        · rfl
        · exact absurd ⟨h1, hb⟩ c
      · exact z j (by omega) h1
theorem busyU_iff (s : Nat → Int32) (i : Nat) : ∀ J, (bt (busyU s J) i = false ↔ ∀ j, j < J → HOW s j = 1 → bt (CRW s j) i = false) := by
  intro J
  induction J with
  | zero => exact ⟨fun _ j hj => absurd hj (by omega), fun _ => b_0 i⟩
  | succ J ih =>
    rw [busyU_s, b_or]
    by_cases c : HOW s J = 1
    · rw [if_pos (show s (52 + 12 * J + 5) = 1 from c), Bool.or_eq_false_iff, ih]
      refine ⟨fun z j hj h1 => ?_, fun z => ⟨fun j hj h1 => z j (by omega) h1, z J (by omega) c⟩⟩
      by_cases e : j = J
      · subst e; exact z.2
      · exact z.1 j (by omega) h1
    · rw [if_neg (show ¬ s (52 + 12 * J + 5) = 1 from c), b_0, Bool.or_false, ih]
      refine ⟨fun z j hj h1 => ?_, fun z j hj h1 => z j (by omega) h1⟩
      by_cases e : j = J
      · subst e; exact absurd h1 c
      · exact z j (by omega) h1
theorem busy_hi {s : Nat → Int32} {P J : Nat} (h : SI s P J) (i : Nat) (hi : P ≤ i) (h32 : i < 32) : bt (busyV s J) i = false := (busyU_iff s i J).mpr (fun j hj _ => (h.2.2.2.1 j hj).2.2.1 i hi h32)
theorem busy_job {s : Nat → Int32} {J : Nat} (h16 : J ≤ 16) (i : Nat) : jobV s J i = -6 ↔ bt (busyV s J) i = false := (jobU_iff s i J h16).trans (busyU_iff s i J).symm
def cbU (s : Nat → Int32) (J : Nat) : Nat → Int32
  | 0 => 0
  | p + 1 => if jobV s J p = -6 then cbU s J p else cbU s J p ||| ((1 : Int32) <<< (nI p &&& 31))
theorem cbU_s (s : Nat → Int32) (J p : Nat) : cbU s J (p + 1) = if jobV s J p = -6 then cbU s J p else cbU s J p ||| ((1 : Int32) <<< (nI p &&& 31)) := rfl
theorem cbU_b (s : Nat → Int32) {J : Nat} (h16 : J ≤ 16) {i : Nat} (hi : i < 32) : ∀ p, p ≤ 32 → bt (cbU s J p) i = (decide (i < p) && bt (busyV s J) i) := by
  intro p
  induction p with
  | zero => intro _; rw [decide_eq_false (by omega)]; exact b_0 i
  | succ p ih =>
    intro hp
    rw [cbU_s]
    by_cases c : jobV s J p = -6
    · rw [if_pos c, ih (by omega)]
      by_cases e : i = p
      · subst e
        rw [(busy_job h16 i).mp c, Bool.and_false, Bool.and_false]
      · congr 1
        by_cases l : i < p
        · rw [decide_eq_true l, decide_eq_true (by omega)]
        · rw [decide_eq_false l, decide_eq_false (by omega)]
    · rw [if_neg c, b_or, sh_one (by omega) hi, ih (by omega)]
      by_cases e : i = p
      · subst e
        have : bt (busyV s J) i = true := by
          cases hb : bt (busyV s J) i
          · exact absurd ((busy_job h16 i).mpr hb) c
          · rfl
        rw [this, decide_eq_true (show i = i from rfl), decide_eq_true (show i < i + 1 by omega), Bool.or_true]; rfl
      · rw [decide_eq_false e, Bool.or_false]
        congr 1
        by_cases l : i < p
        · rw [decide_eq_true l, decide_eq_true (by omega)]
        · rw [decide_eq_false l, decide_eq_false (by omega)]
theorem cbU_P {s : Nat → Int32} {P J : Nat} (h : SI s P J) : cbU s J P = busyV s J := by
  apply b_ext
  intro i hi
  rw [cbU_b s (SI_J h) hi P (by have := SI_P h; omega)]
  by_cases l : i < P
  · rw [decide_eq_true l, Bool.true_and]
  · rw [decide_eq_false l, Bool.false_and, busy_hi h i (by omega) hi]
theorem c_busy_l {D : dT} {B : Nat} {s : Nat → Int32} {P J : Nat} (h : FR D B s P J) (h10 : P ≤ 10) : ∀ m k fuel, k + m = P → m < fuel → F_X0_busyPeople_4 fuel B (cbU s J k) (nI k) D = some (cbU s J P, D) := by
  intro m
  induction m with
  | zero =>
    intro k fuel hk hf
    obtain ⟨f, rfl⟩ := Nat.exists_eq_add_of_lt hf
    rw [show 0 + f + 1 = f + 1 by omega, F_X0_busyPeople_4, FR_P h, if_pos (nI_le (by omega) (by omega)), show k = P by omega]
  | succ m ih =>
    intro k fuel hk hf
    obtain ⟨f, rfl⟩ := Nat.exists_eq_add_of_lt hf
    have hi := ih (k + 1) (m + 1 + f) (by omega) (by omega)
    rw [F_X0_busyPeople_4, FR_P h, if_neg (nI_ge (by omega) (by omega)), if_pos (inRn (by omega) (by omega)), nI_clamp (by omega), FR_p2 h (by omega), nI_1]
    rw [cbU_s] at hi
    by_cases c : jobV s J k = -6
    · rw [if_pos c]; rw [if_pos c] at hi; exact hi
    · rw [if_neg c]; rw [if_neg c] at hi; exact hi
theorem c_busy {D : dT} {B : Nat} {s : Nat → Int32} {P J : Nat} (h : FR D B s P J) (hS : SI s P J) : F_X0_busyPeople B D = some (busyV s J, D) := by
  rw [← cbU_P hS]
  exact c_busy_l h (SI_P hS) P 0 lim (by omega) (lim_lt (by have := SI_P hS; omega))
/-! strength -/
theorem c_str_l {D : dT} {B : Nat} {s : Nat → Int32} {P J : Nat} (h : FR D B s P J) (h10 : P ≤ 10) (c : Int32) : ∀ m k fuel, k + m = P → m < fuel → F_X0_strengthOf_4 fuel B c (strU s c k) (nI k) D = some (strU s c P, D) := by
  intro m
  induction m with
  | zero =>
    intro k fuel hk hf
    obtain ⟨f, rfl⟩ := Nat.exists_eq_add_of_lt hf
    rw [show 0 + f + 1 = f + 1 by omega, F_X0_strengthOf_4, FR_P h, if_pos (nI_le (by omega) (by omega)), show k = P by omega]
  | succ m ih =>
    intro k fuel hk hf
    obtain ⟨f, rfl⟩ := Nat.exists_eq_add_of_lt hf
    have hi := ih (k + 1) (m + 1 + f) (by omega) (by omega)
    rw [F_X0_strengthOf_4, FR_P h, if_neg (nI_ge (by omega) (by omega)), c_isIn k (by omega), bd_some, nI_1]
    rw [strU_s] at hi
    cases hb : bt c k
    · rw [hb, if_neg (by decide), Int32.add_zero] at hi
      rw [if_pos (by decide)]
      exact hi
    · rw [hb, if_pos rfl] at hi
      rw [if_neg (by decide), if_pos (inRn (by omega) (by omega)), nI_clamp (by omega), FR_p1 h (by omega)]
      exact hi
theorem c_str {D : dT} {B : Nat} {s : Nat → Int32} {P J : Nat} (h : FR D B s P J) (h10 : P ≤ 10) (c : Int32) : F_X0_strengthOf B c D = some (strV s P c, D) := c_str_l h h10 c P 0 lim (by omega) (lim_lt (by omega))
/-! the strongest -/
def mstV (s : Nat → Int32) (x : Int32) : Int32 := if x = -6 then -1 else s (12 + 4 * x.toNatClampNeg + 1)
theorem c_stg_l {D : dT} {B : Nat} {s : Nat → Int32} {P J : Nat} (h : FR D B s P J) (hS : SI s P J) (c : Int32) : ∀ m k fuel, k + m = P → m < fuel → F_X0_strongestOutside_8 fuel B c (stgU s c k) (mstV s (stgU s c k)) (nI k) D = some (stgU s c P, D) := by
  have h10 := SI_P hS
  intro m
  induction m with
  | zero =>
    intro k fuel hk hf
    obtain ⟨f, rfl⟩ := Nat.exists_eq_add_of_lt hf
    rw [show 0 + f + 1 = f + 1 by omega, F_X0_strongestOutside_8, FR_P h, if_pos (nI_le (by omega) (by omega)), show k = P by omega]
  | succ m ih =>
    intro k fuel hk hf
    obtain ⟨f, rfl⟩ := Nat.exists_eq_add_of_lt hf
    have hi := ih (k + 1) (m + 1 + f) (by omega) (by omega)
    rw [F_X0_strongestOutside_8, FR_P h, if_neg (nI_ge (by omega) (by omega)), c_isIn k (by omega), bd_some, nI_1]
    rw [stgU_s] at hi
    cases hb : bt c k
    · rw [if_pos (by decide), if_pos (inRn (by omega) (by omega))]
      simp only [nI_clamp (show k < 2 ^ 31 by omega), FR_p1 h (show k < P by omega)]
      rw [if_pos (inRn (show k < 10 by omega) (by omega))]
      rw [hb, if_neg (by decide)] at hi
      have hk6 : mstV s (nI k) = s (12 + 4 * k + 1) := by
        unfold mstV
        rw [if_neg ((by decide +kernel : ∀ j, j < 16 → ¬ nI j = -6) k (by omega)), nI_clamp (by omega)]
      by_cases c1 : stgU s c k = -6
      · rw [if_pos c1, hk6] at hi
        obtain ⟨f0, w, _, _, _, e⟩ := hS.2.2.1 k (by omega)
        rw [if_neg (by rw [e, c1]; show ¬ nI w ≤ -1; rw [le_toInt, nI_toInt (by omega)]; show ¬ (w : Int) ≤ -1; omega)]
        exact hi
      · rw [if_neg c1] at hi
        rw [show mstV s (stgU s c k) = s (12 + 4 * (stgU s c k).toNatClampNeg + 1) from if_neg c1]
        by_cases c2 : s (12 + 4 * k + 1) ≤ s (12 + 4 * (stgU s c k).toNatClampNeg + 1)
        · rw [if_pos c2]
          rw [if_pos c2, show mstV s (stgU s c k) = s (12 + 4 * (stgU s c k).toNatClampNeg + 1) from if_neg c1] at hi
          exact hi
        · rw [if_neg c2]
          rw [if_neg c2, hk6] at hi
          exact hi
    · rw [if_neg (by decide)]
      rw [hb, if_pos rfl] at hi
      exact hi
theorem c_stg {D : dT} {B : Nat} {s : Nat → Int32} {P J : Nat} (h : FR D B s P J) (hS : SI s P J) (c : Int32) : F_X0_strongestOutside B c D = some (stgV s P c, D) := c_stg_l h hS c P 0 lim (by omega) (lim_lt (by have := SI_P hS; omega))
