/-! crews -/
theorem pw_n : ∀ P, P < 11 → (1 : Int32) <<< (nI P &&& 31) = nI (2 ^ P) := by decide +kernel
theorem pw_m : ∀ P, P < 11 → ∀ i, i < 32 → bt ((((1 : Int32) <<< (nI P &&& 31)) - 1) ^^^ (-1)) i = decide (P ≤ i) := by decide +kernel
theorem pw_le {P : Nat} (h : P ≤ 10) : 2 ^ P ≤ 1024 := Nat.pow_le_pow_right (n := 2) (by decide) h
theorem crew_iff {P : Nat} (h10 : P ≤ 10) (c : Int32) : (∀ i, P ≤ i → i < 32 → bt c i = false) ↔ c &&& ((((1 : Int32) <<< (nI P &&& 31)) - 1) ^^^ (-1)) = 0 := by
  constructor
  · intro h
    apply b_ext
    intro i hi
    rw [b_and, pw_m P (by omega) i hi, b_0]
    by_cases l : P ≤ i
    · rw [h i l hi, Bool.false_and]
    · rw [decide_eq_false l, Bool.and_false]
  · intro h i l hi
    have := congrArg (fun z => bt z i) h
    simp only [b_and, pw_m P (by omega) i hi, b_0, decide_eq_true l, Bool.and_true] at this
    exact this
theorem crew_n {P : Nat} (h10 : P ≤ 10) (c : Int32) : ¬ (c ≤ 0 ∨ (1 : Int32) <<< (nI P &&& 31) ≤ c) ↔ ∃ n, 0 < n ∧ n < 2 ^ P ∧ c = nI n := by
  have hp := pw_le h10
  rw [pw_n P (by omega)]
  constructor
  · intro h
    obtain ⟨n, hn, rfl⟩ := nI_of (x := c) (fun z => h (Or.inl (by rw [le_toInt]; rw [lt_toInt] at z; omega)))
    refine ⟨n, ?_, ?_, rfl⟩
    · by_cases e : n = 0
      · subst e; exact absurd (Or.inl (by decide)) h
      · omega
    · by_cases e : 2 ^ P ≤ n
      · exact absurd (Or.inr (nI_le e hn)) h
      · omega
  · rintro ⟨n, h0, hn, rfl⟩ z
    cases z with
    | inl z => exact nI_nle h0 (by omega) z
    | inr z => exact nI_ge hn (by omega) z
theorem crew_bits {P n : Nat} (hn : n < 2 ^ P) (i : Nat) (hi : P ≤ i) (h32 : i < 32) : bt (nI n) i = false := by
  rw [b_nI n i h32]
  exact Nat.testBit_lt_two_pow (Nat.lt_of_lt_of_le hn (Nat.pow_le_pow_right (by decide) hi))
theorem c_isCrew {D : dT} {B : Nat} {s : Nat → Int32} {P J : Nat} (h : FR D B s P J) (h10 : P ≤ 10) (c : Int32) : F_X0_isCrew B c D = some (if c ≤ 0 ∨ (1 : Int32) <<< (nI P &&& 31) ≤ c ∨ s 3 < onesV c then 0 else 1, D) := by
  unfold F_X0_isCrew
  rw [FR_P h]
  have hn := crew_n h10 c
  by_cases c0 : c = 0
  · rw [if_pos c0, if_pos (Or.inl (by rw [c0]; decide))]
  · rw [if_neg c0]
    by_cases c1 : c &&& ((((1 : Int32) <<< (nI P &&& 31)) - 1) ^^^ (-1)) = 0
    · rw [if_pos c1]
      obtain ⟨n, hlt, rfl⟩ := c_small h10 ((crew_iff h10 c).mpr c1)
      have hp := pw_le h10
      have hz : 0 < n := by
        by_cases e : n = 0
        · subst e; exact absurd rfl c0
        · omega
      have hno := hn.mpr ⟨n, hz, hlt, rfl⟩
      rw [c_bitCount D (by omega), bd_some, if_pos (by decide), t3, FR_set h 3 (by omega)]
      by_cases c2 : s 3 < onesV (nI n)
      · rw [if_pos c2, if_pos (Or.inr (Or.inr c2))]
      · rw [if_neg c2, if_neg (fun z => z.elim (fun z => hno (Or.inl z)) (fun z => z.elim (fun z => hno (Or.inr z)) c2))]
    · rw [if_neg c1, if_pos]
      apply Decidable.byContradiction
      intro z
      obtain ⟨n, _, hlt, rfl⟩ := hn.mp (fun w => w.elim (fun w => z (Or.inl w)) (fun w => z (Or.inr (Or.inl w))))
      exact c1 ((crew_iff h10 _).mp (crew_bits hlt))
theorem c_whyNot {D : dT} {B : Nat} {s : Nat → Int32} {P J : Nat} (h : FR D B s P J) (hS : SI s P J) {j : Nat} (hj : j < J) (c : Int32) {k : Int32} (hk : k = -6 ∨ inR k 3) : F_X0_whyNot B (nI j) c k D = some (reasonV s P J j c k, D) := by
  have h10 := SI_P hS
  have h16 := SI_J hS
  unfold F_X0_whyNot reasonV
  rw [c_hasJob (FR_J h) h16, if_pos (inRn hj (by omega)), bd_some, if_neg (by decide), c_isKN, if_pos hk, bd_some, if_neg (by decide), if_pos (inRn (by omega) (by omega))]
  simp only [nI_clamp (show j < 2 ^ 31 by omega), FR_j h hj (show 5 < 12 by omega)]
  by_cases h0 : HOW s j = 0
  · rw [if_pos h0, if_neg (show ¬ ¬ HOW s j = 0 from fun z => z h0), c_isCrew h h10, bd_some]
    by_cases h1 : c ≤ 0 ∨ (1 : Int32) <<< (nI P &&& 31) ≤ c ∨ s 3 < onesV c
    · rw [if_pos h1, if_pos rfl, if_pos h1]
    · rw [if_neg h1, if_neg (by decide), if_neg h1, c_busy h hS, bd_some]
      by_cases h4 : c &&& busyV s J = 0
      · rw [if_pos h4, if_neg (show ¬ ¬ (c &&& busyV s J = 0) from fun z => z h4), if_pos (inRn (by omega) (by omega))]
        by_cases h5 : canV s J j k
        · rw [(c_can h hj hk).1 h5, bd_some, if_neg (by decide), if_neg (show ¬ ¬ canV s J j k from fun z => z h5), c_str h h10, bd_some, if_pos (inRn (by omega) (by omega)), c_loadWith h hS hj hk, bd_some]
          by_cases h6 : loadV s j k ≤ strV s P c
          · rw [if_pos h6, if_neg (Int32.not_lt.mpr h6)]
          · rw [if_neg h6, if_pos (Int32.not_le.mp h6)]
        · rw [(c_can h hj hk).2 h5, bd_some, if_pos rfl, if_pos h5]
      · rw [if_neg h4, if_pos h4]
  · rw [if_neg h0, if_pos h0]
theorem c_whyNot1 {D : dT} {B : Nat} {s : Nat → Int32} {P J : Nat} (h : FR D B s P J) (h16 : J ≤ 16) {x : Int32} (hx : ¬ inR x J) (c k : Int32) : F_X0_whyNot B x c k D = some (-1, D) := by
  unfold F_X0_whyNot
  rw [c_hasJob (FR_J h) h16, if_neg hx, bd_some, if_pos rfl]
theorem c_whyNot2 {D : dT} {B : Nat} {s : Nat → Int32} {P J : Nat} (h : FR D B s P J) (h16 : J ≤ 16) {x : Int32} (hx : inR x J) (c : Int32) {k : Int32} (hk : ¬ (k = -6 ∨ inR k 3)) : F_X0_whyNot B x c k D = some (-2, D) := by
  unfold F_X0_whyNot
  rw [c_hasJob (FR_J h) h16, if_pos hx, bd_some, if_neg (by decide), c_isKN, if_neg hk, bd_some, if_pos rfl]
/-! the crew by itself -/
theorem str_or (s : Nat → Int32) (c : Int32) {q : Nat} (hq : q < 32) (hb : bt c q = false) : ∀ n, n ≤ 32 → strU s (c ||| ((1 : Int32) <<< (nI q &&& 31))) n = strU s c n + (if q < n then s (12 + 4 * q + 1) else 0) := by
  intro n
  induction n with
  | zero => intro _; exact (Int32.add_zero _).symm
  | succ n ih =>
    intro hn
    rw [strU_s, strU_s, ih (by omega), b_or, sh_one hq (by omega)]
    by_cases h : n = q
    · subst h
      rw [hb, decide_eq_true (show n = n from rfl), if_neg (show ¬ n < n by omega), if_pos (show n < n + 1 by omega), Int32.add_zero, if_pos (show (false || true) = true from rfl), if_neg (show ¬ false = true by decide), Int32.add_zero]
    · rw [decide_eq_false h, Bool.or_false]
      by_cases h2 : q < n
      · rw [if_pos h2, if_pos (by omega : q < n + 1), Int32.add_assoc, Int32.add_assoc, Int32.add_comm (s (12 + 4 * q + 1))]
      · rw [if_neg h2, if_neg (by omega : ¬ q < n + 1), Int32.add_zero, Int32.add_zero]
theorem stgV_in (s : Nat → Int32) {P : Nat} (h10 : P ≤ 10) (but : Int32) : stgV s P but = -6 ∨ ∃ q, q < P ∧ stgV s P but = nI q ∧ bt but q = false := stgU_in s but P h10
theorem nI_n6 {q : Nat} (h : q < 16) : ¬ nI q = -6 := (by decide +kernel : ∀ j, j < 16 → ¬ nI j = -6) q h
theorem c_crew_l {D : dT} {B : Nat} {s : Nat → Int32} {P J h0 : Nat} (h : FR D B s P J) (hS : SI s P J) (hH : s 3 = nI h0) (h6 : h0 ≤ 6) (o : Nat) (k load b : Int32) : ∀ m fuel c, m ≤ h0 → m < fuel → F_X0_crewByItself_34 fuel B o k load b c (strV s P c) (nI (h0 - m)) D = some (grd s P b load m c, D) := by
  have h10 := SI_P hS
  intro m
  induction m with
  | zero =>
    intro fuel c hm hf
    obtain ⟨f, rfl⟩ := Nat.exists_eq_add_of_lt hf
    rw [show 0 + f + 1 = f + 1 by omega, F_X0_crewByItself_34, if_pos (by decide), t3, FR_set h 3 (by omega), hH, if_pos (nI_le (by omega) (by omega))]
    rfl
  | succ m ih =>
    intro fuel c hm hf
    obtain ⟨f, rfl⟩ := Nat.exists_eq_add_of_lt hf
    rw [F_X0_crewByItself_34, if_pos (by decide), t3, FR_set h 3 (by omega), hH, if_neg (nI_ge (by omega) (by omega)), c_stg h hS, bd_some, c_hasPerson (FR_P h) h10, bd_some, grd_s]
    cases stgV_in s h10 (b ||| c) with
    | inl e => rw [e, if_neg (show ¬ inR (-6) P from fun z => absurd z.1 (by decide)), if_pos rfl, if_pos rfl]
    | inr e =>
      obtain ⟨q, hq, e, hb⟩ := e
      have hbc := (or_f (by rw [← b_or]; exact hb) : bt b q = false ∧ bt c q = false).2
      have hso : strV s P (c ||| ((1 : Int32) <<< (nI q &&& 31))) = strV s P c + s (12 + 4 * q + 1) := by
        unfold strV
        rw [str_or s c (by omega) hbc P (by omega), if_pos hq]
      rw [e, if_pos (inRn hq (by omega)), if_neg (by decide), if_neg (nI_n6 (by omega)), if_pos (inRn (by omega) (by omega)), hso]
      simp only [nI_clamp (show q < 2 ^ 31 by omega), FR_p1 h hq]
      by_cases hl : load ≤ strV s P c + s (12 + 4 * q + 1)
      · rw [if_pos hl, if_neg (Int32.not_lt.mpr hl)]
      · rw [if_neg hl, if_pos (Int32.not_le.mp hl), ← hso, nI_1]
        have := ih (m + 1 + f) (c ||| ((1 : Int32) <<< (nI q &&& 31))) (by omega) (by omega)
        rw [show h0 - (m + 1) + 1 = h0 - m by omega]
        exact this
theorem c_crew {D : dT} {B : Nat} {s : Nat → Int32} {P J : Nat} (h : FR D B s P J) (hS : SI s P J) {j : Nat} (hj : j < J) {k : Int32} (hk : k = -6 ∨ inR k 3) : F_X0_crewByItself B (B + 16 + j) k D = some (crewV s P J j k, D) := by
  obtain ⟨h0, h1, h6, hH⟩ := hS.2.1.2.2.2.1
  unfold F_X0_crewByItself crewV
  by_cases h5 : canV s J j k
  · rw [(c_can h hj hk).1 h5, bd_some, if_neg (by decide), if_pos h5, c_loadWith h hS hj hk, bd_some, c_busy h hS, bd_some, hH, nI_clamp (by omega)]
    have := c_crew_l h hS hH h6 (B + 16 + j) k (loadV s j k) (busyV s J) h0 lim 0 (by omega) (lim_lt (by omega))
    rw [show strV s P 0 = 0 from strV_0 s P, Nat.sub_self] at this
    exact this
  · rw [(c_can h hj hk).2 h5, bd_some, if_pos rfl, if_neg h5]
