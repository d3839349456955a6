/-! the class's firm against the reference's row -/
def FR (D : dT) (B : Nat) (s : Nat → Int32) (P J : Nat) : Prop :=
  ((∀ k, k < 4 → D (B + 1) k = s k) ∧ (∀ k, k < 3 → D (B + 2) k = s (9 + k)) ∧ (∀ k, k < 3 → D (B + 3) k = freeV s J k)) ∧
  (D B 5 = nI P ∧ D B 6 = nI J ∧ D B 7 = s 4 ∧ D B 8 = s 7 ∧ D B 9 = s 8) ∧
  (∀ p, p < P → D (B + 6 + p) 0 = s (12 + 4 * p) ∧ D (B + 6 + p) 1 = s (12 + 4 * p + 1) ∧ D (B + 6 + p) 2 = jobV s J p ∧ D (B + 6 + p) 3 = s (12 + 4 * p + 2) ∧ D (B + 6 + p) 4 = s (12 + 4 * p + 3)) ∧
  (∀ j, j < J → ∀ k, k < 12 → D (B + 16 + j) k = s (52 + 12 * j + k))
theorem FR_set {D : dT} {B : Nat} {s : Nat → Int32} {P J : Nat} (h : FR D B s P J) (k : Nat) (hk : k < 4) : D (B + 1) k = s k := h.1.1 k hk
theorem FR_own {D : dT} {B : Nat} {s : Nat → Int32} {P J : Nat} (h : FR D B s P J) (k : Nat) (hk : k < 3) : D (B + 2) k = s (9 + k) := h.1.2.1 k hk
theorem FR_fre {D : dT} {B : Nat} {s : Nat → Int32} {P J : Nat} (h : FR D B s P J) (k : Nat) (hk : k < 3) : D (B + 3) k = freeV s J k := h.1.2.2 k hk
theorem FR_P {D : dT} {B : Nat} {s : Nat → Int32} {P J : Nat} (h : FR D B s P J) : D B 5 = nI P := h.2.1.1
theorem FR_J {D : dT} {B : Nat} {s : Nat → Int32} {P J : Nat} (h : FR D B s P J) : D B 6 = nI J := h.2.1.2.1
theorem FR_h {D : dT} {B : Nat} {s : Nat → Int32} {P J : Nat} (h : FR D B s P J) : D B 7 = s 4 := h.2.1.2.2.1
theorem FR_c {D : dT} {B : Nat} {s : Nat → Int32} {P J : Nat} (h : FR D B s P J) : D B 8 = s 7 := h.2.1.2.2.2.1
theorem FR_p {D : dT} {B : Nat} {s : Nat → Int32} {P J : Nat} (h : FR D B s P J) : D B 9 = s 8 := h.2.1.2.2.2.2
theorem FR_p0 {D : dT} {B : Nat} {s : Nat → Int32} {P J : Nat} (h : FR D B s P J) {p : Nat} (hp : p < P) : D (B + 6 + p) 0 = s (12 + 4 * p) := (h.2.2.1 p hp).1
theorem FR_p1 {D : dT} {B : Nat} {s : Nat → Int32} {P J : Nat} (h : FR D B s P J) {p : Nat} (hp : p < P) : D (B + 6 + p) 1 = s (12 + 4 * p + 1) := (h.2.2.1 p hp).2.1
theorem FR_p2 {D : dT} {B : Nat} {s : Nat → Int32} {P J : Nat} (h : FR D B s P J) {p : Nat} (hp : p < P) : D (B + 6 + p) 2 = jobV s J p := (h.2.2.1 p hp).2.2.1
theorem FR_p3 {D : dT} {B : Nat} {s : Nat → Int32} {P J : Nat} (h : FR D B s P J) {p : Nat} (hp : p < P) : D (B + 6 + p) 3 = s (12 + 4 * p + 2) := (h.2.2.1 p hp).2.2.2.1
theorem FR_p4 {D : dT} {B : Nat} {s : Nat → Int32} {P J : Nat} (h : FR D B s P J) {p : Nat} (hp : p < P) : D (B + 6 + p) 4 = s (12 + 4 * p + 3) := (h.2.2.1 p hp).2.2.2.2
theorem FR_j {D : dT} {B : Nat} {s : Nat → Int32} {P J : Nat} (h : FR D B s P J) {j k : Nat} (hj : j < J) (hk : k < 12) : D (B + 16 + j) k = s (52 + 12 * j + k) := h.2.2.2 j hj k hk
/-- a number between two bounds -/
def rg (x : Int32) (a b : Nat) : Prop := ∃ n, a ≤ n ∧ n ≤ b ∧ x = nI n
/-- a running job -/
def SIj (s : Nat → Int32) (P j : Nat) : Prop :=
  (rg (s (52 + 12 * j)) 50 600 ∧ rg (s (52 + 12 * j + 1)) 0 9 ∧ rg (s (52 + 12 * j + 3)) 0 3 ∧ rg (s (52 + 12 * j + 4)) 0 999 ∧ rg (HOW s j) 0 3 ∧ rg (s (52 + 12 * j + 9)) 0 60) ∧
  (s (52 + 12 * j + 8) = -6 ∨ inR (s (52 + 12 * j + 8)) 3) ∧
  (∀ i, P ≤ i → i < 32 → bt (CRW s j) i = false) ∧
  (HOW s j = 0 ∨ HOW s j = 1 → rg (s (52 + 12 * j + 2)) 1 9) ∧
  (HOW s j = 1 → 0 < s (52 + 12 * j + 6))
def SI (s : Nat → Int32) (P J : Nat) : Prop :=
  (P ≤ 10 ∧ J ≤ 16 ∧ s 5 = nI P ∧ s 6 = nI J) ∧
  (rg (s 0) 0 50 ∧ rg (s 1) 1 20 ∧ rg (s 2) 0 20 ∧ rg (s 3) 1 6 ∧ (rg (s 4) 0 9999 ∨ True) ∧ (∀ k, k < 3 → rg (s (9 + k)) 0 9)) ∧
  (∀ p, p < P → ∃ f w, w ≤ f ∧ f ≤ 150 ∧ s (12 + 4 * p) = nI f ∧ s (12 + 4 * p + 1) = nI w) ∧
  (∀ j, j < J → SIj s P j) ∧
  (∀ i j, i < J → j < J → i ≠ j → HOW s i = 1 → HOW s j = 1 → ∀ p, bt (CRW s i) p = true → bt (CRW s j) p = false) ∧
  ((∀ p, P ≤ p → p < 10 → ∀ k, k < 4 → s (12 + 4 * p + k) = 0) ∧ (∀ j, J ≤ j → j < 16 → ∀ k, k < 12 → s (52 + 12 * j + k) = 0))
theorem SI_P {s : Nat → Int32} {P J : Nat} (h : SI s P J) : P ≤ 10 := h.1.1
theorem SI_J {s : Nat → Int32} {P J : Nat} (h : SI s P J) : J ≤ 16 := h.1.2.1
/-! small ones -/
theorem c_isWithin (x a b : Int32) (D : dT) : F_X5_isWithin x a b D = some (if a ≤ x ∧ x ≤ b then 1 else 0, D) := by
  unfold F_X5_isWithin
  by_cases h1 : x < a
  · rw [if_pos h1, if_neg (fun z => by have := lt_toInt.mp h1; have := le_toInt.mp z.1; omega)]
  · rw [if_neg h1]
    by_cases h2 : b < x
    · rw [if_pos h2, if_neg (fun z => by have := lt_toInt.mp h2; have := le_toInt.mp z.2; omega)]
    · rw [if_neg h2, if_pos ⟨by rw [le_toInt]; rw [lt_toInt] at h1; omega, by rw [le_toInt]; rw [lt_toInt] at h2; omega⟩]
theorem c_has (x : Int32) {n : Nat} (hn : n < 1000) : (x < 0 ∨ nI n ≤ x) ↔ ¬ inR x n := by
  rw [inR_iff, lt_toInt, le_toInt, nI_toInt (by omega), show (0 : Int32).toInt = 0 from rfl]
  omega
theorem c_isKind (x : Int32) (D : dT) : F_X5_isKind x D = some (if inR x 3 then 1 else 0, D) := by
  unfold F_X5_isKind
  have h := c_has x (n := 3) (by omega)
  by_cases h1 : x < 0
  · rw [if_pos h1, if_neg (h.mp (Or.inl h1))]
  · rw [if_neg h1]
    by_cases h2 : (3 : Int32) ≤ x
    · rw [if_pos h2, if_neg (h.mp (Or.inr h2))]
    · rw [if_neg h2, if_pos (Decidable.byContradiction fun z => (h.mpr z).elim h1 h2)]
theorem c_isKN (x : Int32) (D : dT) : F_X5_isKindOrNone x D = some (if x = -6 ∨ inR x 3 then 1 else 0, D) := by
  unfold F_X5_isKindOrNone
  by_cases h : x = -6
  · rw [if_pos h, if_pos (Or.inl h)]
  · rw [if_neg h, c_isKind, bd_some]
    by_cases h2 : inR x 3
    · rw [if_pos h2, if_pos (Or.inr h2)]
      rfl
    · rw [if_neg h2, if_neg (show ¬ (x = -6 ∨ inR x 3) from fun z => z.elim h h2)]
      rfl
theorem c_isIn (p : Nat) (hp : p < 32) (c : Int32) (D : dT) : F_X5_isIn (nI p) c D = some (if bt c p then 1 else 0, D) := by
  unfold F_X5_isIn
  have e : (c &&& ((1 : Int32) <<< (nI p &&& 31)) = 0) ↔ bt c p = false := by
    constructor
    · intro h
      have := congrArg (fun z => bt z p) h
      simp only [b_and, sh_one hp hp, b_0] at this
      simpa using this
    · intro h
      apply b_ext
      intro i hi
      rw [b_and, sh_one hp hi, b_0]
      by_cases hh : i = p
      · subst hh; rw [h]; rfl
      · rw [decide_eq_false hh, Bool.and_false]
  cases hb : bt c p
  · rw [if_pos (e.mpr hb)]; rfl
  · rw [if_neg (fun z => by rw [e.mp z] at hb; cases hb)]; rfl
theorem c_hasJob {D : dT} {B : Nat} {J : Nat} (hJ : D B 6 = nI J) (h16 : J ≤ 16) (x : Int32) : F_X0_hasJob B x D = some (if inR x J then 1 else 0, D) := by
  unfold F_X0_hasJob
  rw [hJ]
  have h := c_has x (n := J) (by omega)
  by_cases h1 : x < 0
  · rw [if_pos h1, if_neg (h.mp (Or.inl h1))]
  · rw [if_neg h1]
    by_cases h2 : nI J ≤ x
    · rw [if_pos h2, if_neg (h.mp (Or.inr h2))]
    · rw [if_neg h2, if_pos (Decidable.byContradiction fun z => (h.mpr z).elim h1 h2)]
theorem c_hasPerson {D : dT} {B : Nat} {P : Nat} (hP : D B 5 = nI P) (h10 : P ≤ 10) (x : Int32) : F_X0_hasPerson B x D = some (if inR x P then 1 else 0, D) := by
  unfold F_X0_hasPerson
  rw [hP]
  have h := c_has x (n := P) (by omega)
  by_cases h1 : x < 0
  · rw [if_pos h1, if_neg (h.mp (Or.inl h1))]
  · rw [if_neg h1]
    by_cases h2 : nI P ≤ x
    · rw [if_pos h2, if_neg (h.mp (Or.inr h2))]
    · rw [if_neg h2, if_pos (Decidable.byContradiction fun z => (h.mpr z).elim h1 h2)]
def c_bcF (x1 : Int32) : Int32 := ((F_J6_bitCount_0f7a4 x1 (fun _ _ => 0)).map (·.1)).getD 0
theorem c_bc0 : ∀ n, n < 1024 → c_bcF (nI n) = onesV (nI n) := by decide +kernel
theorem c_bc (D : dT) (x : Int32) : F_J6_bitCount_0f7a4 x D = some (c_bcF x, D) := rfl
theorem c_bitCount (D : dT) {n : Nat} (hn : n < 1024) : F_J6_bitCount_0f7a4 (nI n) D = some (onesV (nI n), D) := by rw [c_bc, c_bc0 n hn]
/-- a set of people as a number -/
theorem b_nI (n i : Nat) (hi : i < 32) : bt (nI n) i = n.testBit i := by
  show (BitVec.ofNat 32 n).getLsbD i = _
  rw [BitVec.getLsbD_ofNat]
  simp [hi]
theorem c_small {x : Int32} {P : Nat} (hP : P ≤ 10) (h : ∀ i, P ≤ i → i < 32 → bt x i = false) : ∃ n, n < 2 ^ P ∧ x = nI n := by
  obtain ⟨n, hn, rfl⟩ := wb_of32 x
  refine ⟨n, ?_, rfl⟩
  refine Nat.lt_pow_two_of_testBit n (fun i hi => ?_)
  by_cases h32 : i < 32
  · rw [← b_nI n i h32]; exact h i hi h32
  · exact Nat.testBit_lt_two_pow (Nat.lt_of_lt_of_le hn (Nat.pow_le_pow_right (by decide) (by omega)))
theorem c_loadNow {D : dT} {B : Nat} {s : Nat → Int32} {P J : Nat} (h : FR D B s P J) {j : Nat} (hj : j < J) : F_X0_loadNow B (B + 16 + j) D = some (ldV s j, D) := by
  unfold F_X0_loadNow ldV
  rw [if_pos (by decide), t0, FR_set h 0 (by omega), FR_j h hj (k := 0) (by omega), FR_j h hj (k := 1) (by omega), Nat.add_zero]
theorem ltV_s : ∀ k, k < 3 → sDat 3 k = ltV (nI k) := by decide +kernel
theorem nI_mul (a b : Nat) : nI a * nI b = nI (a * b) := by
  apply Int32.toBitVec_inj.mp
  rw [Int32.toBitVec_mul]
  show BitVec.ofNat 32 a * BitVec.ofNat 32 b = BitVec.ofNat 32 (a * b)
  rw [BitVec.ofNat_mul]
theorem nI_div {a b : Nat} (ha : a < 2 ^ 31) (hb : b < 2 ^ 31) : nI a / nI b = nI (a / b) := by
  apply Int32.toInt_inj.mp
  have hq : a / b ≤ a := Nat.div_le_self a b
  rw [Int32.toInt_div, nI_toInt ha, nI_toInt hb, nI_toInt (by omega)]
  rw [show (Int.tdiv (a : Int) (b : Int)) = ((a / b : Nat) : Int) from rfl]
  generalize a / b = q at hq ⊢
  rw [Int.bmod_eq_of_le] <;> omega
theorem nI_sub {a b : Nat} (h : b ≤ a) : nI a - nI b = nI (a - b) := by
  obtain ⟨c, rfl⟩ := Nat.exists_eq_add_of_le h
  rw [← nI_add b c, show b + c - b = c by omega, Int32.add_comm, Int32.add_sub_cancel]
theorem SI_ld {s : Nat → Int32} {P J : Nat} (h : SI s P J) {j : Nat} (hj : j < J) : ∃ n, 50 ≤ n ∧ n ≤ 3300 ∧ ldV s j = nI n := by
  obtain ⟨w, h1, h2, e1⟩ := (h.2.2.2.1 j hj).1.1
  obtain ⟨f, h3, h4, e2⟩ := (h.2.2.2.1 j hj).1.2.1
  obtain ⟨a, h5, h6, e3⟩ := h.2.1.1
  have hm : a * f ≤ 50 * 9 := Nat.mul_le_mul h6 h4
  have hm2 : w * (100 + a * f) ≤ 600 * 550 := Nat.mul_le_mul h2 (by omega)
  have hm3 : 50 * 100 ≤ w * (100 + a * f) := Nat.mul_le_mul h1 (by omega)
  refine ⟨w * (100 + a * f) / 100, by omega, by omega, ?_⟩
  unfold ldV
  rw [e1, e2, e3, nI_mul, show (100 : Int32) = nI 100 from rfl, nI_add, nI_mul, nI_div (by omega) (by omega)]
theorem SI_ldk {s : Nat → Int32} {P J : Nat} (h : SI s P J) {j : Nat} (hj : j < J) {k : Int32} (hk : k = -6 ∨ inR k 3) : ∃ n, 40 ≤ n ∧ n ≤ 3300 ∧ loadV s j k = nI n := by
  obtain ⟨n, h1, h2, e⟩ := SI_ld h hj
  unfold loadV
  rw [e]
  by_cases h0 : k = -6
  · exact ⟨n, by omega, h2, if_pos h0⟩
  · obtain ⟨q, hq, rfl⟩ := inR_of (hk.resolve_left h0) (by decide)
    rw [if_neg h0]
    have hl : ∃ l, l ≤ 20 ∧ (100 : Int32) - ltV (nI q) = nI (100 - l) := by
      have : ∀ q, q < 3 → ∃ l, l ≤ 20 ∧ (100 : Int32) - ltV (nI q) = nI (100 - l) := by
        intro q hq
        by_cases q0 : q = 0
        · subst q0; exact ⟨5, by omega, by decide⟩
        · by_cases q1 : q = 1
          · subst q1; exact ⟨10, by omega, by decide⟩
          · have : q = 2 := by omega
            subst this; exact ⟨20, by omega, by decide⟩
      exact this q hq
    obtain ⟨l, hl, el⟩ := hl
    rw [el, nI_mul, show (100 : Int32) = nI 100 from rfl]
    have hm : n * (100 - l) ≤ 3300 * 100 := Nat.mul_le_mul h2 (by omega)
    have hm2 : 50 * 80 ≤ n * (100 - l) := Nat.mul_le_mul h1 (by omega)
    rw [nI_div (by omega) (by omega)]
    exact ⟨_, by omega, by omega, rfl⟩
theorem SI_lPos {s : Nat → Int32} {P J : Nat} (h : SI s P J) : lPos s J := by
  intro j hj k hk
  obtain ⟨n, h1, h2, e⟩ := SI_ldk h hj hk
  rw [e]
  exact nI_lt (a := 0) (by omega) (by omega)
theorem c_loadWith {D : dT} {B : Nat} {s : Nat → Int32} {P J : Nat} (h : FR D B s P J) (hS : SI s P J) {j : Nat} (hj : j < J) {k : Int32} (hk : k = -6 ∨ inR k 3) : F_X0_loadWith B (B + 16 + j) k D = some (loadV s j k, D) := by
  unfold F_X0_loadWith F_X0_loadWith_16 loadV
  rw [c_isKind, bd_some, c_loadNow h hj, bd_some]
  by_cases h0 : k = -6
  · subst h0
    rw [if_neg (show ¬ inR (-6) 3 by decide), if_pos rfl, if_pos rfl]
    obtain ⟨n, h1, h2, e⟩ := SI_ld hS hj
    rw [e, show (100 : Int32) - 0 = nI 100 by decide, nI_mul, show (100 : Int32) = nI 100 from rfl, nI_div (by omega) (by omega), Nat.mul_div_cancel _ (by omega)]
  · have hk3 := hk.resolve_left h0
    rw [if_neg h0]
    rw [if_pos hk3, if_neg (by decide), if_pos hk3]
    obtain ⟨q, hq, rfl⟩ := inR_of hk3 (by decide)
    rw [nI_clamp (by omega), ltV_s q hq]
    rfl
theorem c_can {D : dT} {B : Nat} {s : Nat → Int32} {P J : Nat} (h : FR D B s P J) {j : Nat} (hj : j < J) {k : Int32} (hk : k = -6 ∨ inR k 3) : (canV s J j k → F_X0_canHaveStraps B (B + 16 + j) k D = some (1, D)) ∧ (¬ canV s J j k → F_X0_canHaveStraps B (B + 16 + j) k D = some (0, D)) := by
  unfold F_X0_canHaveStraps
  rw [c_isKind, bd_some]
  by_cases h0 : k = -6
  · subst h0
    rw [if_neg (show ¬ inR (-6) 3 by decide), if_pos rfl]
    exact ⟨fun _ => rfl, fun z => absurd (Or.inl rfl) z⟩
  · have hk3 := hk.resolve_left h0
    rw [if_pos hk3, if_neg (by decide), if_pos hk3]
    obtain ⟨q, hq, rfl⟩ := inR_of hk3 (by decide)
    rw [nI_clamp (by omega), FR_fre h q hq, FR_j h hj (k := 1) (by omega)]
    unfold canV
    rw [nI_clamp (by omega)]
    by_cases h1 : freeV s J q ≤ 0
    · rw [if_pos h1]
      exact ⟨fun z => (z.elim (fun z => absurd z h0) (fun z => absurd h1 z.1)), fun _ => rfl⟩
    · rw [if_neg h1]
      by_cases h2 : nI q = 2
      · rw [if_pos h2]
        by_cases h3 : s (52 + 12 * j + 1) = 0
        · rw [if_pos h3]
          exact ⟨fun _ => rfl, fun z => absurd (Or.inr ⟨h1, fun _ => h3⟩) z⟩
        · rw [if_neg h3]
          exact ⟨fun z => (z.elim (fun z => absurd z h0) (fun z => absurd (z.2 h2) h3)), fun _ => rfl⟩
      · rw [if_neg h2]
        exact ⟨fun _ => rfl, fun z => absurd (Or.inr ⟨h1, fun w => absurd w h2⟩) z⟩
