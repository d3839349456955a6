/-! the reference: its own functions as values of its array s (D 379) -/
theorem inRn {k N : Nat} (h : k < N) (hN : N < 2 ^ 31) : inR (nI k) N := ⟨nI_pos (by omega), by rw [nI_clamp (by omega)]; exact h⟩
theorem inR_iff {x : Int32} {N : Nat} : inR x N ↔ 0 ≤ x.toInt ∧ x.toInt < N := by
  have h0 : x < 0 ↔ x.toInt < 0 := by rw [Int32.lt_iff_toInt_lt]; rfl
  have h1 : x.toNatClampNeg = x.toInt.toNat := rfl
  unfold inR
  rw [h0, h1]
  omega
theorem inR_of {x : Int32} {N : Nat} (h : inR x N) (hN : N < 2 ^ 31) : ∃ j, j < N ∧ x = nI j := by
  obtain ⟨j, h1, h2⟩ := nI_of h.1
  refine ⟨j, ?_, h2⟩
  have := h.2
  rw [h2, nI_clamp h1] at this
  exact this
theorem inR_n {j N : Nat} (hj : j < 2 ^ 31) : inR (nI j) N ↔ j < N := by
  rw [inR_iff, nI_toInt hj]; omega
theorem r_in (x a b : Int32) (D : dT) : F_X6_in x a b D = some (if a ≤ x ∧ x ≤ b then 1 else 0, D) := by
  unfold F_X6_in
  by_cases h1 : x < a
  · rw [if_pos h1, if_neg (fun z => Int32.not_le.mpr h1 z.1)]
  · rw [if_neg h1]
    by_cases h2 : b < x
    · rw [if_pos h2, if_neg (fun z => Int32.not_le.mpr h2 z.2)]
    · rw [if_neg h2, if_pos ⟨Int32.not_lt.mp h1, Int32.not_lt.mp h2⟩]
theorem le_toInt {x y : Int32} : x ≤ y ↔ x.toInt ≤ y.toInt := Int32.le_iff_toInt_le
theorem lt_toInt {x y : Int32} : x < y ↔ x.toInt < y.toInt := Int32.lt_iff_toInt_lt
theorem r_in0 (x : Int32) {n : Nat} (hn : n < 1000) (D : dT) : F_X6_in x 0 (nI n - 1) D = some (if inR x n then 1 else 0, D) := by
  rw [r_in]
  congr 2
  have h : (nI n - 1).toInt = (n : Int) - 1 := pk_sub_toInt (b := 1) (by omega) (by omega)
  have : (0 ≤ x ∧ x ≤ nI n - 1) ↔ inR x n := by
    rw [inR_iff, le_toInt, le_toInt, h]
    show (0 ≤ x.toInt ∧ _) ↔ _
    omega
  simp only [this]
theorem r_ofPerson (D : dT) {x : Int32} (w : Int32) (p k : Nat) (hx : x = nI p) (hw : w = nI k) (hp : p < 10) (hk : k < 4) : F_X6_ofPerson x w D = some (D 379 (12 + 4 * p + k), D) := by
  subst hx; subst hw
  have e : ((12 : Int32) + (4 : Int32) * nI p) + nI k = nI (12 + 4 * p + k) := by
    rw [show (12 : Int32) = nI 12 from rfl, show (4 : Int32) = nI 4 from rfl, pk_mul, nI_add, nI_add]
  unfold F_X6_ofPerson
  rw [e, if_pos (inRn (by omega) (by omega)), nI_clamp (by omega)]
theorem r_layPerson (D : dT) {x v : Int32} (w : Int32) (p k : Nat) (hx : x = nI p) (hw : w = nI k) (hp : p < 10) (hk : k < 4) : F_X6_layPerson x w v D = some (0, up2 D 379 (12 + 4 * p + k) v) := by
  subst hx; subst hw
  have e : ((12 : Int32) + (4 : Int32) * nI p) + nI k = nI (12 + 4 * p + k) := by
    rw [show (12 : Int32) = nI 12 from rfl, show (4 : Int32) = nI 4 from rfl, pk_mul, nI_add, nI_add]
  unfold F_X6_layPerson
  rw [e, if_pos (inRn (by omega) (by omega)), nI_clamp (by omega)]
theorem r_ofJobs (D : dT) {x : Int32} (w : Int32) (j k : Nat) (hx : x = nI j) (hw : w = nI k) (hj : j < 16) (hk : k < 12) : F_X6_ofJobs x w D = some (D 379 (52 + 12 * j + k), D) := by
  subst hx; subst hw
  have e : ((52 : Int32) + (12 : Int32) * nI j) + nI k = nI (52 + 12 * j + k) := by
    rw [show (52 : Int32) = nI 52 from rfl, show (12 : Int32) = nI 12 from rfl, pk_mul, nI_add, nI_add]
  unfold F_X6_ofJobs
  rw [e, if_pos (inRn (by omega) (by omega)), nI_clamp (by omega)]
theorem r_lay (D : dT) {x v : Int32} (w : Int32) (j k : Nat) (hx : x = nI j) (hw : w = nI k) (hj : j < 16) (hk : k < 12) : F_X6_lay x w v D = some (0, up2 D 379 (52 + 12 * j + k) v) := by
  subst hx; subst hw
  have e : ((52 : Int32) + (12 : Int32) * nI j) + nI k = nI (52 + 12 * j + k) := by
    rw [show (52 : Int32) = nI 52 from rfl, show (12 : Int32) = nI 12 from rfl, pk_mul, nI_add, nI_add]
  unfold F_X6_lay
  rw [e, if_pos (inRn (by omega) (by omega)), nI_clamp (by omega)]
/-- constants' places -/
theorem c0 : inR (0 : Int32) 244 := by decide
theorem c1 : inR (1 : Int32) 244 := by decide
theorem c2 : inR (2 : Int32) 244 := by decide
theorem c3 : inR (3 : Int32) 244 := by decide
theorem c4 : inR (4 : Int32) 244 := by decide
theorem c5 : inR (5 : Int32) 244 := by decide
theorem c6 : inR (6 : Int32) 244 := by decide
theorem c7 : inR (7 : Int32) 244 := by decide
theorem c8 : inR (8 : Int32) 244 := by decide
theorem t0 : (0 : Int32).toNatClampNeg = 0 := by decide
theorem t1 : (1 : Int32).toNatClampNeg = 1 := by decide
theorem t2 : (2 : Int32).toNatClampNeg = 2 := by decide
theorem t3 : (3 : Int32).toNatClampNeg = 3 := by decide
theorem t4 : (4 : Int32).toNatClampNeg = 4 := by decide
theorem t5 : (5 : Int32).toNatClampNeg = 5 := by decide
theorem t6 : (6 : Int32).toNatClampNeg = 6 := by decide
theorem t7 : (7 : Int32).toNatClampNeg = 7 := by decide
theorem t8 : (8 : Int32).toNatClampNeg = 8 := by decide
theorem b01 (c : Prop) [Decidable c] : ((if c then (1 : Int32) else 0) = 0) = ¬ c := by
  by_cases h : c
  · rw [if_pos h]; exact propext ⟨fun z => absurd z (by decide), fun z => absurd h z⟩
  · rw [if_neg h]; exact propext ⟨fun _ => h, fun _ => rfl⟩
theorem b01' (c : Prop) [Decidable c] : ((if c then (1 : Int32) else 0) = 0 ∨ (if c then (1 : Int32) else 0) = 1) = True := by
  by_cases h : c
  · rw [if_pos h]; simp
  · rw [if_neg h]; simp
theorem r_isJob (D : dT) {n : Nat} (hn : D 379 6 = nI n) (h16 : n ≤ 16) (x : Int32) : F_X6_isJob x D = some (if inR x n then 1 else 0, D) := by
  unfold F_X6_isJob
  rw [if_pos c6, t6, hn, r_in0 x (by omega), bd_some, if_pos (by rw [b01']; trivial)]
def isSt (x : Int32) : Prop := x = -6 ∨ inR x 3
theorem isSt_dec (x : Int32) : (x = -6 ∨ inR x 3) ∨ ¬ (x = -6 ∨ inR x 3) := Classical.em _
theorem r_isStraps (D : dT) (x : Int32) : F_X6_isStraps x D = some (if x = -6 ∨ inR x 3 then 1 else 0, D) := by
  unfold F_X6_isStraps
  by_cases h : x = -6
  · rw [if_pos h, if_pos (Or.inl h)]
  · rw [if_neg h, show (2 : Int32) = nI 3 - 1 from rfl, r_in0 x (by omega), bd_some]
    by_cases h2 : inR x 3
    · rw [if_pos h2, if_pos (Or.inr h2), if_neg (by decide)]
    · rw [if_neg h2, if_pos rfl, if_neg (fun z => z.elim h h2)]
/-! loads -/
def ldV (s : Nat → Int32) (j : Nat) : Int32 := (s (52 + 12 * j) * (100 + s 0 * s (52 + 12 * j + 1))) / 100
def ltV (x : Int32) : Int32 := if x = 0 then 5 else if x = 1 then 10 else if x = 2 then 20 else 0
def loadV (s : Nat → Int32) (j : Nat) (x : Int32) : Int32 := if x = -6 then ldV s j else (ldV s j * (100 - ltV x)) / 100
theorem r_loadBy (D : dT) {x k : Int32} (j : Nat) (hx : x = nI j) (hj : j < 16) : F_X6_loadBy x k D = some (loadV (D 379) j k, D) := by
  unfold F_X6_loadBy F_X6_loadBy_56
  rw [r_ofJobs D 0 j 0 hx rfl hj (by omega), bd_some, if_pos c0, r_ofJobs D 1 j 1 hx rfl hj (by omega), bd_some, t0]
  unfold loadV ltV ldV
  by_cases h6 : k = -6
  · subst h6
    rw [if_neg (by decide), if_neg (by decide), if_neg (by decide), if_pos rfl, if_pos rfl]; rfl
  · simp only [h6, if_false]
    by_cases a : k = 0
    · simp only [a, if_true]; rfl
    · simp only [a, if_false]
      by_cases a : k = 1
      · simp only [a, if_true]; rfl
      · simp only [a, if_false]
        by_cases a : k = 2
        · simp only [a, if_true]; rfl
        · simp only [a, if_false]; rfl
