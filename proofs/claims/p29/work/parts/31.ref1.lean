/-! the reference: its own functions as values of its array s (D 379) -/
theorem inRn {k N : Nat} (h : k < N) (hN : N < 2 ^ 31) : inR (nI k) N := ⟨nI_pos (by omega), by rw [nI_clamp (by omega)]; exact h⟩
theorem inR_iff {x : Int32} {N : Nat} : inR x N ↔ 0 ≤ x.toInt ∧ x.toInt < N := by
  have h0 : x < 0 ↔ x.toInt < 0 := by rw [Int32.lt_iff_toInt_lt]; rfl
  have h1 : x.toNatClampNeg = x.toInt.toNat := rfl
  unfold inR
  rw [h0, h1]
  omega
theorem inR_of {x : Int32} {N : Nat} (h : inR x N) (hN : N < 2 ^ 31) : ∃ j, j < N ∧ x = nI j := by
  obtain ⟨j, h1, h2⟩ := nI_of h.1
  refine ⟨j, ?_, h2⟩
  have := h.2
  rw [h2, nI_clamp h1] at this
  exact this
theorem inR_n {j N : Nat} (hj : j < 2 ^ 31) : inR (nI j) N ↔ j < N := by
  rw [inR_iff, nI_toInt hj]; omega
theorem le_toInt {x y : Int32} : x ≤ y ↔ x.toInt ≤ y.toInt := Int32.le_iff_toInt_le
theorem lt_toInt {x y : Int32} : x < y ↔ x.toInt < y.toInt := Int32.lt_iff_toInt_lt
/-- constants' places -/
theorem c0 : inR (0 : Int32) 244 := by decide
theorem c1 : inR (1 : Int32) 244 := by decide
theorem c2 : inR (2 : Int32) 244 := by decide
theorem c3 : inR (3 : Int32) 244 := by decide
theorem c4 : inR (4 : Int32) 244 := by decide
theorem c5 : inR (5 : Int32) 244 := by decide
theorem c6 : inR (6 : Int32) 244 := by decide
theorem c7 : inR (7 : Int32) 244 := by decide
theorem c8 : inR (8 : Int32) 244 := by decide
theorem t0 : (0 : Int32).toNatClampNeg = 0 := by decide
theorem t1 : (1 : Int32).toNatClampNeg = 1 := by decide
theorem t2 : (2 : Int32).toNatClampNeg = 2 := by decide
theorem t3 : (3 : Int32).toNatClampNeg = 3 := by decide
theorem t4 : (4 : Int32).toNatClampNeg = 4 := by decide
theorem t5 : (5 : Int32).toNatClampNeg = 5 := by decide
theorem t6 : (6 : Int32).toNatClampNeg = 6 := by decide
theorem t7 : (7 : Int32).toNatClampNeg = 7 := by decide
theorem t8 : (8 : Int32).toNatClampNeg = 8 := by decide
theorem b01 (c : Prop) [Decidable c] : ((if c then (1 : Int32) else 0) = 0) = ¬ c := by
  by_cases h : c
  · rw [if_pos h]; exact propext ⟨fun z => absurd z (by decide), fun z => absurd h z⟩
  · rw [if_neg h]; exact propext ⟨fun _ => h, fun _ => rfl⟩
theorem b01' (c : Prop) [Decidable c] : ((if c then (1 : Int32) else 0) = 0 ∨ (if c then (1 : Int32) else 0) = 1) = True := by
  by_cases h : c
  · rw [if_pos h]; simp
  · rw [if_neg h]; simp
def isSt (x : Int32) : Prop := x = -6 ∨ inR x 3
theorem isSt_dec (x : Int32) : (x = -6 ∨ inR x 3) ∨ ¬ (x = -6 ∨ inR x 3) := Classical.em _
/-! loads -/
def ldV (s : Nat → Int32) (j : Nat) : Int32 := (s (52 + 12 * j) * (100 + s 0 * s (52 + 12 * j + 1))) / 100
def ltV (x : Int32) : Int32 := if x = 0 then 5 else if x = 1 then 10 else if x = 2 then 20 else 0
def loadV (s : Nat → Int32) (j : Nat) (x : Int32) : Int32 := if x = -6 then ldV s j else (ldV s j * (100 - ltV x)) / 100