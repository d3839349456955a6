/-! the reference's loops -/
theorem lim_lt {m : Nat} (h : m < 1000) : m < lim := Nat.lt_trans h (by decide)
theorem sh_bit (x : Int32) (k : Nat) (hk : k < 32) : (x >>> (nI k &&& 31)) &&& (1 : Int32) = if bt x k then 1 else 0 := by
  apply b_ext
  intro i hi
  rw [b_and, b_sshr k hk x hi]
  by_cases h0 : i = 0
  · subst h0
    rw [if_pos (by omega), Nat.add_zero]
    cases bt x k <;> decide
  · have h1 : bt 1 i = false := (by decide +kernel : ∀ i, i < 32 → i ≠ 0 → bt 1 i = false) i hi h0
    rw [h1, Bool.and_false]
    cases bt x k
    · exact (b_0 i).symm
    · exact h1.symm
theorem sh_one {k i : Nat} (hk : k < 32) (hi : i < 32) : bt ((1 : Int32) <<< (nI k &&& 31)) i = decide (i = k) := by
  rw [b_shl k hk 1 hi]
  by_cases h : k ≤ i
  · have h1 : ∀ i, i < 32 → bt 1 i = decide (i = 0) := by decide +kernel
    rw [h1 (i - k) (by omega)]
    by_cases e : i = k
    · subst e; simp
    · simp [h, e]; omega
  · simp [h]; omega
def busyU (s : Nat → Int32) : Nat → Int32
  | 0 => 0
  | j + 1 => busyU s j ||| (if s (52 + 12 * j + 5) = 1 then s (52 + 12 * j + 7) else 0)
theorem busyU_s (s : Nat → Int32) (j : Nat) : busyU s (j + 1) = busyU s j ||| (if s (52 + 12 * j + 5) = 1 then s (52 + 12 * j + 7) else 0) := rfl
def busyV (s : Nat → Int32) (n : Nat) : Int32 := busyU s n
def freeU (s : Nat → Int32) (k : Int32) (w : Int32) : Nat → Int32
  | 0 => w
  | j + 1 => freeU s k w j - (if s (52 + 12 * j + 5) = 1 ∧ s (52 + 12 * j + 8) = k then 1 else 0)
theorem freeU_s (s : Nat → Int32) (k w : Int32) (j : Nat) : freeU s k w (j + 1) = freeU s k w j - (if s (52 + 12 * j + 5) = 1 ∧ s (52 + 12 * j + 8) = k then 1 else 0) := rfl
/-- the free straps of kind k -/
def freeV (s : Nat → Int32) (n k : Nat) : Int32 := freeU s (nI k) (s (9 + k)) n
def strU (s : Nat → Int32) (c : Int32) : Nat → Int32
  | 0 => 0
  | p + 1 => strU s c p + (if bt c p then s (12 + 4 * p + 1) else 0)
theorem strU_s (s : Nat → Int32) (c : Int32) (p : Nat) : strU s c (p + 1) = strU s c p + (if bt c p then s (12 + 4 * p + 1) else 0) := rfl
def strV (s : Nat → Int32) (n : Nat) (c : Int32) : Int32 := strU s c n
def cntB (c : Int32) : Nat → Nat
  | 0 => 0
  | k + 1 => cntB c k + (if bt c k then 1 else 0)
theorem cntB_s (c : Int32) (k : Nat) : cntB c (k + 1) = cntB c k + (if bt c k then 1 else 0) := rfl
def onesV (c : Int32) : Int32 := nI (cntB c 31)
/-- the strongest one outside; -6: none -/
def stgU (s : Nat → Int32) (but : Int32) : Nat → Int32
  | 0 => -6
  | p + 1 => if bt but p then stgU s but p else if stgU s but p = -6 then nI p else if s (12 + 4 * p + 1) ≤ s (12 + 4 * (stgU s but p).toNatClampNeg + 1) then stgU s but p else nI p
theorem stgU_s (s : Nat → Int32) (but : Int32) (p : Nat) : stgU s but (p + 1) = if bt but p then stgU s but p else if stgU s but p = -6 then nI p else if s (12 + 4 * p + 1) ≤ s (12 + 4 * (stgU s but p).toNatClampNeg + 1) then stgU s but p else nI p := rfl
theorem stgU_in (s : Nat → Int32) (but : Int32) : ∀ p, p ≤ 10 → stgU s but p = -6 ∨ ∃ q, q < p ∧ stgU s but p = nI q ∧ bt but q = false := by
  intro p
  induction p with
  | zero => intro _; exact Or.inl rfl
  | succ p ih =>
    intro hp
    have h0 := ih (by omega)
    rw [stgU_s]
    cases hb : bt but p
    · simp only [if_false, Bool.false_eq_true]
      split
      · exact Or.inr ⟨p, by omega, rfl, hb⟩
      · next h6 =>
        split
        · rcases h0 with h0 | ⟨q, h1, h2, h3⟩
          · exact absurd h0 h6
          · exact Or.inr ⟨q, by omega, h2, h3⟩
        · exact Or.inr ⟨p, by omega, rfl, hb⟩
    · simp only [if_true]
      rcases h0 with h0 | ⟨q, h1, h2, h3⟩
      · exact Or.inl h0
      · exact Or.inr ⟨q, by omega, h2, h3⟩
def stgV (s : Nat → Int32) (n : Nat) (but : Int32) : Int32 := stgU s but n
/-- straps can be had -/
abbrev canV (s : Nat → Int32) (n j : Nat) (x : Int32) : Prop := x = -6 ∨ (¬ freeV s n x.toNatClampNeg ≤ 0 ∧ (x = 2 → s (52 + 12 * j + 1) = 0))