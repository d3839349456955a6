/-! the reference: an hour -/
theorem upd_n (f : Nat → Int32) {k j : Nat} (v : Int32) (h : j ≠ k) : upd f k v j = f j := pk_un h
theorem upd_s (f : Nat → Int32) (k : Nat) (v : Int32) : upd f k v k = v := pk_us
def rstU (s : Nat → Int32) (c : Int32) : Nat → Nat → Int32
  | 0 => s
  | p + 1 => upd (rstU s c p) (12 + 4 * p + 1) (if bt c p then (if rstU s c p (12 + 4 * p) ≤ rstU s c p (12 + 4 * p + 1) + rstU s c p 1 then rstU s c p (12 + 4 * p) else rstU s c p (12 + 4 * p + 1) + rstU s c p 1) else rstU s c p (12 + 4 * p + 1))
theorem rstU_s (s : Nat → Int32) (c : Int32) (p : Nat) : rstU s c (p + 1) = upd (rstU s c p) (12 + 4 * p + 1) (if bt c p then (if rstU s c p (12 + 4 * p) ≤ rstU s c p (12 + 4 * p + 1) + rstU s c p 1 then rstU s c p (12 + 4 * p) else rstU s c p (12 + 4 * p + 1) + rstU s c p 1) else rstU s c p (12 + 4 * p + 1)) := rfl
/-- what is not somebody's strength stays -/
theorem rstU_o (s : Nat → Int32) (c : Int32) {i : Nat} (h : ∀ p, p < 10 → i ≠ 12 + 4 * p + 1) : ∀ n, n ≤ 10 → rstU s c n i = s i := by
  intro n
  induction n with
  | zero => intro _; rfl
  | succ n ih =>
    intro hn
    rw [rstU_s, upd_n _ _ (h n (by omega)), ih (by omega)]
theorem rstU_at (s : Nat → Int32) (c : Int32) (p : Nat) : ∀ n, n ≤ 10 → n ≤ p → rstU s c n (12 + 4 * p + 1) = s (12 + 4 * p + 1) := by
  intro n
  induction n with
  | zero => intro _ _; rfl
  | succ n ih =>
    intro hn h2
    rw [rstU_s, upd_n _ _ (by omega), ih (by omega) (by omega)]
def rstV (s : Nat → Int32) (P : Nat) (c : Int32) : Nat → Int32 := rstU s c P
def carU (s : Nat → Int32) (c : Int32) : Nat → Nat → Int32
  | 0 => s
  | p + 1 => if bt c p then upd (upd (carU s c p) (12 + 4 * p + 1) (if 0 ≤ carU s c p (12 + 4 * p + 1) - carU s c p 2 then carU s c p (12 + 4 * p + 1) - carU s c p 2 else 0)) (12 + 4 * p + 2) (carU s c p (12 + 4 * p + 2) + 1) else carU s c p
theorem carU_s (s : Nat → Int32) (c : Int32) (p : Nat) : carU s c (p + 1) = if bt c p then upd (upd (carU s c p) (12 + 4 * p + 1) (if 0 ≤ carU s c p (12 + 4 * p + 1) - carU s c p 2 then carU s c p (12 + 4 * p + 1) - carU s c p 2 else 0)) (12 + 4 * p + 2) (carU s c p (12 + 4 * p + 2) + 1) else carU s c p := rfl
theorem carU_o (s : Nat → Int32) (c : Int32) {i : Nat} (h : ∀ p, p < 10 → i ≠ 12 + 4 * p + 1 ∧ i ≠ 12 + 4 * p + 2) : ∀ n, n ≤ 10 → carU s c n i = s i := by
  intro n
  induction n with
  | zero => intro _; rfl
  | succ n ih =>
    intro hn
    rw [carU_s]
    split
    · rw [upd_n _ _ (h n (by omega)).2, upd_n _ _ (h n (by omega)).1, ih (by omega)]
    · exact ih (by omega)
def carV (s : Nat → Int32) (P : Nat) (c : Int32) : Nat → Int32 := carU s c P
def endU (s : Nat → Int32) (c : Int32) : Nat → Nat → Int32
  | 0 => s
  | p + 1 => upd (endU s c p) (12 + 4 * p + 3) (endU s c p (12 + 4 * p + 3) + (if bt c p then 1 else 0))
theorem endU_s (s : Nat → Int32) (c : Int32) (p : Nat) : endU s c (p + 1) = upd (endU s c p) (12 + 4 * p + 3) (endU s c p (12 + 4 * p + 3) + (if bt c p then 1 else 0)) := rfl
theorem endU_o (s : Nat → Int32) (c : Int32) {i : Nat} (h : ∀ p, p < 10 → i ≠ 12 + 4 * p + 3) : ∀ n, n ≤ 10 → endU s c n i = s i := by
  intro n
  induction n with
  | zero => intro _; rfl
  | succ n ih =>
    intro hn
    rw [endU_s, upd_n _ _ (h n (by omega)), ih (by omega)]
def endV (s : Nat → Int32) (P j : Nat) : Nat → Int32 := endU (upd (upd s (52 + 12 * j + 5) 2) (52 + 12 * j + 11) (s 4)) (CRW s j) P
/-- an hour of one job: the state, and whether it is done -/
def wrkS (s : Nat → Int32) (P j : Nat) : Nat → Int32 := carV (upd (upd s (52 + 12 * j + 2) (s (52 + 12 * j + 2) - 1)) 7 (s 7 + 1)) P (CRW s j)
def wrkV (s : Nat → Int32) (P j : Nat) : Int32 × (Nat → Int32) :=
  if ¬ s (52 + 12 * j + 9) ≤ 0 then (0, rstV (upd s (52 + 12 * j + 9) (s (52 + 12 * j + 9) - 1)) P (CRW s j))
  else if ¬ s (52 + 12 * j + 6) ≤ strV s P (CRW s j) then (0, rstV (upd (upd s (52 + 12 * j + 10) (s (52 + 12 * j + 10) + 1)) 8 (s 8 + 1)) P (CRW s j))
  else if s (52 + 12 * j + 2) - 1 = 0 then (1, endV (wrkS s P j) P j) else (0, wrkS s P j)
theorem wrkS_l (s : Nat → Int32) {P j : Nat} (hP10 : P ≤ 10) : wrkS s P j (52 + 12 * j + 2) = s (52 + 12 * j + 2) - 1 := by
  unfold wrkS carV
  rw [carU_o _ _ (by intro p hp; omega) P hP10, upd_n _ _ (by omega), upd_s]
theorem endV_o (s : Nat → Int32) {P j : Nat} (hP10 : P ≤ 10) {i : Nat} (h1 : ∀ p, p < 10 → i ≠ 12 + 4 * p + 3) (h2 : i ≠ 52 + 12 * j + 5) (h3 : i ≠ 52 + 12 * j + 11) : endV s P j i = s i := by
  unfold endV
  rw [endU_o _ _ h1 P hP10, upd_n _ _ h3, upd_n _ _ h2]