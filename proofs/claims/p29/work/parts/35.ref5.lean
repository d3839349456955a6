/-! the reference: hours, the order, assigning -/
theorem rstV_o (s : Nat → Int32) {P : Nat} (hP10 : P ≤ 10) (c : Int32) {i : Nat} (h : ∀ p, p < 10 → i ≠ 12 + 4 * p + 1) : rstV s P c i = s i := rstU_o s c h P hP10
theorem wrkV_o (s : Nat → Int32) {P j : Nat} (hP10 : P ≤ 10) {i : Nat} (h1 : i < 12) (h2 : i ≠ 7) (h3 : i ≠ 8) : (wrkV s P j).2 i = s i := by
  unfold wrkV
  split
  · show rstV _ P _ i = _
    rw [rstV_o _ hP10 _ (by intro p hp; omega), upd_n _ _ (by omega)]
  · split
    · show rstV _ P _ i = _
      rw [rstV_o _ hP10 _ (by intro p hp; omega), upd_n _ _ (by omega), upd_n _ _ (by omega)]
    · have e : wrkS s P j i = s i := by
        unfold wrkS carV
        rw [carU_o _ _ (by intro p hp; omega) P hP10, upd_n _ _ (by omega), upd_n _ _ (by omega)]
      split
      · show endV _ P j i = _
        rw [endV_o _ hP10 (by intro p hp; omega) (by omega) (by omega), e]
      · exact e
def gobU (s : Nat → Int32) (P : Nat) : Nat → Int32 × (Nat → Int32)
  | 0 => (0, s)
  | j + 1 => if HOW (gobU s P j).2 j = 1 then ((if (wrkV (gobU s P j).2 P j).1 = 0 then (gobU s P j).1 + 0 else (gobU s P j).1 + 1), (wrkV (gobU s P j).2 P j).2) else ((gobU s P j).1 + 0, (gobU s P j).2)
theorem gobU_s (s : Nat → Int32) (P j : Nat) : gobU s P (j + 1) = if HOW (gobU s P j).2 j = 1 then ((if (wrkV (gobU s P j).2 P j).1 = 0 then (gobU s P j).1 + 0 else (gobU s P j).1 + 1), (wrkV (gobU s P j).2 P j).2) else ((gobU s P j).1 + 0, (gobU s P j).2) := rfl
theorem gobU_o (s : Nat → Int32) {P : Nat} (hP10 : P ≤ 10) {i : Nat} (h1 : i < 12) (h2 : i ≠ 7) (h3 : i ≠ 8) : ∀ n, (gobU s P n).2 i = s i := by
  intro n
  induction n with
  | zero => rfl
  | succ n ih =>
    rw [gobU_s]
    split
    · show (wrkV _ P n).2 i = _
      rw [wrkV_o _ hP10 h1 h2 h3, ih]
    · exact ih
def idlV (s : Nat → Int32) (J : Nat) : Int32 := 1023 &&& (busyV s J ^^^ -1)
def gobS (s : Nat → Int32) (P J : Nat) : Nat → Int32 := rstV (gobU s P J).2 P (idlV s J)
def gobV (s : Nat → Int32) (P J : Nat) : Int32 × (Nat → Int32) := ((gobU s P J).1, upd (gobS s P J) 4 (gobS s P J 4 + 1))
theorem gobV_o (s : Nat → Int32) {P : Nat} (hP10 : P ≤ 10) (J : Nat) {i : Nat} (h1 : i < 12) (h2 : i ≠ 7) (h3 : i ≠ 8) (h4 : i ≠ 4) : (gobV s P J).2 i = s i := by
  show upd (gobS s P J) 4 _ i = _
  rw [upd_n _ _ h4]
  unfold gobS
  rw [rstV_o _ hP10 _ (by intro p hp; omega), gobU_o s hP10 h1 h2 h3]
def pasU (s : Nat → Int32) (P J : Nat) : Nat → Int32 × (Nat → Int32)
  | 0 => (0, s)
  | h + 1 => ((pasU s P J h).1 + (gobV (pasU s P J h).2 P J).1, (gobV (pasU s P J h).2 P J).2)
theorem pasU_s (s : Nat → Int32) (P J h : Nat) : pasU s P J (h + 1) = ((pasU s P J h).1 + (gobV (pasU s P J h).2 P J).1, (gobV (pasU s P J h).2 P J).2) := rfl
theorem pasU_o (s : Nat → Int32) {P : Nat} (hP10 : P ≤ 10) (J : Nat) {i : Nat} (h1 : i < 12) (h2 : i ≠ 7) (h3 : i ≠ 8) (h4 : i ≠ 4) : ∀ n, (pasU s P J n).2 i = s i := by
  intro n
  induction n with
  | zero => rfl
  | succ n ih =>
    rw [pasU_s]
    show (gobV _ P J).2 i = _
    rw [gobV_o _ hP10 J h1 h2 h3 h4, ih]
/-- job i comes ahead of job j -/
def ahW (by_ : Int32) (i j : Nat) : Int32 := if by_ < 0 then 1 else if by_ = 0 then (if j ≤ i then 0 else 1) else 0
def ahV (s : Nat → Int32) (i j : Nat) : Int32 := if s (52 + 12 * j + 3) - s (52 + 12 * i + 3) = 0 then ahW (s (52 + 12 * i + 4) - s (52 + 12 * j + 4)) i j else ahW (s (52 + 12 * j + 3) - s (52 + 12 * i + 3)) i j
/-- how many that wait, and aren't among but, come ahead of j -/
def wtC (s : Nat → Int32) (but : Int32) (j : Nat) : Nat → Int32
  | 0 => 0
  | o + 1 => wtC s but j o + (if HOW s o = 0 ∧ bt but o = false ∧ ¬ o = j ∧ ¬ ahV s o j = 0 then 1 else 0)
theorem wtC_s (s : Nat → Int32) (but : Int32) (j o : Nat) : wtC s but j (o + 1) = wtC s but j o + (if HOW s o = 0 ∧ bt but o = false ∧ ¬ o = j ∧ ¬ ahV s o j = 0 then 1 else 0) := rfl
def wtF (s : Nat → Int32) (J : Nat) (rank but : Int32) : Nat → Int32
  | 0 => -6
  | m + 1 => if HOW s (J - (m + 1)) = 0 ∧ bt but (J - (m + 1)) = false ∧ wtC s but (J - (m + 1)) J = rank then nI (J - (m + 1)) else wtF s J rank but m
theorem wtF_s (s : Nat → Int32) (J : Nat) (rank but : Int32) (m : Nat) : wtF s J rank but (m + 1) = if HOW s (J - (m + 1)) = 0 ∧ bt but (J - (m + 1)) = false ∧ wtC s but (J - (m + 1)) J = rank then nI (J - (m + 1)) else wtF s J rank but m := rfl
def wtV (s : Nat → Int32) (J : Nat) (rank but : Int32) : Int32 := wtF s J rank but J
theorem wtF_in (s : Nat → Int32) (J : Nat) (rank but : Int32) : ∀ m, m ≤ J → wtF s J rank but m = -6 ∨ ∃ j, j < J ∧ wtF s J rank but m = nI j ∧ HOW s j = 0 ∧ bt but j = false ∧ wtC s but j J = rank := by
  intro m
  induction m with
  | zero => intro _; exact Or.inl rfl
  | succ m ih =>
    intro hm
    rw [wtF_s]
    split
    · next h => exact Or.inr ⟨_, by omega, rfl, h.1, h.2.1, h.2.2⟩
    · exact ih (by omega)
/-- loads weigh something -/
def lPos (s : Nat → Int32) (J : Nat) : Prop := ∀ j, j < J → ∀ k, k = -6 ∨ inR k 3 → 0 < loadV s j k
theorem loadV_congr {s t : Nat → Int32} {j : Nat} (h0 : t 0 = s 0) (h1 : t (52 + 12 * j) = s (52 + 12 * j)) (h2 : t (52 + 12 * j + 1) = s (52 + 12 * j + 1)) (k : Int32) : loadV t j k = loadV s j k := by
  unfold loadV ldV
  rw [h0, h1, h2]
theorem begV_o (s : Nat → Int32) (j : Nat) (c k : Int32) {i : Nat} (h5 : i ≠ 52 + 12 * j + 5) (h6 : i ≠ 52 + 12 * j + 6) (h7 : i ≠ 52 + 12 * j + 7) (h8 : i ≠ 52 + 12 * j + 8) : begV s j c k i = s i := by
  unfold begV
  rw [upd_n _ _ h5, upd_n _ _ h8, upd_n _ _ h7, upd_n _ _ h6]
theorem lPos.beg {s : Nat → Int32} {J : Nat} (h : lPos s J) (j : Nat) (c k : Int32) : lPos (begV s j c k) J := by
  intro i hi q hq
  rw [loadV_congr (begV_o s j c k (by omega) (by omega) (by omega) (by omega)) (begV_o s j c k (by omega) (by omega) (by omega) (by omega)) (begV_o s j c k (by omega) (by omega) (by omega) (by omega))]
  exact h i hi q hq
def asgU (P J : Nat) : Nat → (Nat → Int32) → Int32 → Int32 → Int32 × (Nat → Int32)
  | 0, s, b, _ => (b, s)
  | f + 1, s, b, se => if wtV s J 0 se = -6 then (b, s) else
    if stpV s P J (wtV s J 0 se).toNatClampNeg = -6 then asgU P J f s b (se ||| ((1 : Int32) <<< (wtV s J 0 se &&& 31)))
    else asgU P J f (begV s (wtV s J 0 se).toNatClampNeg (crewV s P J (wtV s J 0 se).toNatClampNeg (if stpV s P J (wtV s J 0 se).toNatClampNeg = 3 then -6 else stpV s P J (wtV s J 0 se).toNatClampNeg)) (if stpV s P J (wtV s J 0 se).toNatClampNeg = 3 then -6 else stpV s P J (wtV s J 0 se).toNatClampNeg)) (b ||| ((1 : Int32) <<< (wtV s J 0 se &&& 31))) (se ||| ((1 : Int32) <<< (wtV s J 0 se &&& 31)))
theorem asgU_s (P J f : Nat) (s : Nat → Int32) (b se : Int32) : asgU P J (f + 1) s b se = if wtV s J 0 se = -6 then (b, s) else
    if stpV s P J (wtV s J 0 se).toNatClampNeg = -6 then asgU P J f s b (se ||| ((1 : Int32) <<< (wtV s J 0 se &&& 31)))
    else asgU P J f (begV s (wtV s J 0 se).toNatClampNeg (crewV s P J (wtV s J 0 se).toNatClampNeg (if stpV s P J (wtV s J 0 se).toNatClampNeg = 3 then -6 else stpV s P J (wtV s J 0 se).toNatClampNeg)) (if stpV s P J (wtV s J 0 se).toNatClampNeg = 3 then -6 else stpV s P J (wtV s J 0 se).toNatClampNeg)) (b ||| ((1 : Int32) <<< (wtV s J 0 se &&& 31))) (se ||| ((1 : Int32) <<< (wtV s J 0 se &&& 31))) := rfl
theorem stp_in (s : Nat → Int32) (P J j : Nat) : ∀ k, k ≤ 4 → (stpU s P J j k).1 = -6 ∨ (stpU s P J j k).1 = 3 ∨ inR (stpU s P J j k).1 3 := by
  intro k
  induction k with
  | zero => intro _; exact Or.inl rfl
  | succ k ih =>
    intro hk
    by_cases h : ¬ crewV s P J j (kdV k) = -6 ∧ ((stpU s P J j k).1 = -6 ∨ onesV (crewV s P J j (kdV k)) < (stpU s P J j k).2)
    · rw [stpU_p _ _ _ _ _ h]
      by_cases h0 : k = 0
      · exact Or.inr (Or.inl (if_pos h0))
      · refine Or.inr (Or.inr ?_)
        show inR (if k = 0 then 3 else nI (k - 1)) 3
        rw [if_neg h0]
        exact inRn (by omega) (by omega)
    · rw [stpU_n _ _ _ _ _ h]
      exact ih (by omega)
def asgV (s : Nat → Int32) (P J : Nat) : Int32 × (Nat → Int32) := asgU P J 17 s 0 0