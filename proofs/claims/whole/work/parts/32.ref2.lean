/-! the reference's loops -/
theorem lim_lt {m : Nat} (h : m < 1000) : m < lim := Nat.lt_trans h (by decide)
theorem sh_bit (x : Int32) (k : Nat) (hk : k < 32) : (x >>> (nI k &&& 31)) &&& (1 : Int32) = if bt x k then 1 else 0 := by
  apply b_ext
  intro i hi
  rw [b_and, b_sshr k hk x hi]
  by_cases h0 : i = 0
  · subst h0
    rw [if_pos (by omega), Nat.add_zero]
    cases bt x k <;> decide
  · have h1 : bt 1 i = false := (by decide +kernel : ∀ i, i < 32 → i ≠ 0 → bt 1 i = false) i hi h0
    rw [h1, Bool.and_false]
    cases bt x k
    · exact (b_0 i).symm
    · exact h1.symm
theorem sh_one {k i : Nat} (hk : k < 32) (hi : i < 32) : bt ((1 : Int32) <<< (nI k &&& 31)) i = decide (i = k) := by
  rw [b_shl k hk 1 hi]
  by_cases h : k ≤ i
  · have h1 : ∀ i, i < 32 → bt 1 i = decide (i = 0) := by decide +kernel
    rw [h1 (i - k) (by omega)]
    by_cases e : i = k
    · subst e; simp
    · simp [h, e]; omega
  · simp [h]; omega
def busyU (s : Nat → Int32) : Nat → Int32
  | 0 => 0
  | j + 1 => busyU s j ||| (if s (52 + 12 * j + 5) = 1 then s (52 + 12 * j + 7) else 0)
theorem busyU_s (s : Nat → Int32) (j : Nat) : busyU s (j + 1) = busyU s j ||| (if s (52 + 12 * j + 5) = 1 then s (52 + 12 * j + 7) else 0) := rfl
theorem r_busy_l (D : dT) {n : Nat} (hn : D 379 6 = nI n) (h16 : n ≤ 16) : ∀ m k fuel, k + m = n → m < fuel → F_X6_busy_4 fuel (busyU (D 379) k) (nI k) D = some (busyU (D 379) n, D) := by
  intro m
  induction m with
  | zero =>
    intro k fuel hk hf
    obtain ⟨f, rfl⟩ := Nat.exists_eq_add_of_lt hf
    rw [show 0 + f + 1 = f + 1 by omega, F_X6_busy_4, if_pos c6, t6, hn, if_pos (nI_le (by omega) (by omega)), show k = n by omega]
  | succ m ih =>
    intro k fuel hk hf
    obtain ⟨f, rfl⟩ := Nat.exists_eq_add_of_lt hf
    have hi := ih (k + 1) (m + 1 + f) (by omega) (by omega)
    rw [F_X6_busy_4, if_pos c6, t6, hn, if_neg (nI_ge (by omega) (by omega)), r_ofJobs D 5 k 5 rfl rfl (by omega) (by omega), bd_some]
    by_cases h : D 379 (52 + 12 * k + 5) = 1
    · rw [if_pos h, r_ofJobs D 7 k 7 rfl rfl (by omega) (by omega), bd_some]
      unfold F_X6_busy_37
      rw [busyU_s, if_pos h] at hi
      rw [nI_1]
      exact hi
    · rw [if_neg h]
      unfold F_X6_busy_37
      rw [busyU_s, if_neg h] at hi
      rw [nI_1]
      exact hi
def busyV (s : Nat → Int32) (n : Nat) : Int32 := busyU s n
theorem r_busy (D : dT) {n : Nat} (hn : D 379 6 = nI n) (h16 : n ≤ 16) : F_X6_busy D = some (busyV (D 379) n, D) := r_busy_l D hn h16 n 0 lim (by omega) (lim_lt (by omega))
def freeU (s : Nat → Int32) (k : Int32) (w : Int32) : Nat → Int32
  | 0 => w
  | j + 1 => freeU s k w j - (if s (52 + 12 * j + 5) = 1 ∧ s (52 + 12 * j + 8) = k then 1 else 0)
theorem freeU_s (s : Nat → Int32) (k w : Int32) (j : Nat) : freeU s k w (j + 1) = freeU s k w j - (if s (52 + 12 * j + 5) = 1 ∧ s (52 + 12 * j + 8) = k then 1 else 0) := rfl
theorem r_free_l (D : dT) {n : Nat} (hn : D 379 6 = nI n) (h16 : n ≤ 16) (x w : Int32) : ∀ m k fuel, k + m = n → m < fuel → F_X6_freeStraps_12 fuel x (freeU (D 379) x w k) (nI k) D = some (freeU (D 379) x w n, D) := by
  intro m
  induction m with
  | zero =>
    intro k fuel hk hf
    obtain ⟨f, rfl⟩ := Nat.exists_eq_add_of_lt hf
    rw [show 0 + f + 1 = f + 1 by omega, F_X6_freeStraps_12, if_pos c6, t6, hn, if_pos (nI_le (by omega) (by omega)), show k = n by omega]
  | succ m ih =>
    intro k fuel hk hf
    obtain ⟨f, rfl⟩ := Nat.exists_eq_add_of_lt hf
    have hi := ih (k + 1) (m + 1 + f) (by omega) (by omega)
    rw [F_X6_freeStraps_12, if_pos c6, t6, hn, if_neg (nI_ge (by omega) (by omega)), r_ofJobs D 5 k 5 rfl rfl (by omega) (by omega), bd_some]
    unfold F_X6_freeStraps_49 F_X6_freeStraps_50
    rw [nI_1]
    by_cases h : D 379 (52 + 12 * k + 5) = 1
    · rw [if_pos h, r_ofJobs D 8 k 8 rfl rfl (by omega) (by omega), bd_some]
      by_cases h2 : D 379 (52 + 12 * k + 8) = x
      · rw [freeU_s, if_pos ⟨h, h2⟩] at hi
        rw [if_pos h2]
        exact hi
      · rw [freeU_s, if_neg (fun z => h2 z.2)] at hi
        rw [if_neg h2]
        exact hi
    · rw [freeU_s, if_neg (fun z => h z.1)] at hi
      rw [if_neg h]
      exact hi
/-- the free straps of kind k -/
def freeV (s : Nat → Int32) (n k : Nat) : Int32 := freeU s (nI k) (s (9 + k)) n
theorem r_free (D : dT) {n : Nat} (hn : D 379 6 = nI n) (h16 : n ≤ 16) {x : Int32} (k : Nat) (hx : x = nI k) (hk : k < 3) : F_X6_freeStraps x D = some (freeV (D 379) n k, D) := by
  subst hx
  unfold F_X6_freeStraps
  rw [show (9 : Int32) + nI k = nI (9 + k) from nI_add 9 k, if_pos (inRn (by omega) (by omega)), nI_clamp (by omega)]
  exact r_free_l D hn h16 (nI k) _ n 0 lim (by omega) (lim_lt (by omega))
def strU (s : Nat → Int32) (c : Int32) : Nat → Int32
  | 0 => 0
  | p + 1 => strU s c p + (if bt c p then s (12 + 4 * p + 1) else 0)
theorem strU_s (s : Nat → Int32) (c : Int32) (p : Nat) : strU s c (p + 1) = strU s c p + (if bt c p then s (12 + 4 * p + 1) else 0) := rfl
theorem r_str_l (D : dT) {n : Nat} (hn : D 379 5 = nI n) (h10 : n ≤ 10) (x : Int32) : ∀ m k fuel, k + m = n → m < fuel → F_X6_strength_4 fuel x (strU (D 379) x k) (nI k) D = some (strU (D 379) x n, D) := by
  intro m
  induction m with
  | zero =>
    intro k fuel hk hf
    obtain ⟨f, rfl⟩ := Nat.exists_eq_add_of_lt hf
    rw [show 0 + f + 1 = f + 1 by omega, F_X6_strength_4, if_pos c5, t5, hn, if_pos (nI_le (by omega) (by omega)), show k = n by omega]
  | succ m ih =>
    intro k fuel hk hf
    obtain ⟨f, rfl⟩ := Nat.exists_eq_add_of_lt hf
    have hi := ih (k + 1) (m + 1 + f) (by omega) (by omega)
    rw [F_X6_strength_4, if_pos c5, t5, hn, if_neg (nI_ge (by omega) (by omega)), sh_bit x k (by omega)]
    unfold F_X6_strength_34
    rw [nI_1]
    rw [strU_s] at hi
    cases hb : bt x k
    · rw [hb, if_neg (by decide)] at hi
      rw [if_neg (by decide)]
      exact hi
    · rw [hb, if_pos rfl] at hi
      rw [if_pos (by decide), r_ofPerson D 1 k 1 rfl rfl (by omega) (by omega), bd_some]
      exact hi
def strV (s : Nat → Int32) (n : Nat) (c : Int32) : Int32 := strU s c n
theorem r_str (D : dT) {n : Nat} (hn : D 379 5 = nI n) (h10 : n ≤ 10) (x : Int32) : F_X6_strength x D = some (strV (D 379) n x, D) := r_str_l D hn h10 x n 0 lim (by omega) (lim_lt (by omega))
def cntB (c : Int32) : Nat → Nat
  | 0 => 0
  | k + 1 => cntB c k + (if bt c k then 1 else 0)
theorem cntB_s (c : Int32) (k : Nat) : cntB c (k + 1) = cntB c k + (if bt c k then 1 else 0) := rfl
theorem r_ones_l (D : dT) (x : Int32) : ∀ m k fuel, k + m = 31 → m < fuel → F_X6_ones_4 fuel x (nI (cntB x k)) (nI k) D = some (nI (cntB x 31), D) := by
  intro m
  induction m with
  | zero =>
    intro k fuel hk hf
    obtain ⟨f, rfl⟩ := Nat.exists_eq_add_of_lt hf
    rw [show 0 + f + 1 = f + 1 by omega, F_X6_ones_4, show k = 31 by omega, if_pos (by decide)]
  | succ m ih =>
    intro k fuel hk hf
    obtain ⟨f, rfl⟩ := Nat.exists_eq_add_of_lt hf
    have hi := ih (k + 1) (m + 1 + f) (by omega) (by omega)
    rw [F_X6_ones_4, if_neg (by rw [show (31 : Int32) = nI 31 from rfl]; exact nI_ge (by omega) (by omega)), sh_bit x k (by omega), nI_1]
    rw [cntB_s] at hi
    cases hb : bt x k
    · rw [hb, if_neg (by decide), Nat.add_zero] at hi
      rw [if_neg (by decide), Int32.add_zero]
      exact hi
    · rw [hb, if_pos rfl, ← nI_1] at hi
      rw [if_pos rfl]
      exact hi
def onesV (c : Int32) : Int32 := nI (cntB c 31)
theorem r_ones (D : dT) (x : Int32) : F_X6_ones x D = some (onesV x, D) := r_ones_l D x 31 0 lim (by omega) (lim_lt (by omega))
/-- the strongest one outside; -6: none -/
def stgU (s : Nat → Int32) (but : Int32) : Nat → Int32
  | 0 => -6
  | p + 1 => if bt but p then stgU s but p else if stgU s but p = -6 then nI p else if s (12 + 4 * p + 1) ≤ s (12 + 4 * (stgU s but p).toNatClampNeg + 1) then stgU s but p else nI p
theorem stgU_s (s : Nat → Int32) (but : Int32) (p : Nat) : stgU s but (p + 1) = if bt but p then stgU s but p else if stgU s but p = -6 then nI p else if s (12 + 4 * p + 1) ≤ s (12 + 4 * (stgU s but p).toNatClampNeg + 1) then stgU s but p else nI p := rfl
theorem stgU_in (s : Nat → Int32) (but : Int32) : ∀ p, p ≤ 10 → stgU s but p = -6 ∨ ∃ q, q < p ∧ stgU s but p = nI q ∧ bt but q = false := by
  intro p
  induction p with
  | zero => intro _; exact Or.inl rfl
  | succ p ih =>
    intro hp
    have h0 := ih (by omega)
    rw [stgU_s]
    cases hb : bt but p
    · simp only [if_false, Bool.false_eq_true]
      split
      · exact Or.inr ⟨p, by omega, rfl, hb⟩
      · next h6 =>
        split
        · rcases h0 with h0 | ⟨q, h1, h2, h3⟩
          · exact absurd h0 h6
          · exact Or.inr ⟨q, by omega, h2, h3⟩
        · exact Or.inr ⟨p, by omega, rfl, hb⟩
    · simp only [if_true]
      rcases h0 with h0 | ⟨q, h1, h2, h3⟩
      · exact Or.inl h0
      · exact Or.inr ⟨q, by omega, h2, h3⟩
theorem r_stg_l (D : dT) {n : Nat} (hn : D 379 5 = nI n) (h10 : n ≤ 10) (x : Int32) : ∀ m k fuel, k + m = n → m < fuel → F_X6_strongestBut_5 fuel x (stgU (D 379) x k) (nI k) D = some (stgU (D 379) x n, D) := by
  intro m
  induction m with
  | zero =>
    intro k fuel hk hf
    obtain ⟨f, rfl⟩ := Nat.exists_eq_add_of_lt hf
    rw [show 0 + f + 1 = f + 1 by omega, F_X6_strongestBut_5, if_pos c5, t5, hn, if_pos (nI_le (by omega) (by omega)), show k = n by omega]
  | succ m ih =>
    intro k fuel hk hf
    obtain ⟨f, rfl⟩ := Nat.exists_eq_add_of_lt hf
    have hi := ih (k + 1) (m + 1 + f) (by omega) (by omega)
    rw [F_X6_strongestBut_5, if_pos c5, t5, hn, if_neg (nI_ge (by omega) (by omega)), sh_bit x k (by omega)]
    unfold F_X6_strongestBut_28 F_X6_strongestBut_56 F_X6_strongestBut_60 F_X6_strongestBut_61
    rw [nI_1]
    have h0 := stgU_in (D 379) x k (by omega)
    rw [stgU_s] at hi
    cases hb : bt x k
    · rw [hb, if_neg (by decide)] at hi
      rw [if_pos (by decide), if_neg (by decide : ¬ (1 : Int32) = 0)]
      by_cases h6 : stgU (D 379) x k = -6
      · rw [if_pos h6] at hi
        rw [if_pos h6]
        exact hi
      · rw [if_neg h6] at hi
        rw [if_neg h6]
        rcases h0 with h0 | ⟨q, h1, h2, h3⟩
        · exact absurd h0 h6
        · rw [r_ofPerson D 1 k 1 rfl rfl (by omega) (by omega), bd_some, r_ofPerson D 1 q 1 h2 rfl (by omega) (by omega), bd_some]
          rw [h2, nI_clamp (by omega)] at hi
          rw [h2]
          by_cases h9 : D 379 (12 + 4 * k + 1) ≤ D 379 (12 + 4 * q + 1)
          · rw [if_pos h9] at hi ⊢
            exact hi
          · rw [if_neg h9] at hi ⊢
            exact hi
    · rw [hb, if_pos rfl] at hi
      rw [if_neg (by decide), if_pos rfl]
      exact hi
def stgV (s : Nat → Int32) (n : Nat) (but : Int32) : Int32 := stgU s but n
theorem r_stg (D : dT) {n : Nat} (hn : D 379 5 = nI n) (h10 : n ≤ 10) (x : Int32) : F_X6_strongestBut x D = some (stgV (D 379) n x, D) := r_stg_l D hn h10 x n 0 lim (by omega) (lim_lt (by omega))
/-- straps can be had -/
abbrev canV (s : Nat → Int32) (n j : Nat) (x : Int32) : Prop := x = -6 ∨ (¬ freeV s n x.toNatClampNeg ≤ 0 ∧ (x = 2 → s (52 + 12 * j + 1) = 0))
theorem r_can (D : dT) {n : Nat} (hn : D 379 6 = nI n) (h16 : n ≤ 16) {x k : Int32} (j : Nat) (hx : x = nI j) (hj : j < 16) (hk : k = -6 ∨ inR k 3) : (canV (D 379) n j k ∧ F_X6_canHave x k D = some (1, D)) ∨ (¬ canV (D 379) n j k ∧ F_X6_canHave x k D = some (0, D)) := by
  unfold F_X6_canHave canV
  by_cases h6 : k = -6
  · rw [if_pos h6]; exact Or.inl ⟨Or.inl h6, rfl⟩
  · rw [if_neg h6]
    obtain ⟨q, hq, rfl⟩ := inR_of (hk.resolve_left h6) (by omega)
    rw [r_free D hn h16 q rfl hq, bd_some, nI_clamp (by omega)]
    by_cases h0 : freeV (D 379) n q ≤ 0
    · rw [if_pos h0]
      exact Or.inr ⟨fun z => z.elim h6 (fun z => z.1 h0), rfl⟩
    · rw [if_neg h0]
      by_cases h2 : nI q = 2
      · rw [if_pos h2, r_ofJobs D 1 j 1 hx rfl hj (by omega), bd_some]
        by_cases h1 : D 379 (52 + 12 * j + 1) = 0
        · rw [if_pos h1]; exact Or.inl ⟨Or.inr ⟨h0, fun _ => h1⟩, rfl⟩
        · rw [if_neg h1]; exact Or.inr ⟨fun z => z.elim h6 (fun z => h1 (z.2 h2)), rfl⟩
      · rw [if_neg h2]; exact Or.inl ⟨Or.inr ⟨h0, fun z => absurd z h2⟩, rfl⟩
