/-! a copy of a firm -/
def csD (D : dT) (o o1 k0 : Nat) : Nat → dT
  | 0 => D
  | k + 1 => up2 (csD D o o1 k0 k) o (k0 + k) ((csD D o o1 k0 k) o1 (k0 + k))
theorem csD_s (D : dT) (o o1 k0 k : Nat) : csD D o o1 k0 (k + 1) = up2 (csD D o o1 k0 k) o (k0 + k) ((csD D o o1 k0 k) o1 (k0 + k)) := rfl
theorem csD_o (D : dT) {o o1 k0 q : Nat} (h : q ≠ o) : ∀ n, csD D o o1 k0 n q = D q := by
  intro n
  induction n with
  | zero => rfl
  | succ n ih => rw [csD_s, up2_o _ _ _ h, ih]
theorem csD_at (D : dT) {o o1 k0 : Nat} (h : o1 ≠ o) {k : Nat} : ∀ n, csD D o o1 k0 n o k = if k0 ≤ k ∧ k < k0 + n then D o1 k else D o k := by
  intro n
  induction n with
  | zero => rw [if_neg (by omega)]; rfl
  | succ n ih =>
    rw [csD_s]
    by_cases e : k = k0 + n
    · subst e
      rw [up2_self, csD_o D h, if_pos (by omega)]
    · rw [up2_ne _ _ (by omega), ih]
      by_cases c : k0 ≤ k ∧ k < k0 + n
      · rw [if_pos c, if_pos (by omega)]
      · rw [if_neg c, if_neg (by omega)]
theorem x4_copy (D : dT) (o o1 : Nat) : F_X4_copyFrom o o1 D = some (0, csD D o o1 0 5) := by
  unfold F_X4_copyFrom
  rfl
theorem x2_copy (D : dT) (o o1 : Nat) : F_X2_copyFrom o o1 D = some (0, csD D o o1 0 12) := by
  unfold F_X2_copyFrom
  rfl
theorem cp2_o (D : dT) {o q N i : Nat} (h : i ≠ q) : cp2 D o q N i = D i := by
  funext j
  exact if_neg (fun z => h z.1)
theorem cp2_at (D : dT) {o q N j : Nat} (h : j < N) : cp2 D o q N q j = D o j := if_pos ⟨rfl, h⟩
def cpP (D : dT) (B B1 : Nat) : Nat → dT
  | 0 => D
  | p + 1 => csD (cpP D B B1 p) (B + 6 + p) (B1 + 6 + p) 0 5
def cpJ (D : dT) (B B1 : Nat) : Nat → dT
  | 0 => D
  | j + 1 => csD (cpJ D B B1 j) (B + 16 + j) (B1 + 16 + j) 0 12
theorem cpP_o (D : dT) {B B1 : Nat} {q : Nat} : ∀ P, (q < B + 6 ∨ B + 6 + P ≤ q) → cpP D B B1 P q = D q := by
  intro P
  induction P with
  | zero => intro _; rfl
  | succ P ih =>
    intro h
    show csD _ _ _ _ _ q = _
    rw [csD_o _ (by omega)]
    exact ih (by omega)
theorem cpJ_o (D : dT) {B B1 : Nat} {q : Nat} : ∀ J, (q < B + 16 ∨ B + 16 + J ≤ q) → cpJ D B B1 J q = D q := by
  intro J
  induction J with
  | zero => intro _; rfl
  | succ J ih =>
    intro h
    show csD _ _ _ _ _ q = _
    rw [csD_o _ (by omega)]
    exact ih (by omega)
theorem cpP_at (D : dT) {B B1 : Nat} (hB : B + 32 ≤ B1 ∨ B1 + 32 ≤ B) {p k : Nat} (hk : k < 5) : ∀ P, P ≤ 10 → p < P → cpP D B B1 P (B + 6 + p) k = D (B1 + 6 + p) k := by
  intro P
  induction P with
  | zero => intro _ h; omega
  | succ P ih =>
    intro hP h
    show csD _ _ _ _ _ (B + 6 + p) k = _
    by_cases e : p = P
    · subst e
      rw [csD_at _ (by omega), if_pos (by omega), cpP_o D p (by omega)]
    · rw [csD_o _ (by omega)]
      exact ih (by omega) (by omega)
theorem cpJ_at (D : dT) {B B1 : Nat} (hB : B + 32 ≤ B1 ∨ B1 + 32 ≤ B) {j k : Nat} (hk : k < 12) : ∀ J, J ≤ 16 → j < J → cpJ D B B1 J (B + 16 + j) k = D (B1 + 16 + j) k := by
  intro J
  induction J with
  | zero => intro _ h; omega
  | succ J ih =>
    intro hJ h
    show csD _ _ _ _ _ (B + 16 + j) k = _
    by_cases e : j = J
    · subst e
      rw [csD_at _ (by omega), if_pos (by omega), cpJ_o D j (by omega)]
    · rw [csD_o _ (by omega)]
      exact ih (by omega) (by omega)
theorem c_copyJ (D : dT) {B B1 J : Nat} (hJ : D B 6 = nI J) (h16 : J ≤ 16) : ∀ m k fuel, k + m = J → m < fuel → F_X0_copyFrom_119 fuel B B1 (nI k) (cpJ D B B1 k) = some (0, cpJ D B B1 J) := by
  intro m
  induction m with
  | zero =>
    intro k fuel hk hf
    obtain ⟨f, rfl⟩ := Nat.exists_eq_add_of_lt hf
    rw [show 0 + f + 1 = f + 1 by omega, F_X0_copyFrom_119, cpJ_o D k (by omega), hJ, if_pos (nI_le (by omega) (by omega)), show k = J by omega]
  | succ m ih =>
    intro k fuel hk hf
    obtain ⟨f, rfl⟩ := Nat.exists_eq_add_of_lt hf
    rw [F_X0_copyFrom_119, cpJ_o D k (q := B) (by omega), hJ, if_neg (nI_ge (by omega) (by omega)), if_pos (inRn (by omega) (by omega)), if_pos (inRn (by omega) (by omega)), x2_copy, bd_some, nI_clamp (by omega), nI_1]
    exact ih (k + 1) (m + 1 + f) (by omega) (by omega)
theorem c_copyP (D : dT) {B B1 P J : Nat} (hP : D B 5 = nI P) (h10 : P ≤ 10) (hJ : D B 6 = nI J) (h16 : J ≤ 16) : ∀ m k fuel, k + m = P → m < fuel → F_X0_copyFrom_88 fuel B B1 (nI k) (cpP D B B1 k) = some (0, cpJ (cpP D B B1 P) B B1 J) := by
  intro m
  induction m with
  | zero =>
    intro k fuel hk hf
    obtain ⟨f, rfl⟩ := Nat.exists_eq_add_of_lt hf
    rw [show 0 + f + 1 = f + 1 by omega, F_X0_copyFrom_88, cpP_o D k (q := B) (by omega), hP, if_pos (nI_le (by omega) (by omega)), show k = P by omega]
    exact c_copyJ (cpP D B B1 P) (by rw [cpP_o D P (by omega)]; exact hJ) h16 J 0 lim (by omega) (lim_lt (by omega))
  | succ m ih =>
    intro k fuel hk hf
    obtain ⟨f, rfl⟩ := Nat.exists_eq_add_of_lt hf
    rw [F_X0_copyFrom_88, cpP_o D k (q := B) (by omega), hP, if_neg (nI_ge (by omega) (by omega)), if_pos (inRn (by omega) (by omega)), if_pos (inRn (by omega) (by omega)), x4_copy, bd_some, nI_clamp (by omega), nI_1]
    exact ih (k + 1) (m + 1 + f) (by omega) (by omega)
theorem c_copy {D : dT} {B B1 : Nat} {s : Nat → Int32} {P J : Nat} (h : FR D B1 s P J) (h10 : P ≤ 10) (h16 : J ≤ 16) (hB : B + 32 ≤ B1 ∨ B1 + 32 ≤ B) : ∃ D', F_X0_copyFrom B B1 D = some (0, D') ∧ FR D' B s P J ∧ off B D D' := by
  have e : F_X0_copyFrom B B1 D = F_X0_copyFrom_88 lim B B1 (0 : Int32) (csD (cp2 (cp2 (cp2 D (B1 + 1) (B + 1) 4) (B1 + 2) (B + 2) 3) (B1 + 3) (B + 3) 3) B B1 5 5) := rfl
  rw [e]
  have hC : ∀ q, q ≠ B + 1 → q ≠ B + 2 → q ≠ B + 3 → (cp2 (cp2 (cp2 D (B1 + 1) (B + 1) 4) (B1 + 2) (B + 2) 3) (B1 + 3) (B + 3) 3) q = D q := fun q a b c => by rw [cp2_o _ c, cp2_o _ b, cp2_o _ a]
  have hC1 : ∀ k, k < 4 → (cp2 (cp2 (cp2 D (B1 + 1) (B + 1) 4) (B1 + 2) (B + 2) 3) (B1 + 3) (B + 3) 3) (B + 1) k = D (B1 + 1) k := fun k hk => by rw [cp2_o _ (by omega), cp2_o _ (by omega), cp2_at _ hk]
  have hC2 : ∀ k, k < 3 → (cp2 (cp2 (cp2 D (B1 + 1) (B + 1) 4) (B1 + 2) (B + 2) 3) (B1 + 3) (B + 3) 3) (B + 2) k = D (B1 + 2) k := fun k hk => by rw [cp2_o _ (by omega), cp2_at _ hk, cp2_o _ (by omega)]
  have hC3 : ∀ k, k < 3 → (cp2 (cp2 (cp2 D (B1 + 1) (B + 1) 4) (B1 + 2) (B + 2) 3) (B1 + 3) (B + 3) 3) (B + 3) k = D (B1 + 3) k := fun k hk => by rw [cp2_at _ hk, cp2_o _ (by omega), cp2_o _ (by omega)]
  generalize cp2 (cp2 (cp2 D (B1 + 1) (B + 1) 4) (B1 + 2) (B + 2) 3) (B1 + 3) (B + 3) 3 = C at hC hC1 hC2 hC3 ⊢
  have f1 : ∀ k, 5 ≤ k → k < 10 → csD C B B1 5 5 B k = D B1 k := fun k a b => by rw [csD_at C (by omega), if_pos (by omega), hC _ (by omega) (by omega) (by omega)]
  have f2 : ∀ q, q ≠ B → csD C B B1 5 5 q = C q := fun q a => csD_o C a 5
  generalize csD C B B1 5 5 = E at f1 f2 ⊢
  refine ⟨_, c_copyP E (by rw [f1 5 (by omega) (by omega), FR_P h]) h10 (by rw [f1 6 (by omega) (by omega), FR_J h]) h16 P 0 lim (by omega) (lim_lt (by omega)), ?_, fun q hq => ?_⟩
  · have g0 : ∀ q, q < B + 6 → cpJ (cpP E B B1 P) B B1 J q = E q := fun q hq => by rw [cpJ_o _ J (by omega), cpP_o _ P (by omega)]
    refine ⟨⟨fun i hi => ?_, fun i hi => ?_, fun i hi => ?_⟩, ⟨?_, ?_, ?_, ?_, ?_⟩, fun p hp => ?_, fun i hi q hq => ?_⟩
    · rw [g0 _ (by omega), f2 _ (by omega), hC1 i hi, FR_set h i hi]
    · rw [g0 _ (by omega), f2 _ (by omega), hC2 i hi, FR_own h i hi]
    · rw [g0 _ (by omega), f2 _ (by omega), hC3 i hi, FR_fre h i hi]
    · rw [g0 _ (by omega), f1 _ (by omega) (by omega), FR_P h]
    · rw [g0 _ (by omega), f1 _ (by omega) (by omega), FR_J h]
    · rw [g0 _ (by omega), f1 _ (by omega) (by omega), FR_h h]
    · rw [g0 _ (by omega), f1 _ (by omega) (by omega), FR_c h]
    · rw [g0 _ (by omega), f1 _ (by omega) (by omega), FR_p h]
    · rw [cpJ_o _ J (by omega)]
      have : ∀ k, k < 5 → cpP E B B1 P (B + 6 + p) k = D (B1 + 6 + p) k := fun k hk => by rw [cpP_at E hB hk P h10 hp, f2 _ (by omega), hC _ (by omega) (by omega) (by omega)]
      rw [this 0 (by omega), this 1 (by omega), this 2 (by omega), this 3 (by omega), this 4 (by omega)]
      exact ⟨FR_p0 h hp, FR_p1 h hp, FR_p2 h hp, FR_p3 h hp, FR_p4 h hp⟩
    · rw [cpJ_at _ hB hq J h16 hi, cpP_o _ P (by omega), f2 _ (by omega), hC _ (by omega) (by omega) (by omega), FR_j h hi hq]
  · rw [cpJ_o _ J (by omega), cpP_o _ P (by omega), f2 _ (by omega), hC _ (by omega) (by omega) (by omega)]
