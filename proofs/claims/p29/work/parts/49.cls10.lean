/-! hours: what changes people -/
theorem freeV_congr {s s' : Nat → Int32} {J q : Nat} (hq : s' (9 + q) = s (9 + q)) (h : ∀ i, i < J → HOW s' i = HOW s i ∧ s' (52 + 12 * i + 8) = s (52 + 12 * i + 8)) : freeV s' J q = freeV s J q := by
  have := freeU_c (s := s) (s' := s') (nI q) (s (9 + q)) (j := J) J (fun i hi _ => h i hi)
  rw [if_neg (fun z => absurd z.1 (Nat.lt_irrefl _)), if_neg (fun z => absurd z.1 (Nat.lt_irrefl _)), Int32.add_zero, Int32.add_zero] at this
  unfold freeV
  rw [hq]
  exact this
theorem jobV_congr {s s' : Nat → Int32} {J p : Nat} (h : ∀ i, i < J → HOW s' i = HOW s i ∧ CRW s' i = CRW s i) : jobV s' J p = jobV s J p := jobU_congr J (fun i hi => by rw [(h i hi).1, (h i hi).2])
/-- a change of people alone -/
theorem FR_per {D D' : dT} {B : Nat} {s s' : Nat → Int32} {P J : Nat} (h : FR D B s P J) (h10 : P ≤ 10) (hD : ∀ q, (q < B + 6 ∨ B + 16 ≤ q) → D' q = D q) (hs : ∀ i, i < 12 ∨ 52 ≤ i → s' i = s i)
    (hp : ∀ p, p < P → D' (B + 6 + p) 0 = s' (12 + 4 * p) ∧ D' (B + 6 + p) 1 = s' (12 + 4 * p + 1) ∧ D' (B + 6 + p) 2 = D (B + 6 + p) 2 ∧ D' (B + 6 + p) 3 = s' (12 + 4 * p + 2) ∧ D' (B + 6 + p) 4 = s' (12 + 4 * p + 3)) : FR D' B s' P J := by
  refine ⟨⟨fun i hi => ?_, fun i hi => ?_, fun i hi => ?_⟩, ⟨?_, ?_, ?_, ?_, ?_⟩, fun p hp2 => ⟨(hp p hp2).1, (hp p hp2).2.1, ?_, (hp p hp2).2.2.2.1, (hp p hp2).2.2.2.2⟩, fun i hi q hq => ?_⟩
  · rw [hD _ (by omega), hs _ (by omega), FR_set h i hi]
  · rw [hD _ (by omega), hs _ (by omega), FR_own h i hi]
  · rw [hD _ (by omega), FR_fre h i hi]
    exact (freeV_congr (hs _ (by omega)) (fun i _ => ⟨hs _ (by omega), hs _ (by omega)⟩)).symm
  · rw [hD _ (by omega), FR_P h]
  · rw [hD _ (by omega), FR_J h]
  · rw [hD _ (by omega), hs _ (by omega), FR_h h]
  · rw [hD _ (by omega), hs _ (by omega), FR_c h]
  · rw [hD _ (by omega), hs _ (by omega), FR_p h]
  · rw [(hp p hp2).2.2.1, FR_p2 h hp2]
    exact (jobV_congr (fun i _ => ⟨hs _ (by omega), hs _ (by omega)⟩)).symm
  · rw [hD _ (by omega), hs _ (by omega), FR_j h hi hq]
/-- a change of a field of a job that counts for nothing else -/
theorem FR_jup {D : dT} {B : Nat} {s : Nat → Int32} {P J : Nat} (h : FR D B s P J) (h10 : P ≤ 10) {j k : Nat} (hj : j < J) (hk : k < 12) (k5 : k ≠ 5) (k7 : k ≠ 7) (k8 : k ≠ 8) (v : Int32) : FR (up2 D (B + 16 + j) k v) B (upd s (52 + 12 * j + k) v) P J := by
  have hn : ∀ i, i ≠ 52 + 12 * j + k → upd s (52 + 12 * j + k) v i = s i := fun i hi => upd_n _ _ hi
  have ho : ∀ q, q ≠ B + 16 + j → up2 D (B + 16 + j) k v q = D q := fun q hq => up2_o _ _ _ hq
  refine ⟨⟨fun i hi => ?_, fun i hi => ?_, fun i hi => ?_⟩, ⟨?_, ?_, ?_, ?_, ?_⟩, fun p hp2 => ⟨?_, ?_, ?_, ?_, ?_⟩, fun i hi q hq => ?_⟩
  · rw [ho _ (by omega), hn _ (by omega), FR_set h i hi]
  · rw [ho _ (by omega), hn _ (by omega), FR_own h i hi]
  · rw [ho _ (by omega), FR_fre h i hi]
    exact (freeV_congr (hn _ (by omega)) (fun i _ => ⟨hn _ (by omega), hn _ (by omega)⟩)).symm
  · rw [ho _ (by omega), FR_P h]
  · rw [ho _ (by omega), FR_J h]
  · rw [ho _ (by omega), hn _ (by omega), FR_h h]
  · rw [ho _ (by omega), hn _ (by omega), FR_c h]
  · rw [ho _ (by omega), hn _ (by omega), FR_p h]
  · rw [ho _ (by omega), hn _ (by omega), FR_p0 h hp2]
  · rw [ho _ (by omega), hn _ (by omega), FR_p1 h hp2]
  · rw [ho _ (by omega), FR_p2 h hp2]
    exact (jobV_congr (fun i _ => ⟨hn _ (by omega), hn _ (by omega)⟩)).symm
  · rw [ho _ (by omega), hn _ (by omega), FR_p3 h hp2]
  · rw [ho _ (by omega), hn _ (by omega), FR_p4 h hp2]
  · by_cases e : i = j
    · subst e
      by_cases e2 : q = k
      · subst e2; rw [up2_self, upd_s]
      · rw [up2_ne _ _ (by omega), hn _ (by omega), FR_j h hi hq]
    · rw [ho _ (by omega), hn _ (by omega), FR_j h hi hq]
theorem FR_78 {D : dT} {B : Nat} {s : Nat → Int32} {P J : Nat} (h : FR D B s P J) (h10 : P ≤ 10) {k i : Nat} (hk : (k = 7 ∧ i = 4) ∨ (k = 8 ∧ i = 7) ∨ (k = 9 ∧ i = 8)) (v : Int32) : FR (up2 D B k v) B (upd s i v) P J := by
  have hn : ∀ q, 9 ≤ q ∨ q < 4 → upd s i v q = s q := fun q hi => upd_n _ _ (by omega)
  have ho : ∀ q, q ≠ B → up2 D B k v q = D q := fun q hq => up2_o _ _ _ hq
  refine ⟨⟨fun q hi => ?_, fun q hi => ?_, fun q hi => ?_⟩, ⟨?_, ?_, ?_, ?_, ?_⟩, fun p hp2 => ⟨?_, ?_, ?_, ?_, ?_⟩, fun q hi r hq => ?_⟩
  · rw [ho _ (by omega), hn _ (by omega), FR_set h q hi]
  · rw [ho _ (by omega), hn _ (by omega), FR_own h q hi]
  · rw [ho _ (by omega), FR_fre h q hi]
    exact (freeV_congr (hn _ (by omega)) (fun i _ => ⟨hn _ (by omega), hn _ (by omega)⟩)).symm
  · rw [up2_ne _ _ (by omega), FR_P h]
  · rw [up2_ne _ _ (by omega), FR_J h]
  · by_cases e : k = 7
    · rw [e, up2_self, show i = 4 by omega, upd_s]
    · rw [up2_ne _ _ (by omega), upd_n _ _ (by omega), FR_h h]
  · by_cases e : k = 8
    · rw [e, up2_self, show i = 7 by omega, upd_s]
    · rw [up2_ne _ _ (by omega), upd_n _ _ (by omega), FR_c h]
  · by_cases e : k = 9
    · rw [e, up2_self, show i = 8 by omega, upd_s]
    · rw [up2_ne _ _ (by omega), upd_n _ _ (by omega), FR_p h]
  · rw [ho _ (by omega), hn _ (by omega), FR_p0 h hp2]
  · rw [ho _ (by omega), hn _ (by omega), FR_p1 h hp2]
  · rw [ho _ (by omega), FR_p2 h hp2]
    exact (jobV_congr (fun i _ => ⟨hn _ (by omega), hn _ (by omega)⟩)).symm
  · rw [ho _ (by omega), hn _ (by omega), FR_p3 h hp2]
  · rw [ho _ (by omega), hn _ (by omega), FR_p4 h hp2]
  · rw [ho _ (by omega), hn _ (by omega), FR_j h hi hq]
/-! rest -/
def minR (f w g : Int32) : Int32 := if f ≤ w + g then f else w + g
theorem rstU_pt (s : Nat → Int32) (c : Int32) {p : Nat} : ∀ n, n ≤ 10 → p < 10 → rstU s c n (12 + 4 * p + 1) = if p < n ∧ bt c p = true then minR (s (12 + 4 * p)) (s (12 + 4 * p + 1)) (s 1) else s (12 + 4 * p + 1) := by
  intro n
  induction n with
  | zero => intro _ _; rw [if_neg (fun z => absurd z.1 (by omega))]; rfl
  | succ n ih =>
    intro hn hp
    rw [rstU_s]
    by_cases e : p = n
    · subst e
      rw [upd_s, rstU_o s c (by omega) p (by omega), rstU_o s c (i := 1) (by omega) p (by omega), ih (by omega) hp, if_neg (show ¬ (p < p ∧ bt c p = true) from fun z => absurd z.1 (by omega))]
      cases hb : bt c p
      · rw [if_neg (by decide), if_neg (fun z => absurd z.2 (by decide))]
      · rw [if_pos rfl, if_pos (show p < p + 1 ∧ true = true from ⟨by omega, rfl⟩)]; rfl
    · rw [upd_n _ _ (by omega), ih (by omega) hp]
      by_cases c1 : p < n ∧ bt c p = true
      · rw [if_pos c1, if_pos ⟨by omega, c1.2⟩]
      · rw [if_neg c1, if_neg (fun z => c1 ⟨by omega, z.2⟩)]
def rsD (D : dT) (B : Nat) (c : Int32) : Nat → dT
  | 0 => D
  | p + 1 => if bt c p then up2 (rsD D B c p) (B + 6 + p) 1 (minR (D (B + 6 + p) 0) (D (B + 6 + p) 1) (D (B + 1) 1)) else rsD D B c p
theorem rsD_s (D : dT) (B : Nat) (c : Int32) (p : Nat) : rsD D B c (p + 1) = if bt c p then up2 (rsD D B c p) (B + 6 + p) 1 (minR (D (B + 6 + p) 0) (D (B + 6 + p) 1) (D (B + 1) 1)) else rsD D B c p := rfl
theorem rsD_o (D : dT) {B : Nat} (c : Int32) {q : Nat} : ∀ P, (q < B + 6 ∨ B + 6 + P ≤ q) → rsD D B c P q = D q := by
  intro P
  induction P with
  | zero => intro _; rfl
  | succ P ih =>
    intro h
    rw [rsD_s]
    cases bt c P
    · rw [if_neg (by decide)]; exact ih (by omega)
    · rw [if_pos rfl, up2_o _ _ _ (by omega)]; exact ih (by omega)
theorem rsD_k (D : dT) {B : Nat} (c : Int32) (q : Nat) {k : Nat} (hk : k ≠ 1) : ∀ P, rsD D B c P q k = D q k := by
  intro P
  induction P with
  | zero => rfl
  | succ P ih =>
    rw [rsD_s]
    cases bt c P
    · rw [if_neg (by decide)]; exact ih
    · rw [if_pos rfl, up2_ne _ _ (by omega)]; exact ih
theorem rsD_at (D : dT) {B : Nat} (c : Int32) {p : Nat} : ∀ P, p < P → rsD D B c P (B + 6 + p) 1 = if bt c p then minR (D (B + 6 + p) 0) (D (B + 6 + p) 1) (D (B + 1) 1) else D (B + 6 + p) 1 := by
  intro P
  induction P with
  | zero => intro h; omega
  | succ P ih =>
    intro h
    rw [rsD_s]
    by_cases e : p = P
    · subst e
      cases hb : bt c p
      · rw [if_neg (by decide), if_neg (by decide), rsD_o D c p (by omega)]
      · rw [if_pos rfl, if_pos rfl, up2_self]
    · cases bt c P
      · rw [if_neg (by decide)]; exact ih (by omega)
      · rw [if_pos rfl, up2_ne _ _ (by omega)]; exact ih (by omega)
theorem minR_j (f w g : Int32) : (if w + g < f then w + g else f) = minR f w g := by
  unfold minR
  by_cases h : f ≤ w + g
  · rw [if_pos h, if_neg (Int32.not_lt.mpr h)]
  · rw [if_neg h, if_pos (Int32.not_le.mp h)]
theorem c_rest_l (D : dT) {B P : Nat} (hP : D B 5 = nI P) (h10 : P ≤ 10) (c : Int32) : ∀ m k fuel, k + m = P → m < fuel → F_X0_restPeople_2 fuel B c (nI k) (rsD D B c k) = some (0, rsD D B c P) := by
  intro m
  induction m with
  | zero =>
    intro k fuel hk hf
    obtain ⟨f, rfl⟩ := Nat.exists_eq_add_of_lt hf
    rw [show 0 + f + 1 = f + 1 by omega, F_X0_restPeople_2, rsD_o D c k (by omega), hP, if_pos (nI_le (by omega) (by omega)), show k = P by omega]
  | succ m ih =>
    intro k fuel hk hf
    obtain ⟨f, rfl⟩ := Nat.exists_eq_add_of_lt hf
    have hi := ih (k + 1) (m + 1 + f) (by omega) (by omega)
    rw [rsD_s] at hi
    rw [F_X0_restPeople_2, rsD_o D c k (q := B) (by omega), hP, if_neg (nI_ge (by omega) (by omega)), c_isIn k (by omega), bd_some, nI_1]
    cases hb : bt c k
    · rw [hb, if_neg (by decide)] at hi
      rw [if_pos (by decide)]
      exact hi
    · rw [hb, if_pos rfl] at hi
      rw [if_neg (by decide), if_pos (inRn (by omega) (by omega)), if_pos (by decide)]
      unfold F_X4_rest
      rw [bd_some, nI_clamp (by omega), t1, minR_j, rsD_o D c k (q := B + 6 + k) (by omega), rsD_o D c k (q := B + 1) (by omega)]
      exact hi
theorem FR_rst {D : dT} {B : Nat} {s : Nat → Int32} {P J : Nat} (h : FR D B s P J) (h10 : P ≤ 10) (c : Int32) : FR (rsD D B c P) B (rstV s P c) P J := by
  refine FR_per h h10 (fun q hq => rsD_o D c P (by omega)) (fun i hi => rstU_o s c (by omega) P h10) (fun p hp => ⟨?_, ?_, ?_, ?_, ?_⟩)
  · rw [rsD_k D c _ (by omega), FR_p0 h hp]; exact (rstU_o s c (by omega) P h10).symm
  · rw [rsD_at D c P hp, FR_p0 h hp, FR_p1 h hp, FR_set h 1 (by omega)]
    show _ = rstU s c P _
    rw [rstU_pt s c P h10 (by omega)]
    cases bt c p
    · rw [if_neg (by decide), if_neg (fun z => absurd z.2 (by decide))]
    · rw [if_pos rfl, if_pos ⟨hp, rfl⟩]
  · rw [rsD_k D c _ (by omega)]
  · rw [rsD_k D c _ (by omega), FR_p3 h hp]; exact (rstU_o s c (by omega) P h10).symm
  · rw [rsD_k D c _ (by omega), FR_p4 h hp]; exact (rstU_o s c (by omega) P h10).symm
theorem c_rest {D : dT} {B : Nat} {s : Nat → Int32} {P J : Nat} (h : FR D B s P J) (h10 : P ≤ 10) (c : Int32) : ∃ D', F_X0_restPeople B c D = some (0, D') ∧ FR D' B (rstV s P c) P J ∧ off B D D' :=
  ⟨rsD D B c P, c_rest_l D (FR_P h) h10 c P 0 lim (by omega) (lim_lt (by omega)), FR_rst h h10 c, fun q hq => rsD_o D c P (by omega)⟩
