/-! the reference: hours, the order, assigning -/
theorem rstV_o (s : Nat → Int32) {P : Nat} (hP10 : P ≤ 10) (c : Int32) {i : Nat} (h : ∀ p, p < 10 → i ≠ 12 + 4 * p + 1) : rstV s P c i = s i := rstU_o s c h P hP10
theorem wrkV_o (s : Nat → Int32) {P j : Nat} (hP10 : P ≤ 10) {i : Nat} (h1 : i < 12) (h2 : i ≠ 7) (h3 : i ≠ 8) : (wrkV s P j).2 i = s i := by
  unfold wrkV
  split
  · show rstV _ P _ i = _
    rw [rstV_o _ hP10 _ (by intro p hp; omega), upd_n _ _ (by omega)]
  · split
    · show rstV _ P _ i = _
      rw [rstV_o _ hP10 _ (by intro p hp; omega), upd_n _ _ (by omega), upd_n _ _ (by omega)]
    · have e : wrkS s P j i = s i := by
        unfold wrkS carV
        rw [carU_o _ _ (by intro p hp; omega) P hP10, upd_n _ _ (by omega), upd_n _ _ (by omega)]
      split
      · show endV _ P j i = _
        rw [endV_o _ hP10 (by intro p hp; omega) (by omega) (by omega), e]
      · exact e
def gobU (s : Nat → Int32) (P : Nat) : Nat → Int32 × (Nat → Int32)
  | 0 => (0, s)
  | j + 1 => if HOW (gobU s P j).2 j = 1 then ((if (wrkV (gobU s P j).2 P j).1 = 0 then (gobU s P j).1 + 0 else (gobU s P j).1 + 1), (wrkV (gobU s P j).2 P j).2) else ((gobU s P j).1 + 0, (gobU s P j).2)
theorem gobU_s (s : Nat → Int32) (P j : Nat) : gobU s P (j + 1) = if HOW (gobU s P j).2 j = 1 then ((if (wrkV (gobU s P j).2 P j).1 = 0 then (gobU s P j).1 + 0 else (gobU s P j).1 + 1), (wrkV (gobU s P j).2 P j).2) else ((gobU s P j).1 + 0, (gobU s P j).2) := rfl
theorem gobU_o (s : Nat → Int32) {P : Nat} (hP10 : P ≤ 10) {i : Nat} (h1 : i < 12) (h2 : i ≠ 7) (h3 : i ≠ 8) : ∀ n, (gobU s P n).2 i = s i := by
  intro n
  induction n with
  | zero => rfl
  | succ n ih =>
    rw [gobU_s]
    split
    · show (wrkV _ P n).2 i = _
      rw [wrkV_o _ hP10 h1 h2 h3, ih]
    · exact ih
def idlV (s : Nat → Int32) (J : Nat) : Int32 := 1023 &&& (busyV s J ^^^ -1)
def gobS (s : Nat → Int32) (P J : Nat) : Nat → Int32 := rstV (gobU s P J).2 P (idlV s J)
def gobV (s : Nat → Int32) (P J : Nat) : Int32 × (Nat → Int32) := ((gobU s P J).1, upd (gobS s P J) 4 (gobS s P J 4 + 1))
theorem gobV_o (s : Nat → Int32) {P : Nat} (hP10 : P ≤ 10) (J : Nat) {i : Nat} (h1 : i < 12) (h2 : i ≠ 7) (h3 : i ≠ 8) (h4 : i ≠ 4) : (gobV s P J).2 i = s i := by
  show upd (gobS s P J) 4 _ i = _
  rw [upd_n _ _ h4]
  unfold gobS
  rw [rstV_o _ hP10 _ (by intro p hp; omega), gobU_o s hP10 h1 h2 h3]
theorem r_gob_l (s : Nat → Int32) {P J : Nat} (hP : s 5 = nI P) (hP10 : P ≤ 10) (hJ : s 6 = nI J) (h16 : J ≤ 16) (idle : Int32) : ∀ m k fuel (D : dT), D 379 = (gobU s P k).2 → k + m = J → m < fuel → F_X6_goesBy_15 fuel idle (gobU s P k).1 (nI k) D = some ((gobU s P J).1, ws D (upd (rstV (gobU s P J).2 P idle) 4 (rstV (gobU s P J).2 P idle 4 + 1))) := by
  intro m
  induction m with
  | zero =>
    intro k fuel D hD hk hf
    obtain ⟨f, rfl⟩ := Nat.exists_eq_add_of_lt hf
    have h6 : D 379 6 = nI J := by rw [hD, gobU_o s hP10 (by omega) (by omega) (by omega)]; exact hJ
    have h5 : D 379 5 = nI P := by rw [hD, gobU_o s hP10 (by omega) (by omega) (by omega)]; exact hP
    have e : k = J := by omega
    subst e
    rw [show 0 + f + 1 = f + 1 by omega, F_X6_goesBy_15, if_pos c6, t6, h6, if_pos (nI_le (by omega) (by omega)), r_rest D idle h5 hP10, bd_some, if_pos c4, if_pos c4, t4, ws_up, ws_s, ws_ws, hD]
  | succ m ih =>
    intro k fuel D hD hk hf
    obtain ⟨f, rfl⟩ := Nat.exists_eq_add_of_lt hf
    have h6 : D 379 6 = nI J := by rw [hD, gobU_o s hP10 (by omega) (by omega) (by omega)]; exact hJ
    have h5 : D 379 5 = nI P := by rw [hD, gobU_o s hP10 (by omega) (by omega) (by omega)]; exact hP
    have hi := ih (k + 1) (m + 1 + f)
    rw [F_X6_goesBy_15, if_pos c6, t6, h6, if_neg (nI_ge (by omega) (by omega)), r_ofJobs D 5 k 5 rfl rfl (by omega) (by omega), bd_some]
    unfold F_X6_goesBy_49 F_X6_goesBy_50
    rw [nI_1]
    by_cases h : HOW (gobU s P k).2 k = 1
    · have h1 : D 379 (52 + 12 * k + 5) = 1 := by rw [hD]; exact h
      rw [if_pos h1, r_works D k rfl (by omega) h5 hP10, bd_some]
      have h2 := hi (ws D (wrkV (D 379) P k).2) (by rw [ws_s, gobU_s, if_pos h, hD]) (by omega) (by omega)
      rw [ws_ws, gobU_s, if_pos h] at h2
      rw [hD] at h2 ⊢
      by_cases h3 : (wrkV (gobU s P k).2 P k).1 = 0
      · rw [if_pos h3] at h2 ⊢
        exact h2
      · rw [if_neg h3] at h2 ⊢
        exact h2
    · have h1 : ¬ D 379 (52 + 12 * k + 5) = 1 := by rw [hD]; exact h
      rw [if_neg h1]
      have h2 := hi D (by rw [gobU_s, if_neg h, hD]) (by omega) (by omega)
      rw [gobU_s, if_neg h] at h2
      exact h2
theorem r_gob (D : dT) {P J : Nat} (hP : D 379 5 = nI P) (hP10 : P ≤ 10) (hJ : D 379 6 = nI J) (h16 : J ≤ 16) : F_X6_goesBy D = some ((gobV (D 379) P J).1, ws D (gobV (D 379) P J).2) := by
  unfold F_X6_goesBy
  rw [r_busy D hJ h16, bd_some]
  exact r_gob_l (D 379) hP hP10 hJ h16 _ J 0 lim D rfl (by omega) (lim_lt (by omega))
def pasU (s : Nat → Int32) (P J : Nat) : Nat → Int32 × (Nat → Int32)
  | 0 => (0, s)
  | h + 1 => ((pasU s P J h).1 + (gobV (pasU s P J h).2 P J).1, (gobV (pasU s P J h).2 P J).2)
theorem pasU_s (s : Nat → Int32) (P J h : Nat) : pasU s P J (h + 1) = ((pasU s P J h).1 + (gobV (pasU s P J h).2 P J).1, (gobV (pasU s P J h).2 P J).2) := rfl
theorem pasU_o (s : Nat → Int32) {P : Nat} (hP10 : P ≤ 10) (J : Nat) {i : Nat} (h1 : i < 12) (h2 : i ≠ 7) (h3 : i ≠ 8) (h4 : i ≠ 4) : ∀ n, (pasU s P J n).2 i = s i := by
  intro n
  induction n with
  | zero => rfl
  | succ n ih =>
    rw [pasU_s]
    show (gobV _ P J).2 i = _
    rw [gobV_o _ hP10 J h1 h2 h3 h4, ih]
theorem r_pas_l (s : Nat → Int32) {P J : Nat} (hP : s 5 = nI P) (hP10 : P ≤ 10) (hJ : s 6 = nI J) (h16 : J ≤ 16) {x : Int32} {n : Nat} (hx : x = nI n) (hn : n < 1000) : ∀ m k fuel (D : dT), D 379 = (pasU s P J k).2 → k + m = n → m < fuel → F_X6_passes_4 fuel x (pasU s P J k).1 (nI k) D = some ((pasU s P J n).1, ws D (pasU s P J n).2) := by
  intro m
  induction m with
  | zero =>
    intro k fuel D hD hk hf
    obtain ⟨f, rfl⟩ := Nat.exists_eq_add_of_lt hf
    have e : k = n := by omega
    subst e
    rw [show 0 + f + 1 = f + 1 by omega, F_X6_passes_4, hx, if_pos (nI_le (by omega) (by omega)), ← hD, ws_id]
  | succ m ih =>
    intro k fuel D hD hk hf
    obtain ⟨f, rfl⟩ := Nat.exists_eq_add_of_lt hf
    have h6 : D 379 6 = nI J := by rw [hD, pasU_o s hP10 J (by omega) (by omega) (by omega) (by omega)]; exact hJ
    have h5 : D 379 5 = nI P := by rw [hD, pasU_o s hP10 J (by omega) (by omega) (by omega) (by omega)]; exact hP
    have hi := ih (k + 1) (m + 1 + f) (ws D (gobV (D 379) P J).2) (by rw [ws_s, pasU_s, hD]) (by omega) (by omega)
    rw [F_X6_passes_4, hx, if_neg (nI_ge (by omega) (by omega)), r_gob D h5 hP10 h6 h16, bd_some, nI_1]
    rw [ws_ws, pasU_s, hx] at hi
    rw [hD] at hi ⊢
    exact hi
theorem r_pas (D : dT) {P J : Nat} (hP : D 379 5 = nI P) (hP10 : P ≤ 10) (hJ : D 379 6 = nI J) (h16 : J ≤ 16) {x : Int32} (n : Nat) (hx : x = nI n) (hn : n < 1000) : F_X6_passes x D = some ((pasU (D 379) P J n).1, ws D (pasU (D 379) P J n).2) :=
  r_pas_l (D 379) hP hP10 hJ h16 hx hn n 0 lim D rfl (by omega) (lim_lt (by omega))
/-- job i comes ahead of job j -/
def ahW (by_ : Int32) (i j : Nat) : Int32 := if by_ < 0 then 1 else if by_ = 0 then (if j ≤ i then 0 else 1) else 0
def ahV (s : Nat → Int32) (i j : Nat) : Int32 := if s (52 + 12 * j + 3) - s (52 + 12 * i + 3) = 0 then ahW (s (52 + 12 * i + 4) - s (52 + 12 * j + 4)) i j else ahW (s (52 + 12 * j + 3) - s (52 + 12 * i + 3)) i j
theorem r_ahead (D : dT) (i j : Nat) (hi : i < 16) (hj : j < 16) : F_X6_isAhead (nI i) (nI j) D = some (ahV (D 379) i j, D) := by
  unfold F_X6_isAhead ahV
  have key : ∀ b, F_X6_isAhead_35 (nI i) (nI j) b D = some (ahW b i j, D) := by
    intro b
    unfold F_X6_isAhead_35 ahW
    by_cases h : b < 0
    · rw [if_pos h, if_pos h]
    · rw [if_neg h, if_neg h]
      by_cases h : b = 0
      · rw [if_pos h, if_pos h]
        by_cases h : j ≤ i
        · rw [if_pos (nI_le h (by omega)), if_pos h]
        · rw [if_neg (nI_ge (by omega) (by omega)), if_neg h]
      · rw [if_neg h, if_neg h]
  rw [r_ofJobs D 3 j 3 rfl rfl hj (by omega), bd_some, r_ofJobs D 3 i 3 rfl rfl hi (by omega), bd_some]
  by_cases h : D 379 (52 + 12 * j + 3) - D 379 (52 + 12 * i + 3) = 0
  · rw [if_pos h, if_pos h, r_ofJobs D 4 i 4 rfl rfl hi (by omega), bd_some, r_ofJobs D 4 j 4 rfl rfl hj (by omega), bd_some, key]
  · rw [if_neg h, if_neg h, key]
/-- how many that wait, and aren't among but, come ahead of j -/
def wtC (s : Nat → Int32) (but : Int32) (j : Nat) : Nat → Int32
  | 0 => 0
  | o + 1 => wtC s but j o + (if HOW s o = 0 ∧ bt but o = false ∧ ¬ o = j ∧ ¬ ahV s o j = 0 then 1 else 0)
theorem wtC_s (s : Nat → Int32) (but : Int32) (j o : Nat) : wtC s but j (o + 1) = wtC s but j o + (if HOW s o = 0 ∧ bt but o = false ∧ ¬ o = j ∧ ¬ ahV s o j = 0 then 1 else 0) := rfl
def wtF (s : Nat → Int32) (J : Nat) (rank but : Int32) : Nat → Int32
  | 0 => -6
  | m + 1 => if HOW s (J - (m + 1)) = 0 ∧ bt but (J - (m + 1)) = false ∧ wtC s but (J - (m + 1)) J = rank then nI (J - (m + 1)) else wtF s J rank but m
theorem wtF_s (s : Nat → Int32) (J : Nat) (rank but : Int32) (m : Nat) : wtF s J rank but (m + 1) = if HOW s (J - (m + 1)) = 0 ∧ bt but (J - (m + 1)) = false ∧ wtC s but (J - (m + 1)) J = rank then nI (J - (m + 1)) else wtF s J rank but m := rfl
theorem r_wtC_l (D : dT) {J : Nat} (hJ : D 379 6 = nI J) (h16 : J ≤ 16) (rank but : Int32) (j : Nat) (hj : j < J) (k2 : Int32 → dT → Option (Int32 × dT)) : ∀ m k fuel, k + m = J → m < fuel →
    F_X6_waitingAt_19 fuel rank but k2 (nI j) (wtC (D 379) but j k) (nI k) D = if HOW (D 379) j = 0 ∧ bt but j = false ∧ wtC (D 379) but j J = rank then some (nI j, D) else k2 (nI (j + 1)) D := by
  intro m
  induction m with
  | zero =>
    intro k fuel hk hf
    obtain ⟨f, rfl⟩ := Nat.exists_eq_add_of_lt hf
    have e : k = J := by omega
    subst e
    rw [show 0 + f + 1 = f + 1 by omega, F_X6_waitingAt_19, if_pos c6, t6, hJ, if_pos (nI_le (by omega) (by omega)), r_ofJobs D 5 j 5 rfl rfl (by omega) (by omega), bd_some, nI_1, sh_bit but j (by omega)]
    by_cases h0 : HOW (D 379) j = 0
    · rw [if_pos (show D 379 (52 + 12 * j + 5) = 0 from h0)]
      cases hb : bt but j
      · rw [if_pos (by decide)]
        by_cases hr : wtC (D 379) but j k = rank
        · rw [if_pos hr, if_pos ⟨h0, rfl, hr⟩]
        · rw [if_neg hr, if_neg (fun z => hr z.2.2)]
      · rw [if_neg (by decide), if_neg (fun z => by cases z.2.1)]
    · rw [if_neg (show ¬ D 379 (52 + 12 * j + 5) = 0 from h0), if_neg (fun z => h0 z.1)]
  | succ m ih =>
    intro k fuel hk hf
    obtain ⟨f, rfl⟩ := Nat.exists_eq_add_of_lt hf
    have hi := ih (k + 1) (m + 1 + f) (by omega) (by omega)
    have hn : (¬ (HOW (D 379) k = 0 ∧ bt but k = false ∧ ¬ k = j ∧ ¬ ahV (D 379) k j = 0)) → F_X6_waitingAt_84 rank but k2 (fun v3_ v4_ v5_ D_ => F_X6_waitingAt_19 (m + 1 + f) rank but k2 v3_ v4_ v5_ D_) (nI j) (nI k) (wtC (D 379) but j k) D = if HOW (D 379) j = 0 ∧ bt but j = false ∧ wtC (D 379) but j J = rank then some (nI j, D) else k2 (nI (j + 1)) D := by
      intro h
      unfold F_X6_waitingAt_84 F_X6_waitingAt_85
      rw [wtC_s, if_neg h] at hi
      rw [nI_1]
      exact hi
    rw [F_X6_waitingAt_19, if_pos c6, t6, hJ, if_neg (nI_ge (by omega) (by omega)), r_ofJobs D 5 k 5 rfl rfl (by omega) (by omega), bd_some, sh_bit but k (by omega)]
    have z1 : ¬ (1 : Int32) = 0 := by decide
    unfold F_X6_waitingAt_54 F_X6_waitingAt_55
    by_cases h0 : HOW (D 379) k = 0
    · rw [if_pos (show D 379 (52 + 12 * k + 5) = 0 from h0)]
      cases hb : bt but k
      · rw [if_pos (by decide), if_neg z1]
        by_cases hkj : k = j
        · rw [if_pos (by rw [hkj])]
          exact hn (fun z => z.2.2.1 hkj)
        · rw [if_neg (fun z => hkj ((nI_eq (by omega) (by omega)).mp z)), r_ahead D k j (by omega) (by omega), bd_some]
          by_cases ha : ahV (D 379) k j = 0
          · rw [if_pos ha]
            exact hn (fun z => z.2.2.2 ha)
          · rw [if_neg ha]
            unfold F_X6_waitingAt_85
            rw [wtC_s, if_pos ⟨h0, hb, hkj, ha⟩] at hi
            rw [nI_1]
            exact hi
      · rw [if_neg (by decide), if_pos rfl]
        exact hn (fun z => by rw [hb] at z; cases z.2.1)
    · rw [if_neg (show ¬ D 379 (52 + 12 * k + 5) = 0 from h0), if_pos rfl]
      exact hn (fun z => h0 z.1)
theorem r_wt_l (D : dT) {J : Nat} (hJ : D 379 6 = nI J) (h16 : J ≤ 16) (rank but : Int32) : ∀ m k fuel, k + m = J → m < fuel → F_X6_waitingAt_2 fuel rank but (nI k) D = some (wtF (D 379) J rank but m, D) := by
  intro m
  induction m with
  | zero =>
    intro k fuel hk hf
    obtain ⟨f, rfl⟩ := Nat.exists_eq_add_of_lt hf
    rw [show 0 + f + 1 = f + 1 by omega, F_X6_waitingAt_2, if_pos c6, t6, hJ, if_pos (nI_le (by omega) (by omega))]
    rfl
  | succ m ih =>
    intro k fuel hk hf
    obtain ⟨f, rfl⟩ := Nat.exists_eq_add_of_lt hf
    have hi := ih (k + 1) (m + 1 + f) (by omega) (by omega)
    have e : J - (m + 1) = k := by omega
    rw [F_X6_waitingAt_2, if_pos c6, t6, hJ, if_neg (nI_ge (by omega) (by omega)), wtF_s, e]
    have := r_wtC_l D hJ h16 rank but k (by omega) (fun v3_ D_ => F_X6_waitingAt_2 (m + 1 + f) rank but v3_ D_) J 0 lim (by omega) (lim_lt (by omega))
    refine this.trans ?_
    rw [hi]
    split <;> rfl
def wtV (s : Nat → Int32) (J : Nat) (rank but : Int32) : Int32 := wtF s J rank but J
theorem r_wt (D : dT) {J : Nat} (hJ : D 379 6 = nI J) (h16 : J ≤ 16) (rank but : Int32) : F_X6_waitingAt rank but D = some (wtV (D 379) J rank but, D) := r_wt_l D hJ h16 rank but J 0 lim (by omega) (lim_lt (by omega))
theorem wtF_in (s : Nat → Int32) (J : Nat) (rank but : Int32) : ∀ m, m ≤ J → wtF s J rank but m = -6 ∨ ∃ j, j < J ∧ wtF s J rank but m = nI j ∧ HOW s j = 0 ∧ bt but j = false ∧ wtC s but j J = rank := by
  intro m
  induction m with
  | zero => intro _; exact Or.inl rfl
  | succ m ih =>
    intro hm
    rw [wtF_s]
    split
    · next h => exact Or.inr ⟨_, by omega, rfl, h.1, h.2.1, h.2.2⟩
    · exact ih (by omega)
/-- loads weigh something -/
def lPos (s : Nat → Int32) (J : Nat) : Prop := ∀ j, j < J → ∀ k, k = -6 ∨ inR k 3 → 0 < loadV s j k
theorem loadV_congr {s t : Nat → Int32} {j : Nat} (h0 : t 0 = s 0) (h1 : t (52 + 12 * j) = s (52 + 12 * j)) (h2 : t (52 + 12 * j + 1) = s (52 + 12 * j + 1)) (k : Int32) : loadV t j k = loadV s j k := by
  unfold loadV ldV
  rw [h0, h1, h2]
theorem begV_o (s : Nat → Int32) (j : Nat) (c k : Int32) {i : Nat} (h5 : i ≠ 52 + 12 * j + 5) (h6 : i ≠ 52 + 12 * j + 6) (h7 : i ≠ 52 + 12 * j + 7) (h8 : i ≠ 52 + 12 * j + 8) : begV s j c k i = s i := by
  unfold begV
  rw [upd_n _ _ h5, upd_n _ _ h8, upd_n _ _ h7, upd_n _ _ h6]
theorem lPos.beg {s : Nat → Int32} {J : Nat} (h : lPos s J) (j : Nat) (c k : Int32) : lPos (begV s j c k) J := by
  intro i hi q hq
  rw [loadV_congr (begV_o s j c k (by omega) (by omega) (by omega) (by omega)) (begV_o s j c k (by omega) (by omega) (by omega) (by omega)) (begV_o s j c k (by omega) (by omega) (by omega) (by omega))]
  exact h i hi q hq
def asgU (P J : Nat) : Nat → (Nat → Int32) → Int32 → Int32 → Int32 × (Nat → Int32)
  | 0, s, b, _ => (b, s)
  | f + 1, s, b, se => if wtV s J 0 se = -6 then (b, s) else
    if stpV s P J (wtV s J 0 se).toNatClampNeg = -6 then asgU P J f s b (se ||| ((1 : Int32) <<< (wtV s J 0 se &&& 31)))
    else asgU P J f (begV s (wtV s J 0 se).toNatClampNeg (crewV s P J (wtV s J 0 se).toNatClampNeg (if stpV s P J (wtV s J 0 se).toNatClampNeg = 3 then -6 else stpV s P J (wtV s J 0 se).toNatClampNeg)) (if stpV s P J (wtV s J 0 se).toNatClampNeg = 3 then -6 else stpV s P J (wtV s J 0 se).toNatClampNeg)) (b ||| ((1 : Int32) <<< (wtV s J 0 se &&& 31))) (se ||| ((1 : Int32) <<< (wtV s J 0 se &&& 31)))
theorem asgU_s (P J f : Nat) (s : Nat → Int32) (b se : Int32) : asgU P J (f + 1) s b se = if wtV s J 0 se = -6 then (b, s) else
    if stpV s P J (wtV s J 0 se).toNatClampNeg = -6 then asgU P J f s b (se ||| ((1 : Int32) <<< (wtV s J 0 se &&& 31)))
    else asgU P J f (begV s (wtV s J 0 se).toNatClampNeg (crewV s P J (wtV s J 0 se).toNatClampNeg (if stpV s P J (wtV s J 0 se).toNatClampNeg = 3 then -6 else stpV s P J (wtV s J 0 se).toNatClampNeg)) (if stpV s P J (wtV s J 0 se).toNatClampNeg = 3 then -6 else stpV s P J (wtV s J 0 se).toNatClampNeg)) (b ||| ((1 : Int32) <<< (wtV s J 0 se &&& 31))) (se ||| ((1 : Int32) <<< (wtV s J 0 se &&& 31))) := rfl
theorem stp_in (s : Nat → Int32) (P J j : Nat) : ∀ k, k ≤ 4 → (stpU s P J j k).1 = -6 ∨ (stpU s P J j k).1 = 3 ∨ inR (stpU s P J j k).1 3 := by
  intro k
  induction k with
  | zero => intro _; exact Or.inl rfl
  | succ k ih =>
    intro hk
    by_cases h : ¬ crewV s P J j (kdV k) = -6 ∧ ((stpU s P J j k).1 = -6 ∨ onesV (crewV s P J j (kdV k)) < (stpU s P J j k).2)
    · rw [stpU_p _ _ _ _ _ h]
      by_cases h0 : k = 0
      · exact Or.inr (Or.inl (if_pos h0))
      · refine Or.inr (Or.inr ?_)
        show inR (if k = 0 then 3 else nI (k - 1)) 3
        rw [if_neg h0]
        exact inRn (by omega) (by omega)
    · rw [stpU_n _ _ _ _ _ h]
      exact ih (by omega)
theorem r_asg_l {P J h0 : Nat} (hP10 : P ≤ 10) (h16 : J ≤ 16) (hH6 : h0 ≤ 6) : ∀ f fuel (D : dT) (b se : Int32), D 379 5 = nI P → D 379 6 = nI J → D 379 3 = nI h0 → lPos (D 379) J → J < cntB se J + f → f ≤ fuel →
    F_X6_assigns_11 fuel b se (wtV (D 379) J 0 se) D = some ((asgU P J f (D 379) b se).1, ws D (asgU P J f (D 379) b se).2) := by
  intro f
  induction f with
  | zero =>
    intro fuel D b se hP hJ hH hL hc hf
    exact absurd (cnt_le se J) (by omega)
  | succ f ih =>
    intro fuel D b se hP hJ hH hL hc hf
    obtain ⟨g, rfl⟩ : ∃ g, fuel = g + 1 := ⟨fuel - 1, by omega⟩
    rw [F_X6_assigns_11, asgU_s]
    rcases wtF_in (D 379) J 0 se J (Nat.le_refl _) with h6 | ⟨j, hj, hw, hj0, hjb, -⟩
    · have h6 : wtV (D 379) J 0 se = -6 := h6
      rw [if_pos h6, if_pos h6, ws_id]
    · have hw : wtV (D 379) J 0 se = nI j := hw
      have hn6 : ¬ nI j = -6 := by
        intro z
        have := congrArg Int32.toInt z
        rw [nI_toInt (by omega), show (-6 : Int32).toInt = -6 from rfl] at this
        omega
      rw [hw, if_neg hn6, if_neg hn6, nI_clamp (by omega), r_stp D hP hP10 hJ h16 hH hH6 j rfl (by omega) (fun k hk => hL j hj k hk), bd_some]
      have hcn := cnt_or se (by omega : j < 32) hjb J (by omega)
      rw [if_pos hj] at hcn
      have nxt : ∀ (D2 : dT) (b2 : Int32), D2 379 5 = nI P → D2 379 6 = nI J → D2 379 3 = nI h0 → lPos (D2 379) J → F_X6_assigns_67 (fun v1_ v2_ v3_ D_ => F_X6_assigns_11 g v1_ v2_ v3_ D_) b2 se (nI j) D2 = some ((asgU P J f (D2 379) b2 (se ||| ((1 : Int32) <<< (nI j &&& 31)))).1, ws D2 (asgU P J f (D2 379) b2 (se ||| ((1 : Int32) <<< (nI j &&& 31)))).2) := by
        intro D2 b2 q1 q2 q3 q4
        unfold F_X6_assigns_67
        rw [r_wt D2 q2 h16, bd_some]
        exact ih g D2 b2 _ q1 q2 q3 q4 (by rw [hcn]; omega) (by omega)
      by_cases hs : stpV (D 379) P J j = -6
      · rw [if_pos hs, if_pos hs]
        exact nxt D b hP hJ hH hL
      · rw [if_neg hs, if_neg hs]
        have fin : ∀ k, k = -6 ∨ inR k 3 → F_X6_assigns_44 (fun v1_ v2_ v3_ D_ => F_X6_assigns_11 g v1_ v2_ v3_ D_) b se (nI j) k D = some ((asgU P J f (begV (D 379) j (crewV (D 379) P J j k) k) (b ||| ((1 : Int32) <<< (nI j &&& 31))) (se ||| ((1 : Int32) <<< (nI j &&& 31)))).1, ws D (asgU P J f (begV (D 379) j (crewV (D 379) P J j k) k) (b ||| ((1 : Int32) <<< (nI j &&& 31))) (se ||| ((1 : Int32) <<< (nI j &&& 31)))).2) := by
          intro k hk
          unfold F_X6_assigns_44
          rw [r_crew D hP hP10 hJ h16 hH hH6 j rfl (by omega) hk (hL j hj k hk), bd_some, r_begins D _ k j rfl (by omega), bd_some]
          have := nxt (ws D (begV (D 379) j (crewV (D 379) P J j k) k)) (b ||| ((1 : Int32) <<< (nI j &&& 31))) (by rw [ws_s, begV_o _ _ _ _ (by omega) (by omega) (by omega) (by omega)]; exact hP) (by rw [ws_s, begV_o _ _ _ _ (by omega) (by omega) (by omega) (by omega)]; exact hJ) (by rw [ws_s, begV_o _ _ _ _ (by omega) (by omega) (by omega) (by omega)]; exact hH) (by rw [ws_s]; exact hL.beg _ _ _)
          rw [ws_s, ws_ws] at this
          exact this
        by_cases h3 : stpV (D 379) P J j = 3
        · rw [if_pos h3, if_pos h3]
          exact fin _ (Or.inl rfl)
        · rw [if_neg h3, if_neg h3]
          exact fin _ (Or.inr (((stp_in (D 379) P J j 4 (Nat.le_refl _)).resolve_left hs).resolve_left h3))
def asgV (s : Nat → Int32) (P J : Nat) : Int32 × (Nat → Int32) := asgU P J 17 s 0 0
theorem r_asg (D : dT) {P J h0 : Nat} (hP : D 379 5 = nI P) (hP10 : P ≤ 10) (hJ : D 379 6 = nI J) (h16 : J ≤ 16) (hH : D 379 3 = nI h0) (hH6 : h0 ≤ 6) (hL : lPos (D 379) J) : F_X6_assigns D = some ((asgV (D 379) P J).1, ws D (asgV (D 379) P J).2) := by
  unfold F_X6_assigns
  rw [r_wt D hJ h16, bd_some]
  exact r_asg_l hP10 h16 hH6 17 lim D 0 0 hP hJ hH hL (by rw [cnt_0]; omega) (by decide)
