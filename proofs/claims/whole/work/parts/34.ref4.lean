/-! the reference: an hour -/
theorem upd_n (f : Nat → Int32) {k j : Nat} (v : Int32) (h : j ≠ k) : upd f k v j = f j := pk_un h
theorem upd_s (f : Nat → Int32) (k : Nat) (v : Int32) : upd f k v k = v := pk_us
def rstU (s : Nat → Int32) (c : Int32) : Nat → Nat → Int32
  | 0 => s
  | p + 1 => upd (rstU s c p) (12 + 4 * p + 1) (if bt c p then (if rstU s c p (12 + 4 * p) ≤ rstU s c p (12 + 4 * p + 1) + rstU s c p 1 then rstU s c p (12 + 4 * p) else rstU s c p (12 + 4 * p + 1) + rstU s c p 1) else rstU s c p (12 + 4 * p + 1))
theorem rstU_s (s : Nat → Int32) (c : Int32) (p : Nat) : rstU s c (p + 1) = upd (rstU s c p) (12 + 4 * p + 1) (if bt c p then (if rstU s c p (12 + 4 * p) ≤ rstU s c p (12 + 4 * p + 1) + rstU s c p 1 then rstU s c p (12 + 4 * p) else rstU s c p (12 + 4 * p + 1) + rstU s c p 1) else rstU s c p (12 + 4 * p + 1)) := rfl
/-- what is not somebody's strength stays -/
theorem rstU_o (s : Nat → Int32) (c : Int32) {i : Nat} (h : ∀ p, p < 10 → i ≠ 12 + 4 * p + 1) : ∀ n, n ≤ 10 → rstU s c n i = s i := by
  intro n
  induction n with
  | zero => intro _; rfl
  | succ n ih =>
    intro hn
    rw [rstU_s, upd_n _ _ (h n (by omega)), ih (by omega)]
theorem rstU_at (s : Nat → Int32) (c : Int32) (p : Nat) : ∀ n, n ≤ 10 → n ≤ p → rstU s c n (12 + 4 * p + 1) = s (12 + 4 * p + 1) := by
  intro n
  induction n with
  | zero => intro _ _; rfl
  | succ n ih =>
    intro hn h2
    rw [rstU_s, upd_n _ _ (by omega), ih (by omega) (by omega)]
def rstV (s : Nat → Int32) (P : Nat) (c : Int32) : Nat → Int32 := rstU s c P
theorem r_rest_l (s : Nat → Int32) (c : Int32) {P : Nat} (hP : s 5 = nI P) (hP10 : P ≤ 10) : ∀ m k fuel (D : dT), D 379 = rstU s c k → k + m = P → m < fuel → F_X6_rest_2 fuel c (nI k) D = some (0, ws D (rstU s c P)) := by
  intro m
  induction m with
  | zero =>
    intro k fuel D hD hk hf
    obtain ⟨f, rfl⟩ := Nat.exists_eq_add_of_lt hf
    have h5 : D 379 5 = nI P := by rw [hD, rstU_o s c (by intro p hp; omega) k (by omega)]; exact hP
    have e : k = P := by omega
    subst e
    rw [show 0 + f + 1 = f + 1 by omega, F_X6_rest_2, if_pos c5, t5, h5, if_pos (nI_le (by omega) (by omega)), ← hD, ws_id]
  | succ m ih =>
    intro k fuel D hD hk hf
    obtain ⟨f, rfl⟩ := Nat.exists_eq_add_of_lt hf
    have h5 : D 379 5 = nI P := by rw [hD, rstU_o s c (by intro p hp; omega) k (by omega)]; exact hP
    have fin : ∀ v, v = (if bt c k then (if D 379 (12 + 4 * k) ≤ D 379 (12 + 4 * k + 1) + D 379 1 then D 379 (12 + 4 * k) else D 379 (12 + 4 * k + 1) + D 379 1) else D 379 (12 + 4 * k + 1)) → F_X6_rest_71 c (fun v2_ D_ => F_X6_rest_2 (m + 1 + f) c v2_ D_) (nI k) v 1 (nI k) D = some (0, ws D (rstU s c P)) := by
      intro v hv
      unfold F_X6_rest_71
      rw [r_layPerson D 1 k 1 rfl rfl (by omega) (by omega), bd_some, nI_1, ws_up]
      have := ih (k + 1) (m + 1 + f) (ws D (upd (D 379) (12 + 4 * k + 1) v)) (by rw [ws_s, rstU_s, hv, hD]) (by omega) (by omega)
      rw [ws_ws] at this
      exact this
    have tail : ∀ w, w = (if D 379 (12 + 4 * k) ≤ D 379 (12 + 4 * k + 1) + D 379 1 then D 379 (12 + 4 * k) else D 379 (12 + 4 * k + 1) + D 379 1) → F_X6_rest_46 c (fun v2_ D_ => F_X6_rest_2 (m + 1 + f) c v2_ D_) (nI k) w D = some (0, ws D (rstU s c P)) := by
      intro w hw
      unfold F_X6_rest_46
      rw [sh_bit c k (by omega)]
      cases hb : bt c k
      · rw [if_neg (by decide), r_ofPerson D 1 k 1 rfl rfl (by omega) (by omega), bd_some]
        exact fin _ (by rw [hb]; rfl)
      · rw [if_pos (by decide)]
        exact fin _ (by rw [hb, hw]; rfl)
    rw [F_X6_rest_2, if_pos c5, t5, h5, if_neg (nI_ge (by omega) (by omega)), r_ofPerson D 1 k 1 rfl rfl (by omega) (by omega), bd_some, if_pos c1, t1, r_ofPerson D 0 k 0 rfl rfl (by omega) (by omega), bd_some]
    by_cases h : D 379 (12 + 4 * k) ≤ D 379 (12 + 4 * k + 1) + D 379 1
    · rw [if_pos (show D 379 (12 + 4 * k + 0) ≤ D 379 (12 + 4 * k + 1) + D 379 1 from h), r_ofPerson D 0 k 0 rfl rfl (by omega) (by omega), bd_some]
      exact tail _ (if_pos h).symm
    · rw [if_neg (show ¬ D 379 (12 + 4 * k + 0) ≤ D 379 (12 + 4 * k + 1) + D 379 1 from h)]
      exact tail _ (if_neg h).symm
theorem r_rest (D : dT) (c : Int32) {P : Nat} (hP : D 379 5 = nI P) (hP10 : P ≤ 10) : F_X6_rest c D = some (0, ws D (rstV (D 379) P c)) :=
  r_rest_l (D 379) c hP hP10 P 0 lim D rfl (by omega) (lim_lt (by omega))
def carU (s : Nat → Int32) (c : Int32) : Nat → Nat → Int32
  | 0 => s
  | p + 1 => if bt c p then upd (upd (carU s c p) (12 + 4 * p + 1) (if 0 ≤ carU s c p (12 + 4 * p + 1) - carU s c p 2 then carU s c p (12 + 4 * p + 1) - carU s c p 2 else 0)) (12 + 4 * p + 2) (carU s c p (12 + 4 * p + 2) + 1) else carU s c p
theorem carU_s (s : Nat → Int32) (c : Int32) (p : Nat) : carU s c (p + 1) = if bt c p then upd (upd (carU s c p) (12 + 4 * p + 1) (if 0 ≤ carU s c p (12 + 4 * p + 1) - carU s c p 2 then carU s c p (12 + 4 * p + 1) - carU s c p 2 else 0)) (12 + 4 * p + 2) (carU s c p (12 + 4 * p + 2) + 1) else carU s c p := rfl
theorem carU_o (s : Nat → Int32) (c : Int32) {i : Nat} (h : ∀ p, p < 10 → i ≠ 12 + 4 * p + 1 ∧ i ≠ 12 + 4 * p + 2) : ∀ n, n ≤ 10 → carU s c n i = s i := by
  intro n
  induction n with
  | zero => intro _; rfl
  | succ n ih =>
    intro hn
    rw [carU_s]
    split
    · rw [upd_n _ _ (h n (by omega)).2, upd_n _ _ (h n (by omega)).1, ih (by omega)]
    · exact ih (by omega)
def carV (s : Nat → Int32) (P : Nat) (c : Int32) : Nat → Int32 := carU s c P
theorem r_carry_l (s : Nat → Int32) (c : Int32) {P : Nat} (hP : s 5 = nI P) (hP10 : P ≤ 10) : ∀ m k fuel (D : dT), D 379 = carU s c k → k + m = P → m < fuel → F_X6_carry_2 fuel c (nI k) D = some (0, ws D (carU s c P)) := by
  intro m
  induction m with
  | zero =>
    intro k fuel D hD hk hf
    obtain ⟨f, rfl⟩ := Nat.exists_eq_add_of_lt hf
    have h5 : D 379 5 = nI P := by rw [hD, carU_o s c (by intro p hp; omega) k (by omega)]; exact hP
    have e : k = P := by omega
    subst e
    rw [show 0 + f + 1 = f + 1 by omega, F_X6_carry_2, if_pos c5, t5, h5, if_pos (nI_le (by omega) (by omega)), ← hD, ws_id]
  | succ m ih =>
    intro k fuel D hD hk hf
    obtain ⟨f, rfl⟩ := Nat.exists_eq_add_of_lt hf
    have h5 : D 379 5 = nI P := by rw [hD, carU_o s c (by intro p hp; omega) k (by omega)]; exact hP
    rw [F_X6_carry_2, if_pos c5, t5, h5, if_neg (nI_ge (by omega) (by omega)), sh_bit c k (by omega)]
    cases hb : bt c k
    · rw [if_neg (by decide), nI_1]
      exact ih (k + 1) (m + 1 + f) D (by rw [carU_s, hb, hD]; rfl) (by omega) (by omega)
    · rw [if_pos (by decide), r_ofPerson D 1 k 1 rfl rfl (by omega) (by omega), bd_some, if_pos c2, t2]
      have fin : ∀ v, v = (if 0 ≤ D 379 (12 + 4 * k + 1) - D 379 2 then D 379 (12 + 4 * k + 1) - D 379 2 else 0) → F_X6_carry_47 c (fun v2_ D_ => F_X6_carry_2 (m + 1 + f) c v2_ D_) (nI k) v 1 (nI k) D = some (0, ws D (carU s c P)) := by
        intro v hv
        unfold F_X6_carry_47
        rw [r_layPerson D 1 k 1 rfl rfl (by omega) (by omega), bd_some, r_ofPerson _ 2 k 2 rfl rfl (by omega) (by omega), bd_some, r_layPerson _ 2 k 2 rfl rfl (by omega) (by omega), bd_some, nI_1, ws_up D, ws_s, ws_up, ws_s, ws_ws, upd_n _ _ (by omega)]
        have := ih (k + 1) (m + 1 + f) (ws D (upd (upd (D 379) (12 + 4 * k + 1) v) (12 + 4 * k + 2) (D 379 (12 + 4 * k + 2) + 1))) (by rw [ws_s, carU_s, hb, if_pos rfl, hv, hD]) (by omega) (by omega)
        rw [ws_ws] at this
        exact this
      by_cases h : 0 ≤ D 379 (12 + 4 * k + 1) - D 379 2
      · rw [if_pos h]; exact fin _ (by rw [if_pos h])
      · rw [if_neg h]; exact fin _ (by rw [if_neg h])
theorem r_carry (D : dT) (c : Int32) {P : Nat} (hP : D 379 5 = nI P) (hP10 : P ≤ 10) : F_X6_carry c D = some (0, ws D (carV (D 379) P c)) :=
  r_carry_l (D 379) c hP hP10 P 0 lim D rfl (by omega) (lim_lt (by omega))
def endU (s : Nat → Int32) (c : Int32) : Nat → Nat → Int32
  | 0 => s
  | p + 1 => upd (endU s c p) (12 + 4 * p + 3) (endU s c p (12 + 4 * p + 3) + (if bt c p then 1 else 0))
theorem endU_s (s : Nat → Int32) (c : Int32) (p : Nat) : endU s c (p + 1) = upd (endU s c p) (12 + 4 * p + 3) (endU s c p (12 + 4 * p + 3) + (if bt c p then 1 else 0)) := rfl
theorem endU_o (s : Nat → Int32) (c : Int32) {i : Nat} (h : ∀ p, p < 10 → i ≠ 12 + 4 * p + 3) : ∀ n, n ≤ 10 → endU s c n i = s i := by
  intro n
  induction n with
  | zero => intro _; rfl
  | succ n ih =>
    intro hn
    rw [endU_s, upd_n _ _ (h n (by omega)), ih (by omega)]
theorem r_ends_l (s : Nat → Int32) {x : Int32} (j : Nat) (hx : x = nI j) (hj : j < 16) {P : Nat} (hP : s 5 = nI P) (hP10 : P ≤ 10) : ∀ m k fuel (D : dT), D 379 = endU s (CRW s j) k → k + m = P → m < fuel → F_X6_ends_22 fuel x (nI k) D = some (0, ws D (endU s (CRW s j) P)) := by
  intro m
  induction m with
  | zero =>
    intro k fuel D hD hk hf
    obtain ⟨f, rfl⟩ := Nat.exists_eq_add_of_lt hf
    have h5 : D 379 5 = nI P := by rw [hD, endU_o s _ (by intro p hp; omega) k (by omega)]; exact hP
    have e : k = P := by omega
    subst e
    rw [show 0 + f + 1 = f + 1 by omega, F_X6_ends_22, if_pos c5, t5, h5, if_pos (nI_le (by omega) (by omega)), ← hD, ws_id]
  | succ m ih =>
    intro k fuel D hD hk hf
    obtain ⟨f, rfl⟩ := Nat.exists_eq_add_of_lt hf
    have h5 : D 379 5 = nI P := by rw [hD, endU_o s _ (by intro p hp; omega) k (by omega)]; exact hP
    have h7 : D 379 (52 + 12 * j + 7) = CRW s j := by rw [hD, endU_o s _ (by intro p hp; omega) k (by omega)]
    rw [F_X6_ends_22, if_pos c5, t5, h5, if_neg (nI_ge (by omega) (by omega)), r_ofPerson D 3 k 3 rfl rfl (by omega) (by omega), bd_some, r_ofJobs D 7 j 7 hx rfl hj (by omega), bd_some, r_layPerson D 3 k 3 rfl rfl (by omega) (by omega), bd_some, nI_1, h7, sh_bit _ k (by omega), ws_up]
    have := ih (k + 1) (m + 1 + f) (ws D (upd (D 379) (12 + 4 * k + 3) (D 379 (12 + 4 * k + 3) + (if bt (CRW s j) k then 1 else 0)))) (by rw [ws_s, endU_s, hD]) (by omega) (by omega)
    rw [ws_ws] at this
    exact this
def endV (s : Nat → Int32) (P j : Nat) : Nat → Int32 := endU (upd (upd s (52 + 12 * j + 5) 2) (52 + 12 * j + 11) (s 4)) (CRW s j) P
theorem r_ends (D : dT) {x : Int32} (j : Nat) (hx : x = nI j) (hj : j < 16) {P : Nat} (hP : D 379 5 = nI P) (hP10 : P ≤ 10) : F_X6_ends x D = some (0, ws D (endV (D 379) P j)) := by
  unfold F_X6_ends
  rw [r_lay D 5 j 5 hx rfl hj (by omega), bd_some, if_pos c4, t4, r_lay _ 11 j 11 hx rfl hj (by omega), bd_some, ws_up D, ws_s, ws_up, ws_s, ws_ws, upd_n _ _ (by omega)]
  have e : CRW (upd (upd (D 379) (52 + 12 * j + 5) 2) (52 + 12 * j + 11) (D 379 4)) j = CRW (D 379) j := by
    unfold CRW
    rw [upd_n _ _ (by omega), upd_n _ _ (by omega)]
  have := r_ends_l (upd (upd (D 379) (52 + 12 * j + 5) 2) (52 + 12 * j + 11) (D 379 4)) j hx hj (P := P) (by rw [upd_n _ _ (by omega), upd_n _ _ (by omega)]; exact hP) hP10 P 0 lim (ws D (upd (upd (D 379) (52 + 12 * j + 5) 2) (52 + 12 * j + 11) (D 379 4))) (by rw [ws_s]; rfl) (by omega) (lim_lt (by omega))
  rw [ws_ws, e] at this
  exact this
/-- an hour of one job: the state, and whether it is done -/
def wrkS (s : Nat → Int32) (P j : Nat) : Nat → Int32 := carV (upd (upd s (52 + 12 * j + 2) (s (52 + 12 * j + 2) - 1)) 7 (s 7 + 1)) P (CRW s j)
def wrkV (s : Nat → Int32) (P j : Nat) : Int32 × (Nat → Int32) :=
  if ¬ s (52 + 12 * j + 9) ≤ 0 then (0, rstV (upd s (52 + 12 * j + 9) (s (52 + 12 * j + 9) - 1)) P (CRW s j))
  else if ¬ s (52 + 12 * j + 6) ≤ strV s P (CRW s j) then (0, rstV (upd (upd s (52 + 12 * j + 10) (s (52 + 12 * j + 10) + 1)) 8 (s 8 + 1)) P (CRW s j))
  else if s (52 + 12 * j + 2) - 1 = 0 then (1, endV (wrkS s P j) P j) else (0, wrkS s P j)
theorem wrkS_l (s : Nat → Int32) {P j : Nat} (hP10 : P ≤ 10) : wrkS s P j (52 + 12 * j + 2) = s (52 + 12 * j + 2) - 1 := by
  unfold wrkS carV
  rw [carU_o _ _ (by intro p hp; omega) P hP10, upd_n _ _ (by omega), upd_s]
theorem endV_o (s : Nat → Int32) {P j : Nat} (hP10 : P ≤ 10) {i : Nat} (h1 : ∀ p, p < 10 → i ≠ 12 + 4 * p + 3) (h2 : i ≠ 52 + 12 * j + 5) (h3 : i ≠ 52 + 12 * j + 11) : endV s P j i = s i := by
  unfold endV
  rw [endU_o _ _ h1 P hP10, upd_n _ _ h3, upd_n _ _ h2]
theorem r_works (D : dT) {x : Int32} (j : Nat) (hx : x = nI j) (hj : j < 16) {P : Nat} (hP : D 379 5 = nI P) (hP10 : P ≤ 10) : F_X6_works x D = some ((wrkV (D 379) P j).1, ws D (wrkV (D 379) P j).2) := by
  unfold F_X6_works wrkV
  rw [r_ofJobs D 7 j 7 hx rfl hj (by omega), bd_some, r_ofJobs D 9 j 9 hx rfl hj (by omega), bd_some]
  by_cases h9 : D 379 (52 + 12 * j + 9) ≤ 0
  · rw [if_pos h9, if_neg (show ¬ ¬ D 379 (52 + 12 * j + 9) ≤ 0 from fun z => z h9), r_str D hP hP10, bd_some, r_ofJobs D 6 j 6 hx rfl hj (by omega), bd_some]
    by_cases h6 : D 379 (52 + 12 * j + 6) ≤ strV (D 379) P (CRW (D 379) j)
    · rw [if_pos h6, if_neg (show ¬ ¬ D 379 (52 + 12 * j + 6) ≤ strV (D 379) P (CRW (D 379) j) from fun z => z h6), r_ofJobs D 2 j 2 hx rfl hj (by omega), bd_some, r_lay D 2 j 2 hx rfl hj (by omega), bd_some, if_pos c7, if_pos c7, t7, ws_up D, ws_s, ws_up, ws_s, ws_ws, upd_n _ _ (by omega)]
      rw [r_carry _ (D 379 (52 + 12 * j + 7)) (P := P) (by rw [ws_s, upd_n _ _ (by omega), upd_n _ _ (by omega)]; exact hP) hP10, bd_some, ws_s, ws_ws]
      rw [r_ofJobs _ 2 j 2 hx rfl hj (by omega), bd_some, ws_s]
      show (if wrkS (D 379) P j (52 + 12 * j + 2) = 0 then _ else _) = _
      rw [wrkS_l _ hP10]
      unfold F_X6_works_134
      by_cases h2 : D 379 (52 + 12 * j + 2) - 1 = 0
      · rw [if_pos h2, if_pos h2, r_ends _ j hx hj (P := P) (by rw [ws_s, carV, carU_o _ _ (by intro p hp; omega) P hP10, upd_n _ _ (by omega), upd_n _ _ (by omega)]; exact hP) hP10, bd_some, ws_s, ws_ws, r_ofJobs _ 2 j 2 hx rfl hj (by omega), bd_some, ws_s]
        rw [endV_o _ hP10 (by intro p hp; omega) (by omega) (by omega)]
        show (if wrkS (D 379) P j (52 + 12 * j + 2) = 0 then _ else _) = _
        rw [wrkS_l _ hP10, if_pos h2]
        rfl
      · rw [if_neg h2, if_neg h2, r_ofJobs _ 2 j 2 hx rfl hj (by omega), bd_some, ws_s]
        show (if wrkS (D 379) P j (52 + 12 * j + 2) = 0 then _ else _) = _
        rw [wrkS_l _ hP10, if_neg h2]
        rfl
    · rw [if_neg h6, if_pos h6, r_ofJobs D 10 j 10 hx rfl hj (by omega), bd_some, r_lay D 10 j 10 hx rfl hj (by omega), bd_some, if_pos c8, if_pos c8, t8, ws_up D, ws_s, ws_up, ws_s, ws_ws, upd_n _ _ (by omega)]
      rw [r_rest _ (D 379 (52 + 12 * j + 7)) (P := P) (by rw [ws_s, upd_n _ _ (by omega), upd_n _ _ (by omega)]; exact hP) hP10, bd_some, ws_s, ws_ws]
  · rw [if_neg h9, if_pos h9, r_ofJobs D 9 j 9 hx rfl hj (by omega), bd_some, r_lay D 9 j 9 hx rfl hj (by omega), bd_some, ws_up D]
    rw [r_rest _ (D 379 (52 + 12 * j + 7)) (P := P) (by rw [ws_s, upd_n _ _ (by omega)]; exact hP) hP10, bd_some, ws_s, ws_ws]
