/-! carrying -/
def dimR (w t : Int32) : Int32 := if 0 ≤ w - t then w - t else 0
theorem dimR_j (w t : Int32) : (if 0 < w - t then w - t else 0) = dimR w t := by
  unfold dimR
  generalize w - t = x
  by_cases h : 0 < x
  · rw [if_pos h, if_pos (by rw [le_toInt]; rw [lt_toInt] at h; omega)]
  · rw [if_neg h]
    by_cases h2 : 0 ≤ x
    · rw [if_pos h2]
      apply Int32.toInt_inj.mp
      rw [le_toInt] at h2
      rw [lt_toInt] at h
      omega
    · rw [if_neg h2]
theorem carU_a1 (s : Nat → Int32) (c : Int32) {p : Nat} : ∀ n, n ≤ 10 → p < 10 → carU s c n (12 + 4 * p + 1) = if p < n ∧ bt c p = true then dimR (s (12 + 4 * p + 1)) (s 2) else s (12 + 4 * p + 1) := by
  intro n
  induction n with
  | zero => intro _ _; rw [if_neg (fun z => absurd z.1 (by omega))]; rfl
  | succ n ih =>
    intro hn hp
    have hi := ih (by omega) hp
    rw [carU_s]
    by_cases e : p = n
    · subst e
      rw [if_neg (show ¬ (p < p ∧ bt c p = true) from fun z => absurd z.1 (by omega))] at hi
      cases hb : bt c p
      · rw [if_neg (by decide), if_neg (fun z => absurd z.2 (by decide))]; exact hi
      · rw [if_pos rfl, if_pos (show p < p + 1 ∧ true = true from ⟨by omega, rfl⟩), upd_n _ _ (by omega), upd_s, hi, carU_o s c (i := 2) (by omega) p (by omega)]; rfl
    · have : carU s c n (12 + 4 * p + 1) = if p < n + 1 ∧ bt c p = true then dimR (s (12 + 4 * p + 1)) (s 2) else s (12 + 4 * p + 1) := by
        rw [hi]
        by_cases c1 : p < n ∧ bt c p = true
        · rw [if_pos c1, if_pos ⟨by omega, c1.2⟩]
        · rw [if_neg c1, if_neg (fun z => c1 ⟨by omega, z.2⟩)]
      cases bt c n
      · rw [if_neg (by decide)]; exact this
      · rw [if_pos rfl, upd_n _ _ (by omega), upd_n _ _ (by omega)]; exact this
theorem carU_a2 (s : Nat → Int32) (c : Int32) {p : Nat} : ∀ n, n ≤ 10 → p < 10 → carU s c n (12 + 4 * p + 2) = if p < n ∧ bt c p = true then s (12 + 4 * p + 2) + 1 else s (12 + 4 * p + 2) := by
  intro n
  induction n with
  | zero => intro _ _; rw [if_neg (fun z => absurd z.1 (by omega))]; rfl
  | succ n ih =>
    intro hn hp
    have hi := ih (by omega) hp
    rw [carU_s]
    by_cases e : p = n
    · subst e
      rw [if_neg (show ¬ (p < p ∧ bt c p = true) from fun z => absurd z.1 (by omega))] at hi
      cases hb : bt c p
      · rw [if_neg (by decide), if_neg (fun z => absurd z.2 (by decide))]; exact hi
      · rw [if_pos rfl, if_pos (show p < p + 1 ∧ true = true from ⟨by omega, rfl⟩), upd_s, hi]
    · have : carU s c n (12 + 4 * p + 2) = if p < n + 1 ∧ bt c p = true then s (12 + 4 * p + 2) + 1 else s (12 + 4 * p + 2) := by
        rw [hi]
        by_cases c1 : p < n ∧ bt c p = true
        · rw [if_pos c1, if_pos ⟨by omega, c1.2⟩]
        · rw [if_neg c1, if_neg (fun z => c1 ⟨by omega, z.2⟩)]
      cases bt c n
      · rw [if_neg (by decide)]; exact this
      · rw [if_pos rfl, upd_n _ _ (by omega), upd_n _ _ (by omega)]; exact this
theorem endU_a3 (s : Nat → Int32) (c : Int32) {p : Nat} : ∀ n, n ≤ 10 → p < 10 → endU s c n (12 + 4 * p + 3) = s (12 + 4 * p + 3) + (if p < n ∧ bt c p = true then 1 else 0) := by
  intro n
  induction n with
  | zero => intro _ _; rw [if_neg (fun z => absurd z.1 (by omega)), Int32.add_zero]; rfl
  | succ n ih =>
    intro hn hp
    have hi := ih (by omega) hp
    rw [endU_s]
    by_cases e : p = n
    · subst e
      rw [if_neg (show ¬ (p < p ∧ bt c p = true) from fun z => absurd z.1 (by omega)), Int32.add_zero] at hi
      rw [upd_s, hi]
      cases hb : bt c p
      · rw [if_neg (by decide), if_neg (fun z => absurd z.2 (by decide))]
      · rw [if_pos rfl, if_pos (show p < p + 1 ∧ true = true from ⟨by omega, rfl⟩)]
    · rw [upd_n _ _ (by omega), hi]
      by_cases c1 : p < n ∧ bt c p = true
      · rw [if_pos c1, if_pos ⟨by omega, c1.2⟩]
      · rw [if_neg c1, if_neg (fun z => c1 ⟨by omega, z.2⟩)]
def cr1 (D X : dT) (B : Nat) (l : Int32) (p : Nat) : dT := up2 (up2 (up2 X (B + 6 + p) 1 (dimR (D (B + 6 + p) 1) (D (B + 1) 2))) (B + 6 + p) 3 (D (B + 6 + p) 3 + 1)) (B + 6 + p) 4 (D (B + 6 + p) 4 + l)
def crD (D : dT) (B : Nat) (c l : Int32) : Nat → dT
  | 0 => D
  | p + 1 => if bt c p then cr1 D (crD D B c l p) B l p else crD D B c l p
theorem crD_s (D : dT) (B : Nat) (c l : Int32) (p : Nat) : crD D B c l (p + 1) = if bt c p then cr1 D (crD D B c l p) B l p else crD D B c l p := rfl
theorem cr1_o (D X : dT) {B : Nat} (l : Int32) {p q : Nat} (h : q ≠ B + 6 + p) : cr1 D X B l p q = X q := by
  unfold cr1
  rw [up2_o _ _ _ h, up2_o _ _ _ h, up2_o _ _ _ h]
theorem crD_o (D : dT) {B : Nat} (c l : Int32) {q : Nat} : ∀ P, (q < B + 6 ∨ B + 6 + P ≤ q) → crD D B c l P q = D q := by
  intro P
  induction P with
  | zero => intro _; rfl
  | succ P ih =>
    intro h
    rw [crD_s]
    cases bt c P
    · rw [if_neg (by decide)]; exact ih (by omega)
    · rw [if_pos rfl, cr1_o _ _ _ (by omega)]; exact ih (by omega)
theorem crD_at (D : dT) {B : Nat} (c l : Int32) {p : Nat} : ∀ P, p < P → crD D B c l P (B + 6 + p) = if bt c p then cr1 D D B l p (B + 6 + p) else D (B + 6 + p) := by
  intro P
  induction P with
  | zero => intro h; omega
  | succ P ih =>
    intro h
    rw [crD_s]
    by_cases e : p = P
    · subst e
      cases hb : bt c p
      · rw [if_neg (by decide), if_neg (by decide), crD_o D c l p (by omega)]
      · rw [if_pos rfl, if_pos rfl]
        have : crD D B c l p (B + 6 + p) = D (B + 6 + p) := crD_o D c l p (by omega)
        unfold cr1
        funext i
        by_cases e4 : i = 4
        · subst e4; rw [up2_self, up2_self]
        · rw [up2_ne _ _ (by omega), up2_ne (o := B + 6 + p) (k := 4) _ _ (by omega)]
          by_cases e3 : i = 3
          · subst e3; rw [up2_self, up2_self]
          · rw [up2_ne _ _ (by omega), up2_ne (o := B + 6 + p) (k := 3) _ _ (by omega)]
            by_cases e1 : i = 1
            · subst e1; rw [up2_self, up2_self]
            · rw [up2_ne _ _ (by omega), up2_ne (o := B + 6 + p) (k := 1) _ _ (by omega), this]
    · cases bt c P
      · rw [if_neg (by decide)]; exact ih (by omega)
      · rw [if_pos rfl, cr1_o _ _ _ (by omega)]; exact ih (by omega)
theorem c_carry_l (D : dT) {B P : Nat} (hP : D B 5 = nI P) (h10 : P ≤ 10) (c : Int32) {l : Int32} (hl : l = 0 ∨ l = 1) : ∀ m k fuel, k + m = P → m < fuel → F_X0_carryHour_2 fuel B c l (nI k) (crD D B c l k) = some (0, crD D B c l P) := by
  intro m
  induction m with
  | zero =>
    intro k fuel hk hf
    obtain ⟨f, rfl⟩ := Nat.exists_eq_add_of_lt hf
    rw [show 0 + f + 1 = f + 1 by omega, F_X0_carryHour_2, crD_o D c l k (by omega), hP, if_pos (nI_le (by omega) (by omega)), show k = P by omega]
  | succ m ih =>
    intro k fuel hk hf
    obtain ⟨f, rfl⟩ := Nat.exists_eq_add_of_lt hf
    have hi := ih (k + 1) (m + 1 + f) (by omega) (by omega)
    rw [crD_s] at hi
    rw [F_X0_carryHour_2, crD_o D c l k (q := B) (by omega), hP, if_neg (nI_ge (by omega) (by omega)), c_isIn k (by omega), bd_some]
    cases hb : bt c k
    · rw [hb, if_neg (by decide)] at hi
      rw [if_pos (by decide), nI_1]
      exact hi
    · rw [hb, if_pos rfl] at hi
      rw [if_neg (by decide), if_pos (inRn (by omega) (by omega)), if_pos (by decide)]
      unfold F_X4_carry F_X0_carryHour_52
      rw [bd_some, dimR_j, if_pos (inRn (by omega) (by omega)), nI_clamp (by omega), t2, nI_1]
      have e3 : ∀ v : Int32, (up2 (crD D B c l k) (B + 6 + k) 1 v) (B + 6 + k) 3 = D (B + 6 + k) 3 := fun v => by rw [up2_ne _ _ (by omega), crD_o D c l k (q := B + 6 + k) (by omega)]
      have e4 : ∀ v w : Int32, (up2 (up2 (crD D B c l k) (B + 6 + k) 1 v) (B + 6 + k) 3 w) (B + 6 + k) 4 = D (B + 6 + k) 4 := fun v w => by rw [up2_ne _ _ (by omega), up2_ne _ _ (by omega), crD_o D c l k (q := B + 6 + k) (by omega)]
      rw [e3, e4, crD_o D c l k (q := B + 6 + k) (by omega), crD_o D c l k (q := B + 1) (by omega)]
      cases hl with
      | inl e =>
        subst e
        rw [if_pos rfl]
        exact hi
      | inr e =>
        subst e
        rw [if_neg (by decide)]
        exact hi
theorem c_carry (D : dT) {B P : Nat} (hP : D B 5 = nI P) (h10 : P ≤ 10) (c : Int32) {l : Int32} (hl : l = 0 ∨ l = 1) : F_X0_carryHour B c l D = some (0, crD D B c l P) := c_carry_l D hP h10 c hl P 0 lim (by omega) (lim_lt (by omega))
theorem FR_car {D : dT} {B : Nat} {s s' : Nat → Int32} {P J : Nat} (h : FR D B s P J) (h10 : P ≤ 10) (c l : Int32) (hs : ∀ i, i < 12 ∨ 52 ≤ i → s' i = s i)
    (hp : ∀ p, p < P → s' (12 + 4 * p) = s (12 + 4 * p) ∧ s' (12 + 4 * p + 1) = (if bt c p = true then dimR (s (12 + 4 * p + 1)) (s 2) else s (12 + 4 * p + 1)) ∧ s' (12 + 4 * p + 2) = (if bt c p = true then s (12 + 4 * p + 2) + 1 else s (12 + 4 * p + 2)) ∧ s' (12 + 4 * p + 3) = s (12 + 4 * p + 3) + (if bt c p = true then l else 0)) : FR (crD D B c l P) B s' P J := by
  refine FR_per h h10 (fun q hq => crD_o D c l P (by omega)) hs (fun p hp2 => ?_)
  obtain ⟨a0, a1, a2, a3⟩ := hp p hp2
  rw [crD_at D c l P hp2, a0, a1, a2, a3]
  cases bt c p
  · rw [if_neg (by decide), if_neg (by decide), if_neg (by decide), if_neg (by decide), Int32.add_zero]
    exact ⟨FR_p0 h hp2, FR_p1 h hp2, rfl, FR_p3 h hp2, FR_p4 h hp2⟩
  · rw [if_pos rfl, if_pos rfl, if_pos rfl, if_pos rfl]
    unfold cr1
    refine ⟨?_, ?_, ?_, ?_, ?_⟩
    · rw [up2_ne _ _ (by omega), up2_ne _ _ (by omega), up2_ne _ _ (by omega), FR_p0 h hp2]
    · rw [up2_ne _ _ (by omega), up2_ne _ _ (by omega), up2_self, FR_p1 h hp2, FR_set h 2 (by omega)]
    · rw [up2_ne _ _ (by omega), up2_ne _ _ (by omega), up2_ne _ _ (by omega)]
    · rw [up2_ne _ _ (by omega), up2_self, FR_p3 h hp2]
    · rw [up2_self, FR_p4 h hp2]
/-! a job ends -/
theorem job_end {s : Nat → Int32} {P J j : Nat} {x : Int32} (h16 : J ≤ 16) (hj : j < J) (h1 : HOW s j = 1) (hx : ¬ x = 1) (hd : ∀ i, i < J → i ≠ j → HOW s i = 1 → ∀ p, bt (CRW s i) p = true → bt (CRW s j) p = false) (p : Nat) : jobV (upd s (52 + 12 * j + 5) x) J p = if bt (CRW s j) p then -6 else jobV s J p := by
  have oi : ∀ i, i ≠ j → HOW (upd s (52 + 12 * j + 5) x) i = HOW s i := fun i hi => upd_n _ _ (by omega)
  have oc : ∀ i, CRW (upd s (52 + 12 * j + 5) x) i = CRW s i := fun i => upd_n _ _ (by omega)
  have oj : HOW (upd s (52 + 12 * j + 5) x) j = x := upd_s _ _ _
  cases hb : bt (CRW s j) p
  · rw [if_neg (by decide)]
    refine jobU_congr J (fun i hi => ?_)
    rw [oc]
    by_cases e : i = j
    · subst e
      rw [hb]
      exact ⟨fun z => absurd z.2 (by decide), fun z => absurd z.2 (by decide)⟩
    · rw [oi i e]
  · rw [if_pos rfl]
    refine (jobU_iff _ p J h16).mpr (fun i hi hh => ?_)
    rw [oc]
    by_cases e : i = j
    · subst e; rw [oj] at hh; exact absurd hh hx
    · rw [oi i e] at hh
      cases hb2 : bt (CRW s i) p
      · rfl
      · have := hd i hi e hh p hb2
        rw [hb] at this; cases this
theorem free_end {s : Nat → Int32} {J j q : Nat} {x : Int32} (hj : j < J) (hq : q < 3) (h1 : HOW s j = 1) (hx : ¬ x = 1) : freeV (upd s (52 + 12 * j + 5) x) J q = freeV s J q + (if s (52 + 12 * j + 8) = nI q then 1 else 0) := by
  have oi : ∀ i, i ≠ j → HOW (upd s (52 + 12 * j + 5) x) i = HOW s i := fun i hi => upd_n _ _ (by omega)
  have ok : ∀ i, (upd s (52 + 12 * j + 5) x) (52 + 12 * i + 8) = s (52 + 12 * i + 8) := fun i => upd_n _ _ (by omega)
  have oj : HOW (upd s (52 + 12 * j + 5) x) j = x := upd_s _ _ _
  unfold freeV
  rw [upd_n _ _ (show 9 + q ≠ 52 + 12 * j + 5 by omega)]
  have := freeU_c (s := s) (s' := upd s (52 + 12 * j + 5) x) (nI q) (s (9 + q)) (j := j) J (fun i hi hij => ⟨oi i hij, ok i⟩)
  rw [oj, if_neg (show ¬ (j < J ∧ x = 1 ∧ _) from fun z => hx z.2.1), Int32.add_zero] at this
  rw [this]
  congr 1
  by_cases e : s (52 + 12 * j + 8) = nI q
  · rw [if_pos e, if_pos ⟨hj, h1, e⟩]
  · rw [if_neg e, if_neg (fun z => e z.2.2)]
theorem FR_end {D : dT} {B : Nat} {s : Nat → Int32} {P J j : Nat} {x : Int32} (h : FR D B s P J) (h10 : P ≤ 10) (h16 : J ≤ 16) (hj : j < J) (h1 : HOW s j = 1) (hx : ¬ x = 1) (hd : ∀ i, i < J → i ≠ j → HOW s i = 1 → ∀ p, bt (CRW s i) p = true → bt (CRW s j) p = false)
    {D1 : dT} (e1 : ∀ q, q ≠ B + 3 → D1 q = plD D B (CRW s j) (-6) P q) (e2 : ∀ q, q < 3 → D1 (B + 3) q = freeV s J q + (if s (52 + 12 * j + 8) = nI q then 1 else 0)) : FR (up2 D1 (B + 16 + j) 5 x) B (upd s (52 + 12 * j + 5) x) P J := by
  have ex : ∀ q, q ≠ B + 3 → q < B + 6 → (up2 D1 (B + 16 + j) 5 x) q = D q := fun q hq hq2 => by rw [up2_o _ _ _ (by omega), e1 q hq, plD_o D _ _ P (by omega)]
  have hn : ∀ i, i ≠ 52 + 12 * j + 5 → upd s (52 + 12 * j + 5) x i = s i := fun i hi => upd_n _ _ hi
  have ep : ∀ p, p < P → (up2 D1 (B + 16 + j) 5 x) (B + 6 + p) = plD D B (CRW s j) (-6) P (B + 6 + p) := fun p hp => by rw [up2_o _ _ _ (by omega), e1 _ (by omega)]
  refine ⟨⟨fun i hi => ?_, fun i hi => ?_, fun i hi => ?_⟩, ⟨?_, ?_, ?_, ?_, ?_⟩, fun p hp => ⟨?_, ?_, ?_, ?_, ?_⟩, fun i hi q hq => ?_⟩
  · rw [ex _ (by omega) (by omega), FR_set h i hi, hn _ (by omega)]
  · rw [ex _ (by omega) (by omega), FR_own h i hi, hn _ (by omega)]
  · rw [up2_o _ _ _ (by omega), e2 i hi, free_end hj hi h1 hx]
  · rw [ex _ (by omega) (by omega), FR_P h]
  · rw [ex _ (by omega) (by omega), FR_J h]
  · rw [ex _ (by omega) (by omega), FR_h h, hn _ (by omega)]
  · rw [ex _ (by omega) (by omega), FR_c h, hn _ (by omega)]
  · rw [ex _ (by omega) (by omega), FR_p h, hn _ (by omega)]
  · rw [ep p hp, plD_k _ _ _ _ (by omega), FR_p0 h hp, hn _ (by omega)]
  · rw [ep p hp, plD_k _ _ _ _ (by omega), FR_p1 h hp, hn _ (by omega)]
  · rw [ep p hp, plD_at _ _ _ P hp, FR_p2 h hp, job_end (P := P) h16 hj h1 hx hd]
  · rw [ep p hp, plD_k _ _ _ _ (by omega), FR_p3 h hp, hn _ (by omega)]
  · rw [ep p hp, plD_k _ _ _ _ (by omega), FR_p4 h hp, hn _ (by omega)]
  · have ej : plD D B (CRW s j) (-6) P (B + 16 + i) = D (B + 16 + i) := plD_o D _ _ P (by omega)
    by_cases e : i = j
    · subst e
      by_cases q5 : q = 5
      · subst q5; rw [up2_self, upd_s]
      · rw [up2_ne _ _ (by omega), e1 _ (by omega), ej, FR_j h hi hq, hn _ (by omega)]
    · rw [up2_o _ _ _ (by omega), e1 _ (by omega), ej, FR_j h hi hq, hn _ (by omega)]
theorem c_end {D : dT} {B : Nat} {s : Nat → Int32} {P J j : Nat} {x : Int32} (h : FR D B s P J) (h10 : P ≤ 10) (h16 : J ≤ 16) (hj : j < J) (h1 : HOW s j = 1) (hx : ¬ x = 1) (hd : ∀ i, i < J → i ≠ j → HOW s i = 1 → ∀ p, bt (CRW s i) p = true → bt (CRW s j) p = false) (hk : s (52 + 12 * j + 8) = -6 ∨ inR (s (52 + 12 * j + 8)) 3) :
    ∃ D', F_X0_endJob B (B + 16 + j) x D = some (0, D') ∧ FR D' B (upd s (52 + 12 * j + 5) x) P J ∧ off B D D' := by
  unfold F_X0_endJob
  rw [FR_j h hj (k := 5) (by omega), if_pos (show s (52 + 12 * j + 5) = 1 from h1), FR_j h hj (k := 7) (by omega), c_place D (FR_P h) h10, bd_some, c_isKind, bd_some]
  have e8 : plD D B (s (52 + 12 * j + 7)) (-6) P (B + 16 + j) 8 = s (52 + 12 * j + 8) := by rw [plD_o D _ _ P (by omega), FR_j h hj (by omega)]
  rw [e8]
  have ofp : off B D (plD D B (s (52 + 12 * j + 7)) (-6) P) := plD_off _ _ _ h10
  by_cases hk3 : inR (s (52 + 12 * j + 8)) 3
  · rw [if_pos hk3, if_neg (by decide), if_pos hk3, if_pos hk3]
    obtain ⟨q, hq, e⟩ := inR_of hk3 (by decide)
    rw [e, nI_clamp (by omega)]
    refine ⟨_, rfl, FR_end h h10 h16 hj h1 hx hd (D1 := up2 (plD D B (s (52 + 12 * j + 7)) (-6) P) (B + 3) q (plD D B (s (52 + 12 * j + 7)) (-6) P (B + 3) q + 1)) (fun i hi => up2_o _ _ _ hi) (fun i hi => ?_), off_u (off_u ofp (by omega) (by omega)) (by omega) (by omega)⟩
    rw [e]
    by_cases e2 : i = q
    · subst e2; rw [up2_self, plD_o D _ _ P (by omega), FR_fre h i hi, if_pos rfl]
    · rw [up2_ne _ _ (by omega), plD_o D _ _ P (by omega), FR_fre h i hi, if_neg (fun z => e2 ((nI_eq (by omega) (by omega)).mp z).symm), Int32.add_zero]
  · rw [if_neg hk3, if_pos rfl]
    refine ⟨_, rfl, FR_end h h10 h16 hj h1 hx hd (D1 := plD D B (s (52 + 12 * j + 7)) (-6) P) (fun i hi => rfl) (fun i hi => ?_), off_u ofp (by omega) (by omega)⟩
    rw [plD_o D _ _ P (by omega), FR_fre h i hi, if_neg (fun z => hk3 (by rw [z]; exact inRn hi (by omega))), Int32.add_zero]
