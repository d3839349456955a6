/-! what changes: places -/
def off (B : Nat) (D D' : dT) : Prop := ∀ q, q < B ∨ B + 32 ≤ q → D' q = D q
theorem off_r (B : Nat) (D : dT) : off B D D := fun _ _ => rfl
theorem off_t {B : Nat} {D D' D'' : dT} (h : off B D D') (h2 : off B D' D'') : off B D D'' := fun q hq => (h2 q hq).trans (h q hq)
theorem off_u {B : Nat} {D D' : dT} (h : off B D D') {o k : Nat} {v : Int32} (h1 : B ≤ o) (h2 : o < B + 32) : off B D (up2 D' o k v) := fun q hq => (up2_o D' k v (by omega)).trans (h q hq)
def plD (D : dT) (B : Nat) (c x : Int32) : Nat → dT
  | 0 => D
  | p + 1 => if bt c p then up2 (plD D B c x p) (B + 6 + p) 2 x else plD D B c x p
theorem plD_s (D : dT) (B : Nat) (c x : Int32) (p : Nat) : plD D B c x (p + 1) = if bt c p then up2 (plD D B c x p) (B + 6 + p) 2 x else plD D B c x p := rfl
theorem plD_o (D : dT) {B : Nat} (c x : Int32) {q : Nat} : ∀ P, (q < B + 6 ∨ B + 6 + P ≤ q) → plD D B c x P q = D q := by
  intro P
  induction P with
  | zero => intro _; rfl
  | succ P ih =>
    intro h
    rw [plD_s]
    cases bt c P
    · rw [if_neg (by decide)]; exact ih (by omega)
    · rw [if_pos rfl, up2_o _ _ _ (by omega)]; exact ih (by omega)
theorem plD_k (D : dT) {B : Nat} (c x : Int32) (q : Nat) {k : Nat} (hk : k ≠ 2) : ∀ P, plD D B c x P q k = D q k := by
  intro P
  induction P with
  | zero => rfl
  | succ P ih =>
    rw [plD_s]
    cases bt c P
    · rw [if_neg (by decide)]; exact ih
    · rw [if_pos rfl, up2_ne _ _ (by omega)]; exact ih
theorem plD_at (D : dT) {B : Nat} (c x : Int32) {p : Nat} : ∀ P, p < P → plD D B c x P (B + 6 + p) 2 = if bt c p then x else D (B + 6 + p) 2 := by
  intro P
  induction P with
  | zero => intro h; omega
  | succ P ih =>
    intro h
    rw [plD_s]
    by_cases e : p = P
    · subst e
      cases hb : bt c p
      · rw [if_neg (by decide), if_neg (by decide), plD_o D c x p (by omega)]
      · rw [if_pos rfl, if_pos rfl, up2_self]
    · cases bt c P
      · rw [if_neg (by decide)]; exact ih (by omega)
      · rw [if_pos rfl, up2_ne _ _ (by omega)]; exact ih (by omega)
theorem plD_off (D : dT) {B : Nat} (c x : Int32) {P : Nat} (h10 : P ≤ 10) : off B D (plD D B c x P) := fun q hq => plD_o D c x P (by omega)
theorem c_place_l (D : dT) {B P : Nat} (hP : D B 5 = nI P) (h10 : P ≤ 10) (c x : Int32) : ∀ m k fuel, k + m = P → m < fuel → F_X0_placeCrew_2 fuel B c x (nI k) (plD D B c x k) = some (0, plD D B c x P) := by
  intro m
  induction m with
  | zero =>
    intro k fuel hk hf
    obtain ⟨f, rfl⟩ := Nat.exists_eq_add_of_lt hf
    rw [show 0 + f + 1 = f + 1 by omega, F_X0_placeCrew_2, plD_o D c x k (by omega), hP, if_pos (nI_le (by omega) (by omega)), show k = P by omega]
  | succ m ih =>
    intro k fuel hk hf
    obtain ⟨f, rfl⟩ := Nat.exists_eq_add_of_lt hf
    have hi := ih (k + 1) (m + 1 + f) (by omega) (by omega)
    rw [plD_s] at hi
    rw [F_X0_placeCrew_2, plD_o D c x k (q := B) (by omega), hP, if_neg (nI_ge (by omega) (by omega)), c_isIn k (by omega), bd_some, nI_1]
    cases hb : bt c k
    · rw [hb, if_neg (by decide)] at hi
      rw [if_pos (by decide)]
      exact hi
    · rw [hb, if_pos rfl] at hi
      rw [if_neg (by decide), if_pos (inRn (by omega) (by omega)), nI_clamp (by omega)]
      exact hi
theorem c_place (D : dT) {B P : Nat} (hP : D B 5 = nI P) (h10 : P ≤ 10) (c x : Int32) : F_X0_placeCrew B c x D = some (0, plD D B c x P) := c_place_l D hP h10 c x P 0 lim (by omega) (lim_lt (by omega))
/-! the reference's counts after a change of one job -/
theorem freeU_c {s s' : Nat → Int32} (k w : Int32) {j : Nat} : ∀ n, (∀ i, i < n → i ≠ j → HOW s' i = HOW s i ∧ s' (52 + 12 * i + 8) = s (52 + 12 * i + 8)) →
    freeU s' k w n + (if j < n ∧ HOW s' j = 1 ∧ s' (52 + 12 * j + 8) = k then 1 else 0) = freeU s k w n + (if j < n ∧ HOW s j = 1 ∧ s (52 + 12 * j + 8) = k then 1 else 0) := by
  intro n
  induction n with
  | zero => intro _; rw [if_neg (fun z => absurd z.1 (by omega)), if_neg (fun z => absurd z.1 (by omega))]; rfl
  | succ n ih =>
    intro h
    have hi := ih (fun i hi => h i (by omega))
    rw [freeU_s, freeU_s]
    by_cases e : n = j
    · subst e
      rw [if_neg (fun z => absurd z.1 (by omega)), if_neg (fun z => absurd z.1 (by omega)), Int32.add_zero, Int32.add_zero] at hi
      rw [hi]
      have e1 : ∀ (a : Int32) (c : Prop) [Decidable c] (c' : Prop) [Decidable c'], (c ↔ c') → a - (if c then 1 else 0) + (if c' then 1 else 0) = a := by
        intro a c _ c' _ hc
        by_cases hh : c
        · rw [if_pos hh, if_pos (hc.mp hh), Int32.sub_add_cancel]
        · rw [if_neg hh, if_neg (fun z => hh (hc.mpr z)), Int32.add_zero, Int32.sub_zero]
      rw [e1 _ _ _ ⟨fun z => ⟨by omega, z⟩, fun z => z.2⟩, e1 _ _ _ ⟨fun z => ⟨by omega, z⟩, fun z => z.2⟩]
    · obtain ⟨h1, h2⟩ := h n (by omega) e
      rw [show s' (52 + 12 * n + 5) = s (52 + 12 * n + 5) from h1, h2]
      have e2 : ∀ (a b : Int32) (c : Prop) [Decidable c] (c' : Prop) [Decidable c'], (c ↔ c') → a - b + (if c then 1 else 0) = a + (if c' then 1 else 0) - b := by
        intro a b c _ c' _ hc
        by_cases hh : c
        · rw [if_pos hh, if_pos (hc.mp hh), Int32.sub_eq_add_neg, Int32.sub_eq_add_neg, Int32.add_assoc, Int32.add_assoc, Int32.add_comm (-b)]
        · rw [if_neg hh, if_neg (fun z => hh (hc.mpr z)), Int32.add_zero, Int32.add_zero]
      have e3 : ∀ (x : Prop), (j < n + 1 ∧ x ↔ j < n ∧ x) := fun x => ⟨fun z => ⟨by omega, z.2⟩, fun z => ⟨by omega, z.2⟩⟩
      rw [e2 _ _ _ _ (e3 _), hi, e2 _ _ _ _ (e3 _)]
theorem jobU_congr {s s' : Nat → Int32} {p : Nat} : ∀ J, (∀ i, i < J → ((HOW s i = 1 ∧ bt (CRW s i) p = true) ↔ (HOW s' i = 1 ∧ bt (CRW s' i) p = true))) → jobU s p J = jobU s' p J := by
  intro J
  induction J with
  | zero => intro _; rfl
  | succ J ih =>
    intro h
    rw [jobU_s, jobU_s, ih (fun i hi => h i (by omega))]
    by_cases c : HOW s J = 1 ∧ bt (CRW s J) p = true
    · rw [if_pos c, if_pos ((h J (by omega)).mp c)]
    · rw [if_neg c, if_neg (fun z => c ((h J (by omega)).mpr z))]
theorem jobU_at {s : Nat → Int32} {p j : Nat} (h1 : HOW s j = 1) (h2 : bt (CRW s j) p = true) : ∀ J, j < J → (∀ i, i < J → i ≠ j → HOW s i = 1 → bt (CRW s i) p = false) → jobU s p J = nI j := by
  intro J
  induction J with
  | zero => intro h; omega
  | succ J ih =>
    intro h h3
    rw [jobU_s]
    by_cases e : J = j
    · subst e; rw [if_pos ⟨h1, h2⟩]
    · rw [if_neg (fun z => by have := h3 J (by omega) e z.1; rw [z.2] at this; cases this)]
      exact ih (by omega) (fun i hi => h3 i (by omega))
