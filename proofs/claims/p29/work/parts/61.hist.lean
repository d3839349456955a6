/-! only the first 244 count -/
theorem FR_eq {D : dT} {B : Nat} {s s' : Nat → Int32} {P J : Nat} (h : FR D B s P J) (h10 : P ≤ 10) (h16 : J ≤ 16) (e : ∀ k, k < 244 → s' k = s k) : FR D B s' P J := by
  refine ⟨⟨fun i hi => ?_, fun i hi => ?_, fun i hi => ?_⟩, ⟨FR_P h, FR_J h, ?_, ?_, ?_⟩, fun p hp => ?_, fun i hi q hq => ?_⟩
  · rw [e _ (by omega)]; exact FR_set h i hi
  · rw [e _ (by omega)]; exact FR_own h i hi
  · rw [freeV_congr (s := s) (e _ (by omega)) (fun i hi => ⟨e _ (by omega), e _ (by omega)⟩)]; exact FR_fre h i hi
  · rw [e _ (by omega)]; exact FR_h h
  · rw [e _ (by omega)]; exact FR_c h
  · rw [e _ (by omega)]; exact FR_p h
  · rw [e _ (by omega), e _ (by omega), e _ (by omega), e _ (by omega), jobV_congr (s := s) (fun i hi => ⟨e _ (by omega), e _ (by omega)⟩)]
    exact ⟨FR_p0 h hp, FR_p1 h hp, FR_p2 h hp, FR_p3 h hp, FR_p4 h hp⟩
  · rw [e _ (by omega)]; exact FR_j h hi hq
theorem SI_eq {s s' : Nat → Int32} {P J : Nat} (h : SI s P J) (e : ∀ k, k < 244 → s' k = s k) : SI s' P J := by
  obtain ⟨⟨a1, a2, a3, a4⟩, ⟨b1, b2, b3, b4, b5, b6⟩, cc, dd, ee, f1, f2⟩ := h
  refine ⟨⟨a1, a2, by rw [e _ (by omega)]; exact a3, by rw [e _ (by omega)]; exact a4⟩, ⟨by rw [e _ (by omega)]; exact b1, by rw [e _ (by omega)]; exact b2, by rw [e _ (by omega)]; exact b3, by rw [e _ (by omega)]; exact b4, Or.inr trivial, fun k hk => by rw [e _ (by omega)]; exact b6 k hk⟩, ?_, ?_, ?_, ?_, ?_⟩
  · intro p hp
    rw [e _ (by omega), e _ (by omega)]
    exact cc p hp
  · intro i hi
    have hx := dd i hi
    unfold SIj HOW CRW at hx ⊢
    rw [e _ (by omega), e _ (by omega), e _ (by omega), e _ (by omega), e _ (by omega), e _ (by omega), e _ (by omega), e _ (by omega), e _ (by omega), e _ (by omega)]
    exact hx
  · intro i i2 hi hi2 hne h1 h2 p hb
    unfold HOW CRW at *
    rw [e _ (by omega)] at h1 h2 hb ⊢
    exact ee i i2 hi hi2 hne h1 h2 p hb
  · intro p hp hp2 k hk
    rw [e _ (by omega)]
    exact f1 p hp hp2 k hk
  · intro i hi hi2 k hk
    rw [e _ (by omega)]
    exact f2 i hi hi2 k hk
/-! the relation of the two objects -/
/-- firm at B stands for s -/
def FS (D : dT) (B : Nat) (s : Nat → Int32) : Prop := ∃ P J, FR D B s P J ∧ SI s P J
theorem FS_off {D D' : dT} {B : Nat} {s : Nat → Int32} (h : FS D B s) (e : ∀ q, B ≤ q → q < B + 32 → D' q = D q) : FS D' B s := by
  obtain ⟨P, J, hF, hS⟩ := h
  exact ⟨P, J, FR_off hF (SI_P hS) (SI_J hS) e, hS⟩
theorem FS_eq {D : dT} {B : Nat} {s s' : Nat → Int32} (h : FS D B s) (e : ∀ k, k < 244 → s' k = s k) : FS D B s' := by
  obtain ⟨P, J, hF, hS⟩ := h
  exact ⟨P, J, FR_eq hF (SI_P hS) (SI_J hS) e, SI_eq hS e⟩
theorem FS_copy {D : dT} {B B1 : Nat} {s : Nat → Int32} (h : FS D B1 s) (hB : B + 32 ≤ B1 ∨ B1 + 32 ≤ B) : ∃ D', F_X0_copyFrom B B1 D = some (0, D') ∧ FS D' B s ∧ off B D D' := by
  obtain ⟨P, J, hF, hS⟩ := h
  obtain ⟨D', a, b, c⟩ := c_copy hF (SI_P hS) (SI_J hS) hB
  exact ⟨D', a, ⟨P, J, b, hS⟩, c⟩
/-- row i of the 244s -/
def rw244 (u : Nat → Int32) (i : Nat) : Nat → Int32 := fun k => u (244 * i + k)
/-- the ring of states -/
def HX (D : dT) (u : Nat → Int32) (o c : Nat) : Prop := ∀ i, i < c → FS D (87 + 32 * ((o + i) % 7)) (rw244 u i)
def SX (D : dT) : Prop := ∀ t, t < 2 → D 84 t = D 383 t ∧ (D 383 t = 0 ∨ FS D (314 + 32 * t) (rw244 (D 382) t))
def PX (D : dT) : Prop := ∃ L, L ≤ 80 ∧ D 311 4 = nI L ∧ D 378 8 = nI L ∧ ∀ i, i < L → D 312 i = D 384 i ∧ rg (D 312 i) 33 126
def RR (D : dT) : Prop := FS D 19 (D 379) ∧ D 378 0 = 0 ∧ (∃ o c, o < 7 ∧ c ≤ 6 ∧ D 85 1 = nI o ∧ D 85 2 = nI c ∧ D 378 4 = nI c ∧ HX D (D 381) o c) ∧ SX D ∧ PX D
theorem mod7 {n : Nat} (h : n < 2 ^ 20) : nI n - nI n / 7 * 7 = nI (n % 7) := by
  rw [show (7 : Int32) = nI 7 from rfl, nI_div (by omega) (by omega), nI_mul, nI_sub (by omega)]
  congr 1
  omega
theorem row_x : ∀ n, n < 14 → (0 : Int32) ≤ nI n ^^^ 7 := by decide +kernel
theorem c_row {D : dT} {n : Nat} {x : Int32} (h : D 85 1 + x = nI n) (hn : n < 14) : F_X1_row x D = some (nI (n % 7), D) := by
  unfold F_X1_row F_J9_floorMod_7cf53
  rw [h, if_pos (by decide), if_pos (row_x n hn), mod7 (by omega), bd_some]
/-- note: the state goes to the row behind the kept ones -/
theorem c_note {D : dT} {s : Nat → Int32} {o c : Nat} (ho : o < 7) (hc : c ≤ 6) (h1 : D 85 1 = nI o) (h2 : D 85 2 = nI c) (h : FS D 19 s) : ∃ D', F_X1_note 19 D = some (0, D') ∧ FS D' (87 + 32 * ((o + c) % 7)) s ∧ off (87 + 32 * ((o + c) % 7)) D D' := by
  unfold F_X1_note
  rw [c_row (x := D 85 2) (n := o + c) (by rw [h1, h2, nI_add]) (by omega), bd_some, if_pos (inRn (by omega) (by omega)), nI_clamp (by omega)]
  obtain ⟨D', a, b, c⟩ := FS_copy (B := 87 + 32 * ((o + c) % 7)) h (by omega)
  rw [a, bd_some]
  exact ⟨D', rfl, b, c⟩
/-- keep -/
theorem c_keep0 (D : dT) {v : Int32} (hv : v < 0) : F_X1_keepUnlessError v D = some (v, D) := by
  unfold F_X1_keepUnlessError
  rw [if_neg (Int32.not_le.mpr hv)]
theorem c_keep1 {D : dT} {v : Int32} {o c : Nat} (hv : ¬ v < 0) (ho : o < 7) (hc : c ≤ 6) (h1 : D 85 1 = nI o) (h2 : D 85 2 = nI c) : F_X1_keepUnlessError v D = some (v, if c = 6 then up2 D 85 1 (nI ((o + 1) % 7)) else up2 D 85 2 (nI (c + 1))) := by
  unfold F_X1_keepUnlessError
  rw [if_pos (Int32.not_lt.mp hv), h2]
  by_cases e : c = 6
  · subst e
    rw [if_pos (by decide), if_pos rfl, c_row (n := o + 1) (by rw [h1, nI_1]) (by omega), bd_some]
  · rw [if_neg (show ¬ (6 : Int32) ≤ nI c from nI_ge (b := 6) (by omega) (by omega)), if_neg e, nI_1]
/-- a change that succeeds: the class's side of it keeps the ring -/
theorem HX_off {D D' : dT} {u : Nat → Int32} {o c : Nat} (h : HX D u o c) (e : ∀ i, i < c → ∀ q, 87 + 32 * ((o + i) % 7) ≤ q → q < 87 + 32 * ((o + i) % 7) + 32 → D' q = D q) : HX D' u o c := fun i hi => FS_off (h i hi) (e i hi)
theorem recU_row {u s : Nat → Int32} {c : Nat} (hc : c ≤ 6) : ∀ i, i < recN c → ∀ k, k < 244 → rw244 (recU u s c) i k = if i + 1 = recN c then s k else rw244 u (if c = 6 then i + 1 else i) k := by
  intro i hi k hk
  unfold recU recN rw244 cpR shU at *
  by_cases e : c = 6
  · subst e
    rw [if_pos rfl] at hi ⊢
    simp only [if_true]
    by_cases e1 : i + 1 = 6
    · have : i = 5 := by omega
      subst this
      rw [if_pos (by omega), if_pos rfl]
      exact congrArg _ (by omega)
    · rw [if_neg (by omega), if_neg e1, if_pos (by omega)]
      exact congrArg _ (by omega)
  · rw [if_neg e] at hi ⊢
    simp only [if_neg e]
    by_cases e1 : i = c
    · subst e1
      rw [if_pos (by omega), if_pos rfl]
      exact congrArg _ (by omega)
    · rw [if_neg (by omega), if_neg (by omega)]
/-- the ring after a kept note -/
theorem HX_rec {D : dT} {u s : Nat → Int32} {o c : Nat} (hc : c ≤ 6) (h : HX D u o c) (hn : FS D (87 + 32 * ((o + c) % 7)) s) : HX D (recU u s c) (if c = 6 then (o + 1) % 7 else o) (recN c) := by
  intro i hi
  have hr := recU_row (u := u) (s := s) hc i hi
  by_cases e : c = 6
  · subst e
    rw [if_pos rfl]
    have hi6 : i < 6 := hi
    rw [show ((o + 1) % 7 + i) % 7 = (o + (i + 1)) % 7 by omega]
    by_cases e1 : i + 1 = recN 6
    · have : i + 1 = 6 := e1
      rw [this]
      exact FS_eq hn (fun k hk => by rw [hr k hk, if_pos e1])
    · have h6 : ¬ i + 1 = 6 := e1
      exact FS_eq (h (i + 1) (by omega)) (fun k hk => by rw [hr k hk, if_neg e1, if_pos rfl])
  · rw [if_neg e]
    have hrc : recN c = c + 1 := if_neg e
    by_cases e1 : i + 1 = recN c
    · have : i = c := by omega
      subst this
      exact FS_eq hn (fun k hk => by rw [hr k hk, if_pos e1])
    · exact FS_eq (h i (by omega)) (fun k hk => by rw [hr k hk, if_neg e1, if_neg e])
