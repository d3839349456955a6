/-! the order of those that wait -/
def keyV (s : Nat → Int32) (i : Nat) : Nat := ((3 - (s (52 + 12 * i + 3)).toNatClampNeg) * 1000 + (s (52 + 12 * i + 4)).toNatClampNeg) * 16 + i
theorem sub_ti {a b : Nat} (ha : a < 2 ^ 30) (hb : b < 2 ^ 30) : (nI a - nI b).toInt = (a : Int) - b := by
  rw [Int32.toInt_sub, nI_toInt (by omega), nI_toInt (by omega)]
  rw [Int.bmod_eq_of_le] <;> omega
theorem sub_lt {a b : Nat} (ha : a < 2 ^ 30) (hb : b < 2 ^ 30) : nI a - nI b < 0 ↔ a < b := by
  rw [lt_toInt, sub_ti ha hb, show (0 : Int32).toInt = 0 from rfl]
  omega
theorem sub_eq {a b : Nat} (ha : a < 2 ^ 30) (hb : b < 2 ^ 30) : nI a - nI b = 0 ↔ a = b := by
  rw [← Int32.toInt_inj, sub_ti ha hb, show (0 : Int32).toInt = 0 from rfl]
  omega
theorem ahW_lt {a b : Nat} (ha : a < 2 ^ 30) (hb : b < 2 ^ 30) (i j : Nat) : ¬ ahW (nI a - nI b) i j = 0 ↔ a < b ∨ (a = b ∧ i < j) := by
  unfold ahW
  by_cases h : nI a - nI b < 0
  · rw [if_pos h]
    exact ⟨fun _ => Or.inl ((sub_lt ha hb).mp h), fun _ => by decide⟩
  · rw [if_neg h]
    have h1 : ¬ a < b := fun z => h ((sub_lt ha hb).mpr z)
    by_cases h2 : nI a - nI b = 0
    · rw [if_pos h2]
      have h3 := (sub_eq ha hb).mp h2
      by_cases h4 : j ≤ i
      · rw [if_pos h4]
        exact ⟨fun z => absurd rfl z, fun z => by omega⟩
      · rw [if_neg h4]
        exact ⟨fun _ => Or.inr ⟨h3, by omega⟩, fun _ => by decide⟩
    · rw [if_neg h2]
      have h3 : ¬ a = b := fun z => h2 ((sub_eq ha hb).mpr z)
      exact ⟨fun z => absurd rfl z, fun z => by omega⟩
theorem ah_key {s : Nat → Int32} {P J : Nat} (hS : SI s P J) {i j : Nat} (hi : i < J) (hj : j < J) : ¬ ahV s i j = 0 ↔ keyV s i < keyV s j := by
  have h16 := SI_J hS
  obtain ⟨_, _, ⟨a, _, ha, ea⟩, ⟨d, _, hd, ed⟩, _⟩ := (hS.2.2.2.1 i hi).1
  obtain ⟨_, _, ⟨b, _, hb, eb⟩, ⟨e, _, he, ee⟩, _⟩ := (hS.2.2.2.1 j hj).1
  unfold ahV keyV
  rw [ea, ed, eb, ee, nI_clamp (by omega), nI_clamp (by omega), nI_clamp (by omega), nI_clamp (by omega)]
  by_cases h : nI b - nI a = 0
  · rw [if_pos h, ahW_lt (by omega) (by omega)]
    have := (sub_eq (by omega) (by omega)).mp h
    omega
  · rw [if_neg h, ahW_lt (by omega) (by omega)]
    have : ¬ b = a := fun z => h ((sub_eq (by omega) (by omega)).mpr z)
    omega
theorem key_inj {s : Nat → Int32} {i j : Nat} (hi : i < 16) (hj : j < 16) (h : keyV s i = keyV s j) : i = j := by
  unfold keyV at h
  omega
theorem c_later {D : dT} {B : Nat} {s : Nat → Int32} {P J : Nat} (h : FR D B s P J) (hS : SI s P J) {i j : Nat} (hi : i < J) (hj : j < J) (hij : i < j) : F_X2_isAheadOfLater (B + 16 + i) (B + 16 + j) D = some (if keyV s i < keyV s j then 1 else 0, D) := by
  have h16 := SI_J hS
  obtain ⟨_, _, ⟨a, _, ha, ea⟩, ⟨d, _, hd, ed⟩, _⟩ := (hS.2.2.2.1 i hi).1
  obtain ⟨_, _, ⟨b, _, hb, eb⟩, ⟨e, _, he, ee⟩, _⟩ := (hS.2.2.2.1 j hj).1
  unfold F_X2_isAheadOfLater keyV
  rw [FR_j h hi (k := 3) (by omega), FR_j h hi (k := 4) (by omega), FR_j h hj (k := 3) (by omega), FR_j h hj (k := 4) (by omega), ea, ed, eb, ee, nI_clamp (by omega), nI_clamp (by omega), nI_clamp (by omega), nI_clamp (by omega)]
  by_cases h1 : a = b
  · rw [if_pos (by rw [h1])]
    by_cases h2 : e < d
    · rw [if_pos (nI_lt h2 (by omega)), if_neg (by omega)]
    · rw [if_neg (nI_nlt (by omega) (by omega)), if_pos (by omega)]
  · rw [if_neg (fun z => h1 ((nI_eq (by omega) (by omega)).mp z))]
    by_cases h2 : a ≤ b
    · rw [if_pos (nI_le h2 (by omega)), if_neg (by omega)]
    · rw [if_neg (nI_ge (by omega) (by omega)), if_pos (by omega)]
theorem c_ahead {D : dT} {B : Nat} {s : Nat → Int32} {P J : Nat} (h : FR D B s P J) (hS : SI s P J) {i j : Nat} (hi : i < J) (hj : j < J) (hij : i ≠ j) : F_X0_isAhead B (nI i) (nI j) D = some (if keyV s i < keyV s j then 1 else 0, D) := by
  have h16 := SI_J hS
  unfold F_X0_isAhead
  by_cases h1 : j ≤ i
  · rw [if_pos (nI_le h1 (by omega)), if_pos (inRn (by omega) (by omega)), if_pos (inRn (by omega) (by omega)), nI_clamp (by omega), nI_clamp (by omega), c_later h hS hj hi (by omega), bd_some]
    have hk : ¬ keyV s i = keyV s j := fun z => hij (key_inj (s := s) (i := i) (j := j) (by omega) (by omega) z)
    by_cases h2 : keyV s j < keyV s i
    · rw [if_pos h2, if_neg (by decide), if_neg (by omega)]
    · rw [if_neg h2, if_pos rfl, if_pos (by omega)]
  · rw [if_neg (nI_ge (by omega) (by omega)), if_pos (inRn (by omega) (by omega)), if_pos (inRn (by omega) (by omega)), nI_clamp (by omega), nI_clamp (by omega), c_later h hS hi hj (by omega), bd_some]
    by_cases h2 : keyV s i < keyV s j
    · rw [if_pos h2, if_pos (Or.inr rfl)]
    · rw [if_neg h2, if_pos (Or.inl rfl)]
/-- the least of a set -/
def nxU (s : Nat → Int32) (W : Nat → Bool) : Nat → Int32
  | 0 => -1
  | j + 1 => if W j = true ∧ (nxU s W j = -1 ∨ keyV s j < keyV s (nxU s W j).toNatClampNeg) then nI j else nxU s W j
theorem nxU_s (s : Nat → Int32) (W : Nat → Bool) (j : Nat) : nxU s W (j + 1) = if W j = true ∧ (nxU s W j = -1 ∨ keyV s j < keyV s (nxU s W j).toNatClampNeg) then nI j else nxU s W j := rfl
theorem nI_n1 {q : Nat} (h : q < 16) : ¬ nI q = -1 := (by decide +kernel : ∀ j, j < 16 → ¬ nI j = -1) q h
theorem nxU_in (s : Nat → Int32) (W : Nat → Bool) : ∀ n, n ≤ 16 → (nxU s W n = -1 ∧ ∀ j, j < n → W j = false) ∨ ∃ j, j < n ∧ nxU s W n = nI j ∧ W j = true ∧ ∀ i, i < n → W i = true → keyV s j ≤ keyV s i := by
  intro n
  induction n with
  | zero => intro _; exact Or.inl ⟨rfl, fun j hj => by omega⟩
  | succ n ih =>
    intro hn
    rw [nxU_s]
    cases ih (by omega) with
    | inl h =>
      cases hw : W n
      · rw [if_neg (fun z => absurd z.1 (by decide))]
        refine Or.inl ⟨h.1, fun j hj => ?_⟩
        by_cases e : j = n
        · subst e; exact hw
        · exact h.2 j (by omega)
      · rw [if_pos ⟨rfl, Or.inl h.1⟩]
        refine Or.inr ⟨n, by omega, rfl, hw, fun i hi hwi => ?_⟩
        by_cases e : i = n
        · subst e; exact Nat.le_refl _
        · have := h.2 i (by omega); rw [hwi] at this; cases this
    | inr h =>
      obtain ⟨j, hj, e, hwj, hm⟩ := h
      rw [e, nI_clamp (by omega)]
      by_cases c : W n = true ∧ (nI j = -1 ∨ keyV s n < keyV s j)
      · rw [if_pos c]
        refine Or.inr ⟨n, by omega, rfl, c.1, fun i hi hwi => ?_⟩
        by_cases e : i = n
        · subst e; exact Nat.le_refl _
        · have := hm i (by omega) hwi
          have := c.2.resolve_left (nI_n1 (by omega))
          omega
      · rw [if_neg c]
        refine Or.inr ⟨j, by omega, rfl, hwj, fun i hi hwi => ?_⟩
        by_cases e : i = n
        · subst e
          have : ¬ keyV s i < keyV s j := fun z => c ⟨hwi, Or.inr z⟩
          omega
        · exact hm i (by omega) hwi
theorem nxU_congr {s : Nat → Int32} {W W' : Nat → Bool} : ∀ n, (∀ j, j < n → W j = W' j) → nxU s W n = nxU s W' n := by
  intro n
  induction n with
  | zero => intro _; rfl
  | succ n ih =>
    intro h
    rw [nxU_s, nxU_s, ih (fun j hj => h j (by omega)), h n (by omega)]
/-- those that wait behind a threshold -/
def wtW (s : Nat → Int32) (th j : Nat) : Bool := decide (HOW s j = 0 ∧ th ≤ keyV s j)
theorem c_next_l {D : dT} {B : Nat} {s : Nat → Int32} {P J : Nat} (h : FR D B s P J) (hS : SI s P J) {x : Int32} {th : Nat} (hx : (x = -1 ∧ th = 0) ∨ ∃ q, q < J ∧ x = nI q ∧ th = keyV s q + 1) : ∀ m k fuel, k + m = J → m < fuel → F_X0_nextWaiting_4 fuel B x (nxU s (wtW s th) k) (nI k) D = some (nxU s (wtW s th) J, D) := by
  have h16 := SI_J hS
  intro m
  induction m with
  | zero =>
    intro k fuel hk hf
    obtain ⟨f, rfl⟩ := Nat.exists_eq_add_of_lt hf
    rw [show 0 + f + 1 = f + 1 by omega, F_X0_nextWaiting_4, FR_J h, if_pos (nI_le (by omega) (by omega)), show k = J by omega]
  | succ m ih =>
    intro k fuel hk hf
    obtain ⟨f, rfl⟩ := Nat.exists_eq_add_of_lt hf
    have hi := ih (k + 1) (m + 1 + f) (by omega) (by omega)
    rw [nxU_s] at hi
    have a39 : ∀ s0 : Int32, (s0 = 0 ↔ ¬ th ≤ keyV s k) → F_X0_nextWaiting_39 B x (fun (v2_ : Int32) (v3_ : Int32) (D_ : dT) => F_X0_nextWaiting_4 (m + 1 + f) B x v2_ v3_ D_) (nxU s (wtW s th) k) (nI k) s0 D = some (nxU s (wtW s th) J, D) := by
      intro s0 hs0
      unfold F_X0_nextWaiting_39 F_X0_nextWaiting_75
      rw [if_pos (inRn (by omega) (by omega)), nI_1]
      simp only [nI_clamp (show k < 2 ^ 31 by omega), FR_j h (show k < J by omega) (show 5 < 12 by omega)]
      by_cases c1 : HOW s k = 0
      · rw [if_pos c1]
        by_cases c2 : th ≤ keyV s k
        · rw [if_neg (fun z => hs0.mp z c2), c_hasJob (FR_J h) h16, bd_some]
          have hw : wtW s th k = true := decide_eq_true ⟨c1, c2⟩
          cases nxU_in s (wtW s th) k (by omega) with
          | inl z =>
            rw [z.1] at hi ⊢
            rw [if_neg (show ¬ inR (-1) J from fun z => absurd z.1 (by decide)), if_pos rfl]
            rw [if_pos ⟨hw, Or.inl rfl⟩] at hi
            exact hi
          | inr z =>
            obtain ⟨q, hq, e, _, _⟩ := z
            rw [e] at hi ⊢
            rw [if_pos (inRn (by omega) (by omega)), if_neg (by decide), c_ahead h hS (by omega) (by omega) (by omega), bd_some]
            rw [nI_clamp (by omega)] at hi
            by_cases c3 : keyV s k < keyV s q
            · rw [if_pos c3, if_neg (by decide)]
              rw [if_pos ⟨hw, Or.inr c3⟩] at hi
              exact hi
            · rw [if_neg c3, if_pos rfl]
              rw [if_neg (fun z => z.2.elim (fun z => nI_n1 (by omega) z) c3)] at hi
              exact hi
        · rw [if_pos (hs0.mpr c2)]
          rw [if_neg (fun z => c2 (of_decide_eq_true z.1).2)] at hi
          exact hi
      · rw [if_neg c1]
        rw [if_neg (fun z => c1 (of_decide_eq_true z.1).1)] at hi
        exact hi
    rw [F_X0_nextWaiting_4, FR_J h, if_neg (nI_ge (by omega) (by omega)), c_hasJob (FR_J h) h16, bd_some]
    unfold F_X0_nextWaiting_34 F_X0_nextWaiting_38
    cases hx with
    | inl hx =>
      rw [if_neg (show ¬ inR x J from fun z => by rw [hx.1] at z; exact absurd z.1 (by decide)), if_pos rfl]
      exact a39 1 ⟨fun z => absurd z (by decide), fun z => absurd (by omega) z⟩
    | inr hx =>
      obtain ⟨q, hq, e, ht⟩ := hx
      subst e
      rw [if_pos (inRn hq (by omega)), if_neg (by decide)]
      by_cases c1 : nI k = nI q
      · rw [if_pos c1]
        have := (nI_eq (by omega) (by omega)).mp c1
        subst this
        exact a39 0 ⟨fun _ => by omega, fun _ => rfl⟩
      · rw [if_neg c1, c_ahead h hS hq (by omega) (fun z => c1 (by rw [z])), bd_some]
        by_cases c3 : keyV s q < keyV s k
        · rw [if_pos c3, if_neg (by decide)]
          exact a39 1 ⟨fun z => absurd z (by decide), fun z => absurd (by omega) z⟩
        · rw [if_neg c3, if_pos rfl]
          exact a39 0 ⟨fun _ => by omega, fun _ => rfl⟩
theorem c_next {D : dT} {B : Nat} {s : Nat → Int32} {P J : Nat} (h : FR D B s P J) (hS : SI s P J) {x : Int32} {th : Nat} (hx : (x = -1 ∧ th = 0) ∨ ∃ q, q < J ∧ x = nI q ∧ th = keyV s q + 1) : F_X0_nextWaiting B x D = some (nxU s (wtW s th) J, D) := c_next_l h hS hx J 0 lim (by omega) (lim_lt (by have := SI_J hS; omega))
