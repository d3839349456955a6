/-! what the class answers, as values of s -/
def hrV (s : Nat → Int32) (p : Nat) : Int32 := ((((s (12 + 4 * p)) - (s (12 + 4 * p + 1))) + (if (1 : Int32) < s 1 then s 1 else (1 : Int32))) - (1 : Int32)) / (if (1 : Int32) < s 1 then s 1 else (1 : Int32))
def ofV (s : Nat → Int32) (J p w : Nat) : Int32 := if w = 0 then s (12 + 4 * p) else if w = 1 then s (12 + 4 * p + 1) else if w = 2 then jobV s J p else if w = 3 then s (12 + 4 * p + 2) else if w = 4 then s (12 + 4 * p + 3) else hrV s p
def ojV (s : Nat → Int32) (j w : Nat) : Int32 := if w = 6 then (if CRW s j = 0 then ldV s j else s (52 + 12 * j + 6)) else if w = 12 then latV s j else s (52 + 12 * j + w)
def cnV (s : Nat → Int32) (P J w : Nat) : Int32 := if w = 0 then s 4 else if w = 1 then nI P else if w = 2 then busyV s J else if w = 3 then nI J else if w = 4 then thtV s J 0 else if w = 5 then thtV s J 1 else if w = 6 then thtV s J 2 else if w = 7 then thtV s J 3 else if w = 8 then s 7 else if w = 9 then s 8 else s (w - 10)
theorem gain_ne {s : Nat → Int32} {P J : Nat} (hS : SI s P J) : ¬ (if (1 : Int32) < s 1 then s 1 else (1 : Int32)) = 0 := by
  obtain ⟨g, g1, g2, e⟩ := hS.2.1.2.1
  rw [e]
  by_cases c : (1 : Int32) < nI g
  · rw [if_pos c]; exact nI_ne0 (by omega) (by omega)
  · rw [if_neg c]; decide
theorem a_of {D : dT} {s : Nat → Int32} {P J : Nat} (hF : FR D 19 s P J) (hS : SI s P J) {p w : Nat} (hp : p < P) (hw : w < 6) : F_X5_of (nI p) (nI w) D = some (ofV s J p w, D) := by
  have h10 := SI_P hS
  unfold F_X5_of
  rw [c_hasPerson (FR_P hF) h10, bd_some, if_pos (inRn hp (by omega)), if_neg o10, if_pos (inRn (by omega) (by omega)), if_pos (by decide), nI_clamp (by omega), t1, FR_set hF 1 (by omega)]
  unfold F_X4_tell F_X4_hoursOfRest
  rw [FR_p0 hF hp, FR_p1 hF hp, FR_p2 hF hp, FR_p3 hF hp, FR_p4 hF hp, if_pos (gain_ne hS)]
  rcases (show w = 0 ∨ w = 1 ∨ w = 2 ∨ w = 3 ∨ w = 4 ∨ w = 5 by omega) with rfl | rfl | rfl | rfl | rfl | rfl <;> rfl
theorem a_oj {D : dT} {s : Nat → Int32} {P J : Nat} (hF : FR D 19 s P J) (hS : SI s P J) {j q : Nat} (hj : j < J) (hq : q < 13) : F_X5_ofJob (nI j) (nI q) D = some (ojV s j q, D) := by
  have h16 := SI_J hS
  unfold F_X5_ofJob
  rw [c_hasJob (FR_J hF) h16, bd_some, if_pos (inRn hj (by omega)), if_neg o10, if_pos (inRn (by omega) (by omega)), nI_clamp (by omega)]
  unfold F_X0_tellOfJob ojV
  by_cases q6 : q = 6
  · subst q6
    rw [if_neg (show ¬ nI 6 = 0 by decide), if_neg (show ¬ nI 6 = 1 by decide), if_neg (show ¬ nI 6 = 2 by decide), if_neg (show ¬ nI 6 = 3 by decide), if_neg (show ¬ nI 6 = 4 by decide), if_neg (show ¬ nI 6 = 5 by decide), if_pos (show nI 6 = 6 from rfl), if_pos (show 6 = 6 from rfl)]
    unfold F_X2_wasBegun
    rw [FR_j hF hj (k := 7) (by omega)]
    by_cases h7 : s (52 + 12 * j + 7) = 0
    · rw [if_pos h7, bd_some, if_pos rfl, c_loadNow hF hj, bd_some, bd_some, if_pos (show CRW s j = 0 from h7)]
    · rw [if_neg h7, bd_some, if_neg o10, FR_j hF hj (k := 6) (by omega), bd_some, if_neg (show ¬ CRW s j = 0 from h7)]
  · by_cases q12 : q = 12
    · subst q12
      rw [if_neg (show ¬ nI 12 = 0 by decide), if_neg (show ¬ nI 12 = 1 by decide), if_neg (show ¬ nI 12 = 2 by decide), if_neg (show ¬ nI 12 = 3 by decide), if_neg (show ¬ nI 12 = 4 by decide), if_neg (show ¬ nI 12 = 5 by decide), if_neg (show ¬ nI 12 = 6 by decide), if_neg (show ¬ nI 12 = 7 by decide), if_neg (show ¬ nI 12 = 8 by decide), if_neg (show ¬ nI 12 = 9 by decide), if_neg (show ¬ nI 12 = 10 by decide), if_neg (show ¬ nI 12 = 11 by decide), if_pos (show nI 12 = 12 from rfl), FR_h hF, c_late hF hS hj, bd_some, if_neg (show ¬ 12 = 6 by omega), if_pos (show 12 = 12 from rfl)]
      rcases lat_b s j with e | e
      · rw [e, if_pos rfl, bd_some]
      · rw [e, if_neg o10, bd_some]
    · rw [if_neg q6, if_neg q12]
      have f := fun k (hk : k < 12) => FR_j hF hj (k := k) hk
      rw [f 0 (by omega), f 1 (by omega), f 2 (by omega), f 3 (by omega), f 4 (by omega), f 5 (by omega), f 7 (by omega), f 8 (by omega), f 9 (by omega), f 10 (by omega), f 11 (by omega)]
      have : q = 0 ∨ q = 1 ∨ q = 2 ∨ q = 3 ∨ q = 4 ∨ q = 5 ∨ q = 7 ∨ q = 8 ∨ q = 9 ∨ q = 10 ∨ q = 11 := by omega
      rcases this with rfl | rfl | rfl | rfl | rfl | rfl | rfl | rfl | rfl | rfl | rfl <;> rfl
theorem a_st0 {D : dT} {s : Nat → Int32} {P J : Nat} (hF : FR D 19 s P J) {k : Nat} (hk : k < 3) : F_X5_straps (nI k) 0 D = some (s (9 + k), D) := by
  unfold F_X5_straps
  rw [c_isKind, bd_some, if_pos (inRn hk (by omega)), if_neg o10, if_pos rfl, if_pos (inRn hk (by omega)), nI_clamp (by omega), FR_own hF k hk]
theorem a_st1 {D : dT} {s : Nat → Int32} {P J : Nat} (hF : FR D 19 s P J) {k : Nat} (hk : k < 3) : F_X5_straps (nI k) 1 D = some (freeV s J k, D) := by
  unfold F_X5_straps
  rw [c_isKind, bd_some, if_pos (inRn hk (by omega)), if_neg o10, if_neg o10, if_pos rfl, if_pos (inRn hk (by omega)), nI_clamp (by omega), FR_fre hF k hk]
theorem a_cn {D : dT} {s : Nat → Int32} {P J : Nat} (hF : FR D 19 s P J) (hS : SI s P J) {w : Nat} (hw : w < 14) : F_X5_count (nI w) D = some (cnV s P J w, D) := by
  unfold F_X5_count F_X0_tellCount
  rw [if_neg (show ¬ nI w = 14 from fun z => by have := (nI_eq (a := w) (b := 14) (by omega) (by omega)).mp z; omega), if_neg (show ¬ nI w = 15 from fun z => by have := (nI_eq (a := w) (b := 15) (by omega) (by omega)).mp z; omega)]
  rw [FR_h hF, FR_P hF, FR_J hF, FR_c hF, FR_p hF, c_busy hF hS, c_state hF hS (x := 0) (by decide), c_state hF hS (x := 1) (by decide), c_state hF hS (x := 2) (by decide), c_lates hF hS]
  rw [if_pos (show inR (0 : Int32) 4 by decide), if_pos (show inR (1 : Int32) 4 by decide), if_pos (show inR (2 : Int32) 4 by decide), if_pos (show inR (3 : Int32) 4 by decide), t0, t1, t2, t3, FR_set hF 0 (by omega), FR_set hF 1 (by omega), FR_set hF 2 (by omega), FR_set hF 3 (by omega)]
  rcases (show w = 0 ∨ w = 1 ∨ w = 2 ∨ w = 3 ∨ w = 4 ∨ w = 5 ∨ w = 6 ∨ w = 7 ∨ w = 8 ∨ w = 9 ∨ w = 10 ∨ w = 11 ∨ w = 12 ∨ w = 13 by omega) with rfl | rfl | rfl | rfl | rfl | rfl | rfl | rfl | rfl | rfl | rfl | rfl | rfl | rfl <;> rfl
theorem a_c15 (D : dT) : F_X5_count 15 D = some (D 85 2, D) := by
  unfold F_X5_count
  rw [if_neg (by decide), if_pos rfl]
theorem a_c1 {D : dT} {s : Nat → Int32} {P J : Nat} (hF : FR D 19 s P J) (hS : SI s P J) : F_X5_count 1 D = some (nI P, D) := a_cn hF hS (w := 1) (by omega)
theorem a_c3 {D : dT} {s : Nat → Int32} {P J : Nat} (hF : FR D 19 s P J) (hS : SI s P J) : F_X5_count 3 D = some (nI J, D) := a_cn hF hS (w := 3) (by omega)
/-- the numbers of people and jobs are s's own -/
theorem SI_u {s : Nat → Int32} {P J P' J' : Nat} (h : SI s P J) (h' : SI s P' J') : P = P' ∧ J = J' := by
  obtain ⟨a1, a2, a3, a4⟩ := h.1
  obtain ⟨b1, b2, b3, b4⟩ := h'.1
  exact ⟨(nI_eq (by omega) (by omega)).mp (a3.symm.trans b3), (nI_eq (by omega) (by omega)).mp (a4.symm.trans b4)⟩
theorem FS_at {D : dT} {B : Nat} {s : Nat → Int32} {P J : Nat} (h : FS D B s) (hS : SI s P J) : FR D B s P J := by
  obtain ⟨P', J', hF, hS'⟩ := h
  obtain ⟨rfl, rfl⟩ := SI_u hS hS'
  exact hF
/-! the digest -/
def tdF (f : Nat → Int32) : Nat → Int64 → Int64
  | 0, h => h
  | n + 1, h => (31 : Int64) * tdF f n h + (f n).toInt64
theorem tdF_s (f : Nat → Int32) (n : Nat) (h : Int64) : tdF f (n + 1) h = (31 : Int64) * tdF f n h + (f n).toInt64 := rfl
def tdP (s : Nat → Int32) (J : Nat) : Nat → Int64 → Int64
  | 0, h => h
  | p + 1, h => tdF (ofV s J p) 6 (tdP s J p h)
theorem tdP_s (s : Nat → Int32) (J p : Nat) (h : Int64) : tdP s J (p + 1) h = tdF (ofV s J p) 6 (tdP s J p h) := rfl
def tdJ (s : Nat → Int32) : Nat → Int64 → Int64
  | 0, h => h
  | j + 1, h => tdF (ojV s j) 13 (tdJ s j h)
theorem tdJ_s (s : Nat → Int32) (j : Nat) (h : Int64) : tdJ s (j + 1) h = tdF (ojV s j) 13 (tdJ s j h) := rfl
def tdS (s : Nat → Int32) (J : Nat) : Nat → Int64 → Int64
  | 0, h => h
  | k + 1, h => (31 : Int64) * ((31 : Int64) * tdS s J k h + (s (9 + k)).toInt64) + (freeV s J k).toInt64
theorem tdS_s (s : Nat → Int32) (J k : Nat) (h : Int64) : tdS s J (k + 1) h = (31 : Int64) * ((31 : Int64) * tdS s J k h + (s (9 + k)).toInt64) + (freeV s J k).toInt64 := rfl
theorem td_129 {D : dT} {s : Nat → Int32} {P J : Nat} (hF : FR D 19 s P J) (h0 : Int64) : ∀ m k fu, k + m = 3 → m < fu → F_L_told_129 fu (tdS s J k h0) (nI k) D = some (tdS s J 3 h0, D) := by
  intro m
  induction m with
  | zero =>
    intro k fu hk hf
    obtain ⟨f, rfl⟩ := Nat.exists_eq_add_of_lt hf
    rw [show 0 + f + 1 = f + 1 by omega, F_L_told_129, if_pos (show (3 : Int32) ≤ nI k from nI_le (a := 3) (by omega) (by omega)), show k = 3 by omega]
  | succ m ih =>
    intro k fu hk hf
    obtain ⟨f, rfl⟩ := Nat.exists_eq_add_of_lt hf
    have hi := ih (k + 1) (m + 1 + f) (by omega) (by omega)
    rw [F_L_told_129, if_neg (show ¬ (3 : Int32) ≤ nI k from nI_ge (b := 3) (by omega) (by omega)), a_st0 hF (by omega), bd_some, a_st1 hF (by omega), bd_some, nI_1, ← tdS_s]
    exact hi
theorem td_93 {D : dT} {s : Nat → Int32} {P J : Nat} (hF : FR D 19 s P J) (hS : SI s P J) (k81 : Int64 → Int32 → dT → Option (Int64 × dT)) {j : Nat} (hj : j < J) (h0 : Int64) : ∀ m k fu, k + m = 13 → m < fu → F_L_told_93 fu k81 (tdF (ojV s j) k h0) (nI j) (nI k) D = k81 (tdF (ojV s j) 13 h0) (nI (j + 1)) D := by
  intro m
  induction m with
  | zero =>
    intro k fu hk hf
    obtain ⟨f, rfl⟩ := Nat.exists_eq_add_of_lt hf
    rw [show 0 + f + 1 = f + 1 by omega, F_L_told_93, if_pos (show (13 : Int32) ≤ nI k from nI_le (a := 13) (by omega) (by omega)), show k = 13 by omega, nI_1]
  | succ m ih =>
    intro k fu hk hf
    obtain ⟨f, rfl⟩ := Nat.exists_eq_add_of_lt hf
    have hi := ih (k + 1) (m + 1 + f) (by omega) (by omega)
    rw [F_L_told_93, if_neg (show ¬ (13 : Int32) ≤ nI k from nI_ge (b := 13) (by omega) (by omega)), a_oj hF hS hj (by omega), bd_some, nI_1, ← tdF_s]
    exact hi
theorem td_81 {D : dT} {s : Nat → Int32} {P J : Nat} (hF : FR D 19 s P J) (hS : SI s P J) (h0 : Int64) : ∀ m k fu, k + m = J → m < fu → F_L_told_81 fu (tdJ s k h0) (nI k) D = some (tdS s J 3 (tdJ s J h0), D) := by
  have h16 := SI_J hS
  intro m
  induction m with
  | zero =>
    intro k fu hk hf
    obtain ⟨f, rfl⟩ := Nat.exists_eq_add_of_lt hf
    rw [show 0 + f + 1 = f + 1 by omega, F_L_told_81, a_c3 hF hS, bd_some, if_pos (nI_le (by omega) (by omega)), show k = J by omega]
    exact td_129 hF _ 3 0 lim (by omega) (lim_lt (by omega))
  | succ m ih =>
    intro k fu hk hf
    obtain ⟨f, rfl⟩ := Nat.exists_eq_add_of_lt hf
    have hi := ih (k + 1) (m + 1 + f) (by omega) (by omega)
    rw [F_L_told_81, a_c3 hF hS, bd_some, if_neg (nI_ge (by omega) (by omega))]
    have := td_93 hF hS (fun (v1_ : Int64) (v3_ : Int32) (D_ : dT) => F_L_told_81 (m + 1 + f) v1_ v3_ D_) (j := k) (by omega) (tdJ s k h0) 13 0 lim (by omega) (lim_lt (by omega))
    rw [← tdJ_s] at this
    exact this.trans hi
theorem td_45 {D : dT} {s : Nat → Int32} {P J : Nat} (hF : FR D 19 s P J) (hS : SI s P J) (k33 : Int64 → Int32 → dT → Option (Int64 × dT)) {p : Nat} (hp : p < P) (h0 : Int64) : ∀ m k fu, k + m = 6 → m < fu → F_L_told_45 fu k33 (tdF (ofV s J p) k h0) (nI p) (nI k) D = k33 (tdF (ofV s J p) 6 h0) (nI (p + 1)) D := by
  intro m
  induction m with
  | zero =>
    intro k fu hk hf
    obtain ⟨f, rfl⟩ := Nat.exists_eq_add_of_lt hf
    rw [show 0 + f + 1 = f + 1 by omega, F_L_told_45, if_pos (show (6 : Int32) ≤ nI k from nI_le (a := 6) (by omega) (by omega)), show k = 6 by omega, nI_1]
  | succ m ih =>
    intro k fu hk hf
    obtain ⟨f, rfl⟩ := Nat.exists_eq_add_of_lt hf
    have hi := ih (k + 1) (m + 1 + f) (by omega) (by omega)
    rw [F_L_told_45, if_neg (show ¬ (6 : Int32) ≤ nI k from nI_ge (b := 6) (by omega) (by omega)), a_of hF hS hp (by omega), bd_some, nI_1, ← tdF_s]
    exact hi
theorem td_33 {D : dT} {s : Nat → Int32} {P J : Nat} (hF : FR D 19 s P J) (hS : SI s P J) (h0 : Int64) : ∀ m k fu, k + m = P → m < fu → F_L_told_33 fu (tdP s J k h0) (nI k) D = some (tdS s J 3 (tdJ s J (tdP s J P h0)), D) := by
  have h10 := SI_P hS
  have h16 := SI_J hS
  intro m
  induction m with
  | zero =>
    intro k fu hk hf
    obtain ⟨f, rfl⟩ := Nat.exists_eq_add_of_lt hf
    rw [show 0 + f + 1 = f + 1 by omega, F_L_told_33, a_c1 hF hS, bd_some, if_pos (nI_le (by omega) (by omega)), show k = P by omega]
    exact td_81 hF hS _ J 0 lim (by omega) (lim_lt (by omega))
  | succ m ih =>
    intro k fu hk hf
    obtain ⟨f, rfl⟩ := Nat.exists_eq_add_of_lt hf
    have hi := ih (k + 1) (m + 1 + f) (by omega) (by omega)
    rw [F_L_told_33, a_c1 hF hS, bd_some, if_neg (nI_ge (by omega) (by omega))]
    have := td_45 hF hS (fun (v1_ : Int64) (v3_ : Int32) (D_ : dT) => F_L_told_33 (m + 1 + f) v1_ v3_ D_) (p := k) (by omega) (tdP s J k h0) 6 0 lim (by omega) (lim_lt (by omega))
    rw [← tdP_s] at this
    exact this.trans hi
def toldV (s : Nat → Int32) (P J : Nat) : Int64 := tdS s J 3 (tdJ s J (tdP s J P (tdF (cnV s P J) 14 3)))
theorem td_6 {D : dT} {s : Nat → Int32} {P J : Nat} (hF : FR D 19 s P J) (hS : SI s P J) : ∀ m k fu, k + m = 14 → m < fu → F_L_told_6 fu (tdF (cnV s P J) k 3) (nI k) D = some (toldV s P J, D) := by
  intro m
  induction m with
  | zero =>
    intro k fu hk hf
    obtain ⟨f, rfl⟩ := Nat.exists_eq_add_of_lt hf
    rw [show 0 + f + 1 = f + 1 by omega, F_L_told_6, if_pos (show (14 : Int32) ≤ nI k from nI_le (a := 14) (by omega) (by omega)), show k = 14 by omega]
    exact td_33 hF hS _ P 0 lim (by omega) (lim_lt (by have := SI_P hS; omega))
  | succ m ih =>
    intro k fu hk hf
    obtain ⟨f, rfl⟩ := Nat.exists_eq_add_of_lt hf
    have hi := ih (k + 1) (m + 1 + f) (by omega) (by omega)
    rw [F_L_told_6, if_neg (show ¬ (14 : Int32) ≤ nI k from nI_ge (b := 14) (by omega) (by omega)), a_cn hF hS (by omega), bd_some, nI_1, ← tdF_s]
    exact hi
theorem told_v {D : dT} {s : Nat → Int32} {P J : Nat} (hF : FR D 19 s P J) (hS : SI s P J) : F_L_told D = some (toldV s P J, D) := td_6 hF hS 14 0 lim (by omega) (lim_lt (by omega))
