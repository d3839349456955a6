/-! the reference: reasons, crews, straps, beginnings -/
def ws (D : dT) (s : Nat → Int32) : dT := va_up D 379 s
theorem ws_s (D : dT) (s : Nat → Int32) : ws D s 379 = s := up_self _ _ _
theorem ws_o (D : dT) (s : Nat → Int32) {i : Nat} (h : i ≠ 379) : ws D s i = D i := up_ne _ _ h
theorem ws_ws (D : dT) (s s' : Nat → Int32) : ws (ws D s) s' = ws D s' := by
  funext i
  by_cases h : i = 379
  · subst h; rw [ws_s, ws_s]
  · rw [ws_o _ _ h, ws_o _ _ h, ws_o _ _ h]
theorem ws_id (D : dT) : ws D (D 379) = D := by
  funext i
  by_cases h : i = 379
  · subst h; rw [ws_s]
  · rw [ws_o _ _ h]
theorem ws_up (D : dT) (k : Nat) (v : Int32) : up2 D 379 k v = ws D (upd (D 379) k v) := by
  funext i j
  by_cases h : i = 379
  · subst h
    rw [ws_s]
    unfold up2 upd
    by_cases h2 : j = k
    · rw [if_pos ⟨rfl, h2⟩, if_pos h2]
    · rw [if_neg (fun z => h2 z.2), if_neg h2]
  · rw [ws_o _ _ h]
    exact up2_ne D v (fun z => h z.1)
abbrev HOW (s : Nat → Int32) (j : Nat) : Int32 := s (52 + 12 * j + 5)
abbrev CRW (s : Nat → Int32) (j : Nat) : Int32 := s (52 + 12 * j + 7)
theorem r_can2 (D : dT) {n : Nat} (hn : D 379 6 = nI n) (h16 : n ≤ 16) {x k : Int32} (j : Nat) (hx : x = nI j) (hj : j < 16) (hk : k = -6 ∨ inR k 3) : F_X6_canHave x k D = some (if canV (D 379) n j k then 1 else 0, D) := by
  rcases r_can D hn h16 j hx hj hk with ⟨h1, h2⟩ | ⟨h1, h2⟩
  · rw [if_pos h1]; exact h2
  · rw [if_neg h1]; exact h2
def reasonV (s : Nat → Int32) (P J j : Nat) (c k : Int32) : Int32 :=
  if ¬ HOW s j = 0 then 1 else if c ≤ 0 ∨ (1 : Int32) <<< (nI P &&& 31) ≤ c ∨ s 3 < onesV c then 2 else if ¬ c &&& busyV s J = 0 then 3 else if ¬ canV s J j k then 4 else if strV s P c < loadV s j k then 5 else 0
theorem r_reason (D : dT) {P J : Nat} (hP : D 379 5 = nI P) (hP10 : P ≤ 10) (hJ : D 379 6 = nI J) (h16 : J ≤ 16) {x k : Int32} (c : Int32) (j : Nat) (hx : x = nI j) (hj : j < 16) (hk : k = -6 ∨ inR k 3) : F_X6_reason x c k D = some (reasonV (D 379) P J j c k, D) := by
  unfold F_X6_reason reasonV
  rw [r_ofJobs D 5 j 5 hx rfl hj (by omega), bd_some]
  by_cases h0 : HOW (D 379) j = 0
  · rw [if_pos h0, if_neg (show ¬ ¬ HOW (D 379) j = 0 from fun z => z h0)]
    by_cases h1 : c ≤ 0
    · rw [if_pos h1, if_pos (Or.inl h1)]
    · rw [if_neg h1, if_pos c5, t5, hP]
      by_cases h2 : (1 : Int32) <<< (nI P &&& 31) ≤ c
      · rw [if_pos h2, if_pos (Or.inr (Or.inl h2))]
      · rw [if_neg h2, r_ones, bd_some, if_pos c3, t3]
        by_cases h3 : onesV c ≤ D 379 3
        · rw [if_pos h3, if_neg (fun z => z.elim h1 (fun z => z.elim h2 (fun z => Int32.not_le.mpr z h3))), r_busy D hJ h16, bd_some]
          by_cases h4 : c &&& busyV (D 379) J = 0
          · rw [if_pos h4, if_neg (show ¬ ¬ (c &&& busyV (D 379) J = 0) from fun z => z h4), r_can2 D hJ h16 j hx hj hk, bd_some]
            by_cases h5 : canV (D 379) J j k
            · rw [if_pos h5, if_neg (by decide), if_neg (show ¬ ¬ canV (D 379) J j k from fun z => z h5), r_str D hP hP10, bd_some, r_loadBy D j hx hj, bd_some]
              by_cases h6 : loadV (D 379) j k ≤ strV (D 379) P c
              · rw [if_pos h6, if_neg (Int32.not_lt.mpr h6)]
              · rw [if_neg h6, if_pos (Int32.not_le.mp h6)]
            · rw [if_neg h5, if_pos rfl, if_pos h5]
          · rw [if_neg h4, if_pos h4]
        · rw [if_neg h3, if_pos (Or.inr (Or.inr (Int32.not_le.mp h3)))]
  · rw [if_neg h0, if_pos h0]
/-- the crew by itself: h more people at most -/
def grd (s : Nat → Int32) (P : Nat) (b load : Int32) : Nat → Int32 → Int32
  | 0, _ => -6
  | h + 1, c => if stgV s P (b ||| c) = -6 then -6 else if load ≤ strV s P (c ||| ((1 : Int32) <<< (stgV s P (b ||| c) &&& 31))) then c ||| ((1 : Int32) <<< (stgV s P (b ||| c) &&& 31)) else grd s P b load h (c ||| ((1 : Int32) <<< (stgV s P (b ||| c) &&& 31)))
theorem grd_s (s : Nat → Int32) (P : Nat) (b load : Int32) (h : Nat) (c : Int32) : grd s P b load (h + 1) c = if stgV s P (b ||| c) = -6 then -6 else if load ≤ strV s P (c ||| ((1 : Int32) <<< (stgV s P (b ||| c) &&& 31))) then c ||| ((1 : Int32) <<< (stgV s P (b ||| c) &&& 31)) else grd s P b load h (c ||| ((1 : Int32) <<< (stgV s P (b ||| c) &&& 31))) := rfl
theorem cnt_or (c : Int32) {q : Nat} (hq : q < 32) (hb : bt c q = false) : ∀ n, n ≤ 32 → cntB (c ||| ((1 : Int32) <<< (nI q &&& 31))) n = cntB c n + (if q < n then 1 else 0) := by
  intro n
  induction n with
  | zero => intro _; rfl
  | succ n ih =>
    intro hn
    rw [cntB_s, cntB_s, ih (by omega), b_or, sh_one hq (by omega)]
    by_cases h : n = q
    · subst h
      rw [hb]
      simp
    · by_cases h2 : q < n
      · rw [if_pos h2, if_pos (by omega : q < n + 1)]
        simp [h]; omega
      · rw [if_neg h2, if_neg (by omega : ¬ q < n + 1)]
        simp [h]
theorem cnt_le (c : Int32) : ∀ n, cntB c n ≤ n := by
  intro n
  induction n with
  | zero => exact Nat.le_refl _
  | succ n ih =>
    rw [cntB_s]
    split <;> omega
theorem or_f {x y : Bool} (h : (x || y) = false) : x = false ∧ y = false := by cases x <;> cases y <;> simp_all
theorem r_crew_l (D : dT) {P h0 : Nat} (hP : D 379 5 = nI P) (hP10 : P ≤ 10) (hH : D 379 3 = nI h0) (hH6 : h0 ≤ 6) (x k b load : Int32) : ∀ h fuel c, cntB c 31 + h = h0 → h + 1 < fuel → ¬ load ≤ strV (D 379) P c → F_X6_crewFor_28 fuel x k b c load D = some (grd (D 379) P b load h c, D) := by
  intro h
  induction h with
  | zero =>
    intro fuel c hc hf hl
    obtain ⟨f, rfl⟩ := Nat.exists_eq_add_of_lt hf
    rw [show 0 + 1 + f + 1 = (f + 1) + 1 by omega, F_X6_crewFor_28, r_str D hP hP10, bd_some, if_neg hl, r_stg D hP hP10, bd_some]
    by_cases h6 : stgV (D 379) P (b ||| c) = -6
    · rw [if_pos h6]; rfl
    · rw [if_neg h6, r_ones, bd_some, if_pos c3, t3, hH, if_pos (by unfold onesV; rw [show cntB c 31 = h0 by omega])]; rfl
  | succ h ih =>
    intro fuel c hc hf hl
    obtain ⟨f, rfl⟩ := Nat.exists_eq_add_of_lt hf
    have hone : ¬ onesV c = nI h0 := by
      unfold onesV
      rw [nI_eq (by have := cnt_le c 31; omega) (by omega)]
      omega
    rw [show h + 1 + 1 + f + 1 = (h + 2 + f) + 1 by omega, F_X6_crewFor_28, r_str D hP hP10, bd_some, if_neg hl, r_stg D hP hP10, bd_some, grd_s]
    by_cases h6 : stgV (D 379) P (b ||| c) = -6
    · rw [if_pos h6, if_pos h6]
    · rw [if_neg h6, if_neg h6, r_ones, bd_some, if_pos c3, t3, hH, if_neg hone]
      rcases stgU_in (D 379) (b ||| c) P hP10 with hq | ⟨q, hq1, hq2, hq3⟩
      · exact absurd hq h6
      · have e : stgV (D 379) P (b ||| c) = nI q := hq2
        rw [e]
        rw [b_or] at hq3
        have hcn := cnt_or c (by omega : q < 32) (or_f hq3).2 31 (by omega)
        rw [if_pos (by omega)] at hcn
        by_cases h9 : load ≤ strV (D 379) P (c ||| ((1 : Int32) <<< (nI q &&& 31)))
        · rw [if_pos h9, show h + 2 + f = (h + 1 + f) + 1 by omega, F_X6_crewFor_28, r_str D hP hP10, bd_some, if_pos h9]
        · rw [if_neg h9]
          exact ih _ _ (by rw [hcn]; omega) (by omega) h9
def crewV (s : Nat → Int32) (P J j : Nat) (k : Int32) : Int32 :=
  if canV s J j k then grd s P (busyV s J) (loadV s j k) (s 3).toNatClampNeg 0 else -6
theorem bt_z (i : Nat) : bt 0 i = false := b_0 i
theorem strV_0 (s : Nat → Int32) : ∀ n, strU s 0 n = 0 := by
  intro n
  induction n with
  | zero => rfl
  | succ n ih =>
    rw [strU_s, ih, bt_z, if_neg (by decide)]
    rfl
theorem cnt_0 : ∀ n, cntB 0 n = 0 := by
  intro n
  induction n with
  | zero => rfl
  | succ n ih => rw [cntB_s, ih, bt_z]; rfl
theorem r_crew (D : dT) {P J h0 : Nat} (hP : D 379 5 = nI P) (hP10 : P ≤ 10) (hJ : D 379 6 = nI J) (h16 : J ≤ 16) (hH : D 379 3 = nI h0) (hH6 : h0 ≤ 6) {x k : Int32} (j : Nat) (hx : x = nI j) (hj : j < 16) (hk : k = -6 ∨ inR k 3) (hl : 0 < loadV (D 379) j k) : F_X6_crewFor x k D = some (crewV (D 379) P J j k, D) := by
  unfold F_X6_crewFor crewV
  rw [r_can2 D hJ h16 j hx hj hk, bd_some]
  by_cases h5 : canV (D 379) J j k
  · rw [if_pos h5, if_neg (by decide), if_pos h5, r_busy D hJ h16, bd_some, r_loadBy D j hx hj, bd_some]
    rw [hH, nI_clamp (by omega)]
    exact r_crew_l D hP hP10 hH hH6 x k _ _ h0 lim 0 (by rw [cnt_0]; omega) (lim_lt (by omega)) (by unfold strV; rw [strV_0]; exact Int32.not_le.mpr hl)
  · rw [if_neg h5, if_pos rfl, if_neg h5]
/-- the straps with the fewest people: after k tries -/
def kdV (k : Nat) : Int32 := if k = 0 then -6 else nI (k - 1)
def stpU (s : Nat → Int32) (P J j : Nat) : Nat → Int32 × Int32
  | 0 => (-6, 0)
  | k + 1 => if ¬ crewV s P J j (kdV k) = -6 ∧ ((stpU s P J j k).1 = -6 ∨ onesV (crewV s P J j (kdV k)) < (stpU s P J j k).2) then ((if k = 0 then 3 else nI (k - 1)), onesV (crewV s P J j (kdV k))) else stpU s P J j k
theorem stpU_p (s : Nat → Int32) (P J j k : Nat) (h : ¬ crewV s P J j (kdV k) = -6 ∧ ((stpU s P J j k).1 = -6 ∨ onesV (crewV s P J j (kdV k)) < (stpU s P J j k).2)) : stpU s P J j (k + 1) = ((if k = 0 then 3 else nI (k - 1)), onesV (crewV s P J j (kdV k))) := if_pos h
theorem stpU_n (s : Nat → Int32) (P J j k : Nat) (h : ¬ (¬ crewV s P J j (kdV k) = -6 ∧ ((stpU s P J j k).1 = -6 ∨ onesV (crewV s P J j (kdV k)) < (stpU s P J j k).2))) : stpU s P J j (k + 1) = stpU s P J j k := if_neg h
theorem r_stp_l (D : dT) {P J h0 : Nat} (hP : D 379 5 = nI P) (hP10 : P ≤ 10) (hJ : D 379 6 = nI J) (h16 : J ≤ 16) (hH : D 379 3 = nI h0) (hH6 : h0 ≤ 6) {x : Int32} (j : Nat) (hx : x = nI j) (hj : j < 16) (hl : ∀ k, k = -6 ∨ inR k 3 → 0 < loadV (D 379) j k) : ∀ m k fuel, k + m = 4 → m < fuel → F_X6_strapsFor_8 fuel x (stpU (D 379) P J j k).1 (stpU (D 379) P J j k).2 (nI k) D = some ((stpU (D 379) P J j 4).1, D) := by
  intro m
  induction m with
  | zero =>
    intro k fuel hk hf
    obtain ⟨f, rfl⟩ := Nat.exists_eq_add_of_lt hf
    rw [show 0 + f + 1 = f + 1 by omega, F_X6_strapsFor_8, show k = 4 by omega, if_pos (by decide)]
  | succ m ih =>
    intro k fuel hk hf
    obtain ⟨f, rfl⟩ := Nat.exists_eq_add_of_lt hf
    have hi := ih (k + 1) (m + 1 + f) (by omega) (by omega)
    have hkd : kdV k = -6 ∨ inR (kdV k) 3 := by
      unfold kdV
      by_cases h : k = 0
      · rw [if_pos h]; exact Or.inl rfl
      · rw [if_neg h]; exact Or.inr (inRn (by omega) (by omega))
    have hc := r_crew D hP hP10 hJ h16 hH hH6 j hx hj hkd (hl _ hkd)
    have hk0 : (nI k = 0) = (k = 0) := propext (nI_eq (b := 0) (by omega) (by omega))
    have key : F_X6_strapsFor_30 x (fun v2_ v3_ v4_ D_ => F_X6_strapsFor_8 (m + 1 + f) x v2_ v3_ v4_ D_) (stpU (D 379) P J j k).1 (stpU (D 379) P J j k).2 (nI k) (kdV k) x D = some ((stpU (D 379) P J j 4).1, D) := by
      unfold F_X6_strapsFor_30 F_X6_strapsFor_61 F_X6_strapsFor_57 F_X6_strapsFor_62 F_X6_strapsFor_86 F_X6_strapsFor_101
      rw [hc, bd_some, nI_1]
      have z1 : ¬ (1 : Int32) = 0 := by decide
      simp only [if_true, z1, if_false, hk0]
      by_cases h1 : crewV (D 379) P J j (kdV k) = -6
      · rw [if_pos h1, ← hi, stpU_n _ _ _ _ _ (fun z => z.1 h1)]
      · rw [if_neg h1]
        have hup : (stpU (D 379) P J j k).1 = -6 ∨ onesV (crewV (D 379) P J j (kdV k)) < (stpU (D 379) P J j k).2 → (if k = 0 then bd (F_X6_ones (crewV (D 379) P J j (kdV k)) D) (fun r1 D2 => F_X6_strapsFor_8 (m + 1 + f) x 3 r1 (nI (k + 1)) D2) else bd (F_X6_ones (crewV (D 379) P J j (kdV k)) D) (fun r1 D2 => F_X6_strapsFor_8 (m + 1 + f) x (nI k - 1) r1 (nI (k + 1)) D2)) = some ((stpU (D 379) P J j 4).1, D) := by
          intro h2
          rw [stpU_p _ _ _ _ _ ⟨h1, h2⟩] at hi
          rw [r_ones, bd_some, bd_some]
          by_cases h : k = 0
          · rw [if_pos h] at hi ⊢
            exact hi
          · rw [if_neg h] at hi ⊢
            rw [show nI k - 1 = nI (k - 1) from pk_sub (b := 1) (by omega)]
            exact hi
        by_cases h2 : (stpU (D 379) P J j k).1 = -6
        · rw [if_pos h2]; exact hup (Or.inl h2)
        · rw [if_neg h2, r_ones, bd_some]
          by_cases h3 : (stpU (D 379) P J j k).2 ≤ onesV (crewV (D 379) P J j (kdV k))
          · rw [if_pos h3, ← hi, stpU_n _ _ _ _ _ (fun z => z.2.elim h2 (fun z => Int32.not_le.mpr z h3))]
          · rw [if_neg h3]
            exact hup (Or.inr (Int32.not_le.mp h3))
    rw [F_X6_strapsFor_8, if_neg (by rw [show (4 : Int32) = nI 4 from rfl]; exact nI_ge (by omega) (by omega))]
    by_cases h : k = 0
    · rw [if_pos (by rw [hk0]; exact h)]
      have e : kdV k = -6 := by unfold kdV; rw [if_pos h]
      rw [e] at key
      exact key
    · rw [if_neg (by rw [hk0]; exact h)]
      have e : kdV k = nI k - 1 := by unfold kdV; rw [if_neg h]; exact (pk_sub (b := 1) (by omega)).symm
      rw [e] at key
      exact key
def stpV (s : Nat → Int32) (P J j : Nat) : Int32 := (stpU s P J j 4).1
theorem r_stp (D : dT) {P J h0 : Nat} (hP : D 379 5 = nI P) (hP10 : P ≤ 10) (hJ : D 379 6 = nI J) (h16 : J ≤ 16) (hH : D 379 3 = nI h0) (hH6 : h0 ≤ 6) {x : Int32} (j : Nat) (hx : x = nI j) (hj : j < 16) (hl : ∀ k, k = -6 ∨ inR k 3 → 0 < loadV (D 379) j k) : F_X6_strapsFor x D = some (stpV (D 379) P J j, D) :=
  r_stp_l D hP hP10 hJ h16 hH hH6 j hx hj hl 4 0 lim (by omega) (lim_lt (by omega))
/-- a beginning -/
def begV (s : Nat → Int32) (j : Nat) (c k : Int32) : Nat → Int32 := upd (upd (upd (upd s (52 + 12 * j + 6) (loadV s j k)) (52 + 12 * j + 7) c) (52 + 12 * j + 8) k) (52 + 12 * j + 5) 1
theorem r_begins (D : dT) {x : Int32} (c k : Int32) (j : Nat) (hx : x = nI j) (hj : j < 16) : F_X6_begins x c k D = some (loadV (D 379) j k, ws D (begV (D 379) j c k)) := by
  unfold F_X6_begins
  rw [r_loadBy D j hx hj, bd_some, r_lay _ 6 j 6 hx rfl hj (by omega), bd_some, r_lay _ 7 j 7 hx rfl hj (by omega), bd_some, r_lay _ 8 j 8 hx rfl hj (by omega), bd_some, r_lay _ 5 j 5 hx rfl hj (by omega), bd_some]
  rw [ws_up D, ws_up (ws D _), ws_s, ws_ws, ws_up (ws D _), ws_s, ws_ws, ws_up (ws D _), ws_s, ws_ws]
  rfl
