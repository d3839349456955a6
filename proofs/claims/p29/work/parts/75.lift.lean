/-! no crew lifts more than told -/
/-- behind the sum -/
def lfT (k4 : Int32 → Int32 → dT → Option (Int32 × dT)) (v2 v3 : Int32) (D : dT) : Option (Int32 × dT) := bd (F_X5_ofJob v2 (6 : Int32) D) (fun (r3 : Int32) (D4 : dT) => if v3 < r3 then F_L_isLifted_103 k4 v2 v3 D4 else bd (F_X5_ofJob v2 (9 : Int32) D4) (fun (r5 : Int32) (D6 : dT) => if r5 = 0 then F_L_isLifted_104 k4 v2 v3 (1 : Int32) D6 else F_L_isLifted_103 k4 v2 v3 D6))
theorem lf_32 {D : dT} {s : Nat → Int32} {P J j : Nat} (hF : FR D 19 s P J) (hS : SI s P J) (hj : j < J) (k4 : Int32 → Int32 → dT → Option (Int32 × dT)) : ∀ m k fu, k + m = P → m < fu → F_L_isLifted_32 fu k4 (nI j) (strU s (CRW s j) k) (nI k) D = lfT k4 (nI j) (strV s P (CRW s j)) D := by
  have h10 := SI_P hS
  intro m
  induction m with
  | zero =>
    intro k fu hk hf
    obtain ⟨f, rfl⟩ := Nat.exists_eq_add_of_lt hf
    rw [show 0 + f + 1 = f + 1 by omega, F_L_isLifted_32, a_c1 hF hS, bd_some, if_pos (nI_le (by omega) (by omega)), show k = P by omega]
    rfl
  | succ m ih =>
    intro k fu hk hf
    obtain ⟨f, rfl⟩ := Nat.exists_eq_add_of_lt hf
    have hi := ih (k + 1) (m + 1 + f) (by omega) (by omega)
    have a7 : F_X5_ofJob (nI j) 7 D = some (CRW s j, D) := a_oj hF hS hj (q := 7) (by omega)
    have b1 : F_X5_of (nI k) 1 D = some (s (12 + 4 * k + 1), D) := a_of hF hS (p := k) (by omega) (w := 1) (by omega)
    rw [F_L_isLifted_32, a_c1 hF hS, bd_some, if_neg (nI_ge (by omega) (by omega)), a7, bd_some, sh_bit _ k (by omega)]
    unfold F_L_isLifted_70
    rw [strU_s] at hi
    cases hb : bt (CRW s j) k
    · rw [hb, if_neg (by decide)] at hi
      rw [if_neg (show ¬ (false = true) by decide), if_neg (show ¬ (0 : Int32) = 1 by decide), nI_1]
      exact hi
    · rw [hb, if_pos rfl] at hi
      rw [if_pos (show true = true from rfl), if_pos (show (1 : Int32) = 1 from rfl), b1, bd_some, nI_1]
      exact hi
/-- the hour, and what is asked behind it -/
theorem lf_132 {D : dT} {s : Nat → Int32} {u : Nat → Nat → Int32} {c P J h j : Nat} (hR : GR D s u c) (hS : SI s P J) (hX : XI s J) (h4 : s 4 = nI h) (hh : h ≤ 9000) (hj : j < J) (h1 : HOW s j = 1) (k4 : Int32 → Int32 → dT → Option (Int32 × dT)) :
    ∃ D' u' c', lfT k4 (nI j) (strV s P (CRW s j)) D = k4 1 (nI (j + 1)) D' ∧ GR D' s u' c' := by
  have hF := FS_at hR.1 hS
  have h10 := SI_P hS
  have h16 := SI_J hS
  obtain ⟨v0, ho⟩ := p_hrs (k := 1) hS h4 hh (by omega) (by omega)
  obtain ⟨D1, p1, p2⟩ := chgR v0 ho hR
  have p1 : F_X5_pass 1 D = some ((pasU s P J 1).1, D1) := p1
  have hS1 := SI_pas hS 1
  have hF1 := FS_at p2.1 hS1
  obtain ⟨m, hm⟩ : ∃ m, recN c = m + 1 := ⟨recN c - 1, by unfold recN; split <;> omega⟩
  have p3 := p2
  rw [hm] at p3
  obtain ⟨D2, u1, u2⟩ := g_undo p3
  rw [pushU_l u s hm] at u2
  refine ⟨D2, pushU u s c, m, ?_, u2⟩
  -- the row of the job behind the hour
  have hrow : ∀ q, q < 11 → (pasU s P J 1).2 (52 + 12 * j + q) = (wrkV s P j).2 (52 + 12 * j + q) := fun q hq => ((EQ9_gob hS hj h1 (EQ9_r P j s)).2.2.1 q hq).symm
  generalize hs1 : (pasU s P J 1).2 = s1 at *
  have q2 : F_X5_ofJob (nI j) 2 D = some (s (52 + 12 * j + 2), D) := a_oj hF hS hj (q := 2) (by omega)
  have q9 : F_X5_ofJob (nI j) 9 D = some (s (52 + 12 * j + 9), D) := a_oj hF hS hj (q := 9) (by omega)
  have q10 : F_X5_ofJob (nI j) 10 D = some (s (52 + 12 * j + 10), D) := a_oj hF hS hj (q := 10) (by omega)
  have r2 : F_X5_ofJob (nI j) 2 D1 = some (s1 (52 + 12 * j + 2), D1) := a_oj hF1 hS1 hj (q := 2) (by omega)
  have r5 : F_X5_ofJob (nI j) 5 D1 = some (s1 (52 + 12 * j + 5), D1) := a_oj hF1 hS1 hj (q := 5) (by omega)
  have r10 : F_X5_ofJob (nI j) 10 D1 = some (s1 (52 + 12 * j + 10), D1) := a_oj hF1 hS1 hj (q := 10) (by omega)
  have fin : F_L_isLifted_241 k4 (nI j) 1 D1 = k4 1 (nI (j + 1)) D2 := by
    unfold F_L_isLifted_241
    rw [u1, bd_some, nI_1]
  obtain ⟨dl, _, d60, ed⟩ := (hS.2.2.2.1 j hj).1.2.2.2.2.2
  obtain ⟨lf, l1, l9, el⟩ := (hS.2.2.2.1 j hj).2.2.2.1 (Or.inr h1)
  have w0 : s (52 + 12 * j + 9) ≤ 0 ↔ s (52 + 12 * j + 9) = 0 := by
    rw [ed, show (0 : Int32) = nI 0 from rfl, nI_leI (by omega) (by omega), nI_eq (by omega) (by omega)]; omega
  have hr2 := hrow 2 (by omega)
  have hr5 : s1 (52 + 12 * j + 5) = HOW (wrkV s P j).2 j := hrow 5 (by omega)
  have hr10 := hrow 10 (by omega)
  have end0 : ∀ can pau : Int32, (s1 (52 + 12 * j + 2) = s (52 + 12 * j + 2) - (if can = 0 then 0 else 1)) → (s1 (52 + 12 * j + 10) = s (52 + 12 * j + 10) + (if pau = 0 then 0 else 1)) → (can = 0 ∧ ¬ s1 (52 + 12 * j + 5) = 2 ∨ ¬ can = 0 ∧ ¬ s (52 + 12 * j + 2) = 1 ∧ ¬ s1 (52 + 12 * j + 5) = 2 ∨ ¬ can = 0 ∧ s (52 + 12 * j + 2) = 1 ∧ s1 (52 + 12 * j + 5) = 2) → F_L_isLifted_132 k4 (nI j) can pau D = k4 1 (nI (j + 1)) D2 := by
    intro can pau e2 e10 e5
    unfold F_L_isLifted_132 F_L_isLifted_175 F_L_isLifted_198 F_L_isLifted_217 F_L_isLifted_232 F_L_isLifted_233
    rw [q2, bd_some, q10, bd_some, p1, bd_some, r2, bd_some]
    by_cases z : can = 0
    · rw [if_pos z] at e2
      have n5 : ¬ s1 (52 + 12 * j + 5) = 2 := by
        rcases e5 with e | e | e
        · exact e.2
        · exact absurd z e.1
        · exact absurd z e.1
      by_cases y : pau = 0
      · rw [if_pos y] at e10
        rw [if_pos z, if_pos e2, r10, bd_some, if_pos y, if_pos e10, r5, bd_some, if_neg n5, if_pos z, if_pos (show (0 : Int32) = 0 from rfl), fin]
      · rw [if_neg y] at e10
        rw [if_pos z, if_pos e2, r10, bd_some, if_neg y, if_pos e10, r5, bd_some, if_neg n5, if_pos z, if_pos (show (0 : Int32) = 0 from rfl), fin]
    · rw [if_neg z] at e2
      rcases e5 with e | e | e
      · exact absurd e.1 z
      · by_cases y : pau = 0
        · rw [if_pos y] at e10
          rw [if_neg z, if_pos e2, r10, bd_some, if_pos y, if_pos e10, r5, bd_some, if_neg e.2.2, if_neg z, if_neg e.2.1, if_pos (show (0 : Int32) = 0 from rfl), fin]
        · rw [if_neg y] at e10
          rw [if_neg z, if_pos e2, r10, bd_some, if_neg y, if_pos e10, r5, bd_some, if_neg e.2.2, if_neg z, if_neg e.2.1, if_pos (show (0 : Int32) = 0 from rfl), fin]
      · by_cases y : pau = 0
        · rw [if_pos y] at e10
          rw [if_neg z, if_pos e2, r10, bd_some, if_pos y, if_pos e10, r5, bd_some, if_pos e.2.2, if_neg z, if_pos e.2.1, if_pos (show (1 : Int32) = 1 from rfl), fin]
        · rw [if_neg y] at e10
          rw [if_neg z, if_pos e2, r10, bd_some, if_neg y, if_pos e10, r5, bd_some, if_pos e.2.2, if_neg z, if_pos e.2.1, if_pos (show (1 : Int32) = 1 from rfl), fin]
  have hc : ¬ CRW s j = 0 → F_X5_ofJob (nI j) 6 D = some (s (52 + 12 * j + 6), D) := fun z => by
    have := a_oj hF hS hj (q := 6) (by omega)
    rw [show ojV s j 6 = s (52 + 12 * j + 6) from if_neg z] at this
    exact this
  have a6 := hc ((hX.1 j hj).2.1 h1)
  unfold lfT
  rw [a6, bd_some]
  rcases wrk_row s h10 h1 with ⟨g9, hh5, e2, e10, _⟩ | ⟨g9, g6, hh5, e2, e10, _⟩ | ⟨g9, g6, g2, hh5, e2, e10, _⟩ | ⟨g9, g6, g2, hh5, e2, e10, _⟩
  · have d0 : ¬ s (52 + 12 * j + 9) = 0 := fun z => g9 (w0.mpr z)
    have go : F_L_isLifted_103 k4 (nI j) (strV s P (CRW s j)) D = F_L_isLifted_132 k4 (nI j) 0 0 D := by
      unfold F_L_isLifted_103 F_L_isLifted_104 F_L_isLifted_131
      rw [a6, bd_some]
      by_cases y : s (52 + 12 * j + 6) ≤ strV s P (CRW s j)
      · rw [if_pos y]
      · rw [if_neg y, q9, bd_some, if_neg d0]
    have en := end0 0 0 (by rw [if_pos rfl, Int32.sub_zero, hr2, e2]) (by rw [if_pos rfl, Int32.add_zero, hr10, e10]) (Or.inl ⟨rfl, by rw [hr5, hh5]; decide⟩)
    by_cases y : strV s P (CRW s j) < s (52 + 12 * j + 6)
    · rw [if_pos y, go, en]
    · rw [if_neg y, q9, bd_some, if_neg d0, go, en]
  · have d0 : s (52 + 12 * j + 9) = 0 := w0.mp g9
    have go : F_L_isLifted_103 k4 (nI j) (strV s P (CRW s j)) D = F_L_isLifted_132 k4 (nI j) 0 1 D := by
      unfold F_L_isLifted_103 F_L_isLifted_104 F_L_isLifted_131
      rw [a6, bd_some, if_neg g6, q9, bd_some, if_pos d0]
    rw [if_pos (Int32.not_le.mp g6), go]
    exact end0 0 1 (by rw [if_pos rfl, Int32.sub_zero, hr2, e2]) (by rw [if_neg o10, hr10, e10]) (Or.inl ⟨rfl, by rw [hr5, hh5]; decide⟩)
  · have d0 : s (52 + 12 * j + 9) = 0 := w0.mp g9
    have go : F_L_isLifted_104 k4 (nI j) (strV s P (CRW s j)) 1 D = F_L_isLifted_132 k4 (nI j) 1 0 D := by
      unfold F_L_isLifted_104 F_L_isLifted_131
      rw [a6, bd_some, if_pos g6]
    rw [if_neg (Int32.not_lt.mpr g6), q9, bd_some, if_pos d0, go]
    exact end0 1 0 (by rw [if_neg o10, hr2, e2]) (by rw [if_pos rfl, Int32.add_zero, hr10, e10]) (Or.inr (Or.inl ⟨o10, fun z => g2 (by rw [z]; decide), by rw [hr5, hh5]; decide⟩))
  · have d0 : s (52 + 12 * j + 9) = 0 := w0.mp g9
    have go : F_L_isLifted_104 k4 (nI j) (strV s P (CRW s j)) 1 D = F_L_isLifted_132 k4 (nI j) 1 0 D := by
      unfold F_L_isLifted_104 F_L_isLifted_131
      rw [a6, bd_some, if_pos g6]
    have g1 : s (52 + 12 * j + 2) = 1 := by
      rw [el, show (1 : Int32) = nI 1 from rfl, nI_sub l1, show (0 : Int32) = nI 0 from rfl, nI_eq (by omega) (by omega)] at g2
      rw [el, show lf = 1 by omega]; rfl
    rw [if_neg (Int32.not_lt.mpr g6), q9, bd_some, if_pos d0, go]
    exact end0 1 0 (by rw [if_neg o10, hr2, e2]) (by rw [if_pos rfl, Int32.add_zero, hr10, e10]) (Or.inr (Or.inr ⟨o10, g1, by rw [hr5, hh5]⟩))
theorem lf_4 {s : Nat → Int32} {P J h : Nat} (hS : SI s P J) (hX : XI s J) (h4 : s 4 = nI h) (hh : h ≤ 9000) : ∀ m k fu (D : dT) (u : Nat → Nat → Int32) (c : Nat), k + m = J → m < fu → GR D s u c → ∃ D' u' c', F_L_isLifted_4 fu 1 (nI k) D = some (1, D') ∧ GR D' s u' c' := by
  have h10 := SI_P hS
  have h16 := SI_J hS
  intro m
  induction m with
  | zero =>
    intro k fu D u c hk hf hR
    obtain ⟨f, rfl⟩ := Nat.exists_eq_add_of_lt hf
    refine ⟨D, u, c, ?_, hR⟩
    rw [show 0 + f + 1 = f + 1 by omega, F_L_isLifted_4, a_c3 (FS_at hR.1 hS) hS, bd_some, if_pos (nI_le (by omega) (by omega)), if_pos (Or.inr rfl)]
  | succ m ih =>
    intro k fu D u c hk hf hR
    obtain ⟨f, rfl⟩ := Nat.exists_eq_add_of_lt hf
    have hF := FS_at hR.1 hS
    have a5 : F_X5_ofJob (nI k) 5 D = some (HOW s k, D) := a_oj hF hS (j := k) (by omega) (q := 5) (by omega)
    rw [F_L_isLifted_4, a_c3 hF hS, bd_some, if_neg (nI_ge (by omega) (by omega)), if_neg o10, a5, bd_some]
    by_cases h1 : HOW s k = 1
    · rw [if_pos h1]
      have x := lf_32 hF hS (j := k) (by omega) (fun (v1_ : Int32) (v2_ : Int32) (D_ : dT) => F_L_isLifted_4 (m + 1 + f) v1_ v2_ D_) P 0 lim (by omega) (lim_lt (by omega))
      obtain ⟨D1, u1, c1, e1, r1⟩ := lf_132 hR hS hX h4 hh (j := k) (by omega) h1 (fun (v1_ : Int32) (v2_ : Int32) (D_ : dT) => F_L_isLifted_4 (m + 1 + f) v1_ v2_ D_)
      obtain ⟨D2, u2, c2, e2, r2⟩ := ih (k + 1) (m + 1 + f) D1 u1 c1 (by omega) (by omega) r1
      exact ⟨D2, u2, c2, (x.trans e1).trans e2, r2⟩
    · rw [if_neg h1, nI_1]
      exact ih (k + 1) (m + 1 + f) D u c (by omega) (by omega) hR
theorem lf_all {D : dT} {s : Nat → Int32} {u : Nat → Nat → Int32} {c n : Nat} (hR : GR D s u c) (hK : KK s n) (hn : n ≤ 9000) : ∃ D' u' c', F_L_isLifted D = some (1, D') ∧ GR D' s u' c' := by
  obtain ⟨P, J, h, hS, hX, h4, hh⟩ := hK
  exact lf_4 hS hX h4 (by omega) J 0 lim D u c (by omega) (lim_lt (by have := SI_J hS; omega)) hR
