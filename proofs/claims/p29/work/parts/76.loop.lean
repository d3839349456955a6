/-! the law's turns -/
theorem cmp_0 (x : Int64) : lg_cmp x x = 0 := by
  unfold lg_cmp
  rw [if_neg (Int64.lt_irrefl), if_pos rfl]
theorem c_cell {sL : Nat} (hL : sL ≤ 3072) (sX : Nat → Int32) {k : Nat} (hk : k < 1000) (D : dT) : ∃ r, F_L_cell sL sX (nI k) D = some (r, D) := by
  unfold F_L_cell
  by_cases c : (Int32.ofNat sL) ≤ nI k
  · exact ⟨_, if_pos c⟩
  · have : k < sL := by
      rcases Nat.lt_or_ge k sL with h | h
      · exact h
      · exact absurd (nI_le (a := sL) (b := k) h (by omega)) c
    rw [if_neg c, if_pos (inRn this (by omega))]
    exact ⟨_, rfl⟩
/-- behind the act: holds, and every third time isLifted -/
theorem lw_232 {sL : Nat} {sX : Nat → Int32} {D : dT} {s : Nat → Int32} {u : Nat → Nat → Int32} {c n k : Nat} (hR : GR D s u c) (hK : KK s n) (hn : n ≤ 9000) (k39 : Int32 → dT → Option (Int32 × dT)) : ∃ D' u' c', F_L_law_232 sL sX k39 (nI k) D = k39 (nI (k + 1)) D' ∧ GR D' s u' c' := by
  unfold F_L_law_232
  rw [h_all hR.1 hK, bd_some, if_neg o10]
  by_cases c3 : (nI k - nI k / (3 : Int32) * (3 : Int32)) = (2 : Int32)
  · rw [if_pos c3]
    obtain ⟨D1, u1, c1, e1, r1⟩ := lf_all hR hK hn
    rw [e1, bd_some, if_neg o10, nI_1]
    exact ⟨D1, u1, c1, rfl, r1⟩
  · rw [if_neg c3, nI_1]
    exact ⟨D, u, c, rfl, hR⟩
theorem lw_70 {sL : Nat} (hL : sL ≤ 3072) {sX : Nat → Int32} {D : dT} {s : Nat → Int32} {u : Nat → Nat → Int32} {c n k : Nat} (hR : GR D s u c) (hK : KK s n) (hn : n ≤ 8000) (hk : k < 100) (v : Int32) (k39 : Int32 → dT → Option (Int32 × dT)) : ∃ D' s' u' c', F_L_law_70 sL sX k39 (nI k) v D = k39 (nI (k + 1)) D' ∧ GR D' s' u' c' ∧ KK s' (n + 8) := by
  obtain ⟨P, J, h, hS, hX, h4, hh⟩ := id hK
  have told : ∀ E, FS E 19 s → F_L_told E = some (toldV s P J, E) := fun E hE => told_v (FS_at hE hS) hS
  obtain ⟨w, ew⟩ := c_cell hL sX (k := 2 * k + 1) (by omega) D
  have ec : ((2 : Int32) * nI k) + (1 : Int32) = nI (2 * k + 1) := by
    rw [show (2 : Int32) = nI 2 from rfl, nI_mul, nI_1]
  have c15 : F_X5_count (15 : Int32) D = some (nI c, D) := by
    rw [a_c15]
    obtain ⟨_, _, ⟨_, _, _, h2, _⟩, _⟩ := hR
    rw [h2]
  unfold F_L_law_70
  rw [ec, ew, bd_some, told D hR.1, bd_some, c15, bd_some]
  rcases act_alt hK (by omega) v w with ⟨e, he, ho⟩ | ⟨r, s', r0, hK', ho⟩
  · obtain ⟨D1, a1, r1⟩ := ho D u c hR
    have d15 : F_X5_count (15 : Int32) D1 = some (nI c, D1) := by
      rw [a_c15]
      obtain ⟨_, _, ⟨_, _, _, h2, _⟩, _⟩ := r1
      rw [h2]
    rw [a1, bd_some, told D1 r1.1, bd_some, if_neg (Int32.not_le.mpr he), cmp_0, if_pos rfl, d15, bd_some, if_pos rfl]
    unfold F_L_law_165
    rw [if_pos he]
    obtain ⟨D2, u2, c2, e2, r2⟩ := lw_232 (sL := sL) (sX := sX) (k := k) r1 hK (by omega) k39
    exact ⟨D2, s, u2, c2, e2, r2, KK_le hK (by omega)⟩
  · obtain ⟨P', J', h', hS', hX', h4', hh'⟩ := id hK'
    have told' : ∀ E, FS E 19 s' → F_L_told E = some (toldV s' P' J', E) := fun E hE => told_v (FS_at hE hS') hS'
    obtain ⟨D1, a1, r1⟩ := ho D u c hR
    have d15 : F_X5_count (15 : Int32) D1 = some (nI (recN c), D1) := by
      rw [a_c15]
      obtain ⟨_, _, ⟨_, _, _, h2, _⟩, _⟩ := r1
      rw [h2]
    have hc : c ≤ 6 := hR.2.1
    rw [a1, bd_some, told' D1 r1.1, bd_some, if_pos (Int32.not_lt.mp r0), d15, bd_some]
    have go : ∀ x : Int32, x = nI (recN c) → ∃ D' t2 u' c', F_L_law_160 sL sX k39 (nI k) v w (toldV s P J) r (toldV s' P' J') x (nI (recN c)) D1 = k39 (nI (k + 1)) D' ∧ GR D' t2 u' c' ∧ KK t2 (n + 8) := by
      intro x hx
      unfold F_L_law_160 F_L_law_165
      rw [if_pos hx.symm, if_neg r0]
      by_cases b : ((v >>> ((10 : Int32) &&& 31)) &&& (1 : Int32)) = 0
      · obtain ⟨m, hm⟩ : ∃ m, recN c = m + 1 := ⟨recN c - 1, by unfold recN; split <;> omega⟩
        have r3 := r1
        rw [hm] at r3
        obtain ⟨D2, x1, x2⟩ := g_undo r3
        rw [pushU_l u s hm] at x2
        obtain ⟨D3, y1, y2⟩ := ho D2 _ _ x2
        rw [if_pos b, d15, bd_some, x1, bd_some, hm, if_pos (nI_pred m).symm, told D2 x2.1, bd_some, cmp_0, if_pos rfl, y1, bd_some, if_pos rfl, told' D3 y2.1, bd_some, cmp_0, if_pos rfl]
        obtain ⟨D4, u4, c4, e4, r4⟩ := lw_232 (sL := sL) (sX := sX) (k := k) y2 hK' (by omega) k39
        exact ⟨D4, s', u4, c4, e4, r4, hK'⟩
      · rw [if_neg b]
        obtain ⟨D4, u4, c4, e4, r4⟩ := lw_232 (sL := sL) (sX := sX) (k := k) r1 hK' (by omega) k39
        exact ⟨D4, s', u4, c4, e4, r4, hK'⟩
    by_cases c6 : (6 : Int32) ≤ nI c
    · have e6 : c = 6 := by
        have := (nI_leI (a := 6) (b := c) (by omega) (by omega)).mp c6
        omega
      rw [if_pos c6]
      exact go 6 (by rw [show recN c = 6 from if_pos e6]; rfl)
    · have e6 : ¬ c = 6 := fun z => c6 (by rw [z]; decide)
      rw [if_neg c6]
      exact go (nI c + 1) (by rw [nI_1, show recN c = c + 1 from if_neg e6])
theorem lw_39 {sL : Nat} (hL : sL ≤ 3072) {sX : Nat → Int32} : ∀ m k fu (D : dT) (s : Nat → Int32) (u : Nat → Nat → Int32) (c : Nat), k + m = 34 → m < fu → GR D s u c → KK s (8 * k) → ∃ D', F_L_law_39 fu sL sX (nI k) D = some (1, D') := by
  intro m
  induction m with
  | zero =>
    intro k fu D s u c hk hf hR hK
    obtain ⟨f, rfl⟩ := Nat.exists_eq_add_of_lt hf
    obtain ⟨D', a, b⟩ := g_rest hR
    refine ⟨D', ?_⟩
    rw [show 0 + f + 1 = f + 1 by omega, F_L_law_39, if_pos (show (34 : Int32) ≤ nI k from nI_le (a := 34) (by omega) (by omega)), a, bd_some, if_pos rfl, b, bd_some, if_pos rfl]
  | succ m ih =>
    intro k fu D s u c hk hf hR hK
    obtain ⟨f, rfl⟩ := Nat.exists_eq_add_of_lt hf
    have go : ∀ v, ∃ D', F_L_law_70 sL sX (fun (v2_ : Int32) (D_ : dT) => F_L_law_39 (m + 1 + f) sL sX v2_ D_) (nI k) v D = some (1, D') := by
      intro v
      obtain ⟨D1, s1, u1, c1, e1, r1, k1⟩ := lw_70 hL (sX := sX) hR hK (by omega) (k := k) (by omega) v (fun (v2_ : Int32) (D_ : dT) => F_L_law_39 (m + 1 + f) sL sX v2_ D_)
      obtain ⟨D2, e2⟩ := ih (k + 1) (m + 1 + f) D1 s1 u1 c1 (by omega) (by omega) r1 (by rw [show 8 * (k + 1) = 8 * k + 8 by omega]; exact k1)
      exact ⟨D2, e1.trans e2⟩
    rw [F_L_law_39, if_neg (show ¬ (34 : Int32) ≤ nI k from nI_ge (b := 34) (by omega) (by omega))]
    by_cases b3 : (3 : Int32) ≤ nI k
    · rw [if_pos b3]
      by_cases b5 : (5 : Int32) ≤ nI k
      · rw [if_pos b5]
        obtain ⟨w, ew⟩ := c_cell hL sX (k := 2 * k) (by omega) D
        rw [show (2 : Int32) * nI k = nI (2 * k) from nI_mul 2 k, ew, bd_some]
        exact go w
      · rw [if_neg b5]
        exact go 3
    · rw [if_neg b3]
      exact go 1
theorem lw_all {sL : Nat} (hL : sL ≤ 3072) (sX : Nat → Int32) {D : dT} {z : Nat → Int32} (h : G0 D z) (hK : KK z 0) : ∃ D', F_L_law sL sX D = some (1, D') := by
  obtain ⟨D1, a, b⟩ := g_st3 h
  obtain ⟨D2, e⟩ := lw_39 hL (sX := sX) 34 0 lim D1 z (fun _ => z) 0 (by omega) (lim_lt (by omega)) b hK
  refine ⟨D2, ?_⟩
  unfold F_L_law
  rw [g_st1 h, bd_some, if_pos rfl, g_st2 h, bd_some, if_pos rfl, a, bd_some, if_pos rfl]
  exact e
