/-! what comes -/
theorem freeU_w (s : Nat → Int32) (k w v : Int32) : ∀ n, freeU s k (w + v) n = freeU s k w n + v := by
  intro n
  induction n with
  | zero => rfl
  | succ n ih =>
    rw [freeU_s, freeU_s, ih, Int32.sub_eq_add_neg, Int32.sub_eq_add_neg, Int32.add_assoc, Int32.add_assoc, Int32.add_comm v]
theorem freeU_congr {s s' : Nat → Int32} (k w : Int32) : ∀ n, (∀ i, i < n → HOW s' i = HOW s i ∧ s' (52 + 12 * i + 8) = s (52 + 12 * i + 8)) → freeU s' k w n = freeU s k w n := by
  intro n h
  have := freeU_c (s := s) (s' := s') k w (j := n) n (fun i hi _ => h i hi)
  rw [if_neg (fun z => absurd z.1 (Nat.lt_irrefl _)), if_neg (fun z => absurd z.1 (Nat.lt_irrefl _)), Int32.add_zero, Int32.add_zero] at this
  exact this
theorem FR_hd {D D' : dT} {B : Nat} {s s' : Nat → Int32} {P J : Nat} (h : FR D B s P J) (h10 : P ≤ 10) (hD : ∀ q, B + 6 ≤ q → D' q = D q) (hs : ∀ i, 12 ≤ i → s' i = s i) (h1 : ∀ k, k < 4 → D' (B + 1) k = s' k) (h2 : ∀ k, k < 3 → D' (B + 2) k = s' (9 + k)) (h3 : ∀ k, k < 3 → D' (B + 3) k = freeV s' J k) (h4 : D' B 5 = nI P ∧ D' B 6 = nI J ∧ D' B 7 = s' 4 ∧ D' B 8 = s' 7 ∧ D' B 9 = s' 8) : FR D' B s' P J := by
  refine ⟨⟨h1, h2, h3⟩, h4, fun p hp => ?_, fun i hi q hq => ?_⟩
  · rw [hD _ (by omega), hs _ (by omega), hs _ (by omega), hs _ (by omega), hs _ (by omega)]
    refine ⟨FR_p0 h hp, FR_p1 h hp, ?_, FR_p3 h hp, FR_p4 h hp⟩
    rw [FR_p2 h hp]
    exact (jobV_congr (fun i _ => ⟨hs _ (by omega), hs _ (by omega)⟩)).symm
  · rw [hD _ (by omega), hs _ (by omega), FR_j h hi hq]
theorem SI_hd {s s' : Nat → Int32} {P J : Nat} (h : SI s P J) (hs : ∀ i, 12 ≤ i → s' i = s i) (h5 : s' 5 = nI P ∧ s' 6 = nI J) (hb : rg (s' 0) 0 50 ∧ rg (s' 1) 1 20 ∧ rg (s' 2) 0 20 ∧ rg (s' 3) 1 6 ∧ (∀ k, k < 3 → rg (s' (9 + k)) 0 9)) : SI s' P J := by
  obtain ⟨⟨a1, a2, a3, a4⟩, _, cc, d, e, f1, f2⟩ := h
  refine ⟨⟨a1, a2, h5.1, h5.2⟩, ⟨hb.1, hb.2.1, hb.2.2.1, hb.2.2.2.1, Or.inr trivial, hb.2.2.2.2⟩, ?_, ?_, ?_, ?_, ?_⟩
  · intro p hp
    rw [hs _ (by omega), hs _ (by omega)]
    exact cc p hp
  · intro i hi
    have hx := d i hi
    unfold SIj HOW CRW at hx ⊢
    rw [hs _ (by omega), hs _ (by omega), hs _ (by omega), hs _ (by omega), hs _ (by omega), hs _ (by omega), hs _ (by omega), hs _ (by omega), hs _ (by omega), hs _ (by omega)]
    exact hx
  · intro i i2 hi hi2 hne h1 h2 p hb
    unfold HOW CRW at *
    rw [hs _ (by omega)] at h1 h2 hb ⊢
    exact e i i2 hi hi2 hne h1 h2 p hb
  · intro p hp hp2 k hk
    rw [hs _ (by omega)]
    exact f1 p hp hp2 k hk
  · intro i hi hi2 k hk
    rw [hs _ (by omega)]
    exact f2 i hi hi2 k hk
/-! settings -/
theorem rg_of {x : Int32} {a b : Nat} (hb : b < 2 ^ 31) (h1 : nI a ≤ x) (h2 : x ≤ nI b) (ha : a < 2 ^ 31) : rg x a b := by
  obtain ⟨n, hn, rfl⟩ := nI_of (x := x) (fun z => by rw [lt_toInt] at z; rw [le_toInt, nI_toInt ha] at h1; rw [show (0 : Int32).toInt = 0 from rfl] at z; omega)
  exact ⟨n, (nI_leI ha hn).mp h1, (nI_leI hn hb).mp h2, rfl⟩
theorem c_set0 {D : dT} {B : Nat} {s : Nat → Int32} {P J k : Nat} {v : Int32} (h : FR D B s P J) (h10 : P ≤ 10) (hk : k < 4) (hv : sDat 1 k ≤ v ∧ v ≤ sDat 2 k) : ∃ D', F_X0_changeSetting B (nI k) v D = some (s k, D') ∧ FR D' B (upd s k v) P J ∧ off B D D' := by
  unfold F_X0_changeSetting
  have hk4 : inR (nI k) 4 := inRn hk (by omega)
  rw [c_isWithin, if_pos (show (0 : Int32) ≤ nI k ∧ nI k ≤ (4 : Int32) - 1 from ⟨nI_pos' (by omega), nI_le (b := 3) (by omega) (by omega)⟩), bd_some, if_neg (by decide)]
  simp only [if_pos hk4, nI_clamp (show k < 2 ^ 31 by omega)]
  rw [c_isWithin, if_pos hv, bd_some, if_neg (by decide), FR_set h k hk]
  have ho : ∀ q, q ≠ B + 1 → up2 D (B + 1) k v q = D q := fun q hq => up2_o _ _ _ hq
  have hn : ∀ i, i ≠ k → upd s k v i = s i := fun i hi => upd_n _ _ hi
  refine ⟨_, rfl, FR_hd h h10 (fun q hq => ho q (by omega)) (fun i hi => hn i (by omega)) (fun i hi => ?_) (fun i hi => ?_) (fun i hi => ?_) ⟨?_, ?_, ?_, ?_, ?_⟩, off_u (off_r B D) (by omega) (by omega)⟩
  · by_cases e : i = k
    · subst e; rw [up2_self, upd_s]
    · rw [up2_ne _ _ (by omega), hn i e, FR_set h i hi]
  · rw [ho _ (by omega), hn _ (by omega), FR_own h i hi]
  · rw [ho _ (by omega), FR_fre h i hi]
    exact (freeV_congr (hn _ (by omega)) (fun i _ => ⟨hn _ (by omega), hn _ (by omega)⟩)).symm
  · rw [ho _ (by omega), FR_P h]
  · rw [ho _ (by omega), FR_J h]
  · rw [ho _ (by omega), hn _ (by omega), FR_h h]
  · rw [ho _ (by omega), hn _ (by omega), FR_c h]
  · rw [ho _ (by omega), hn _ (by omega), FR_p h]
theorem c_set1 (D : dT) (B : Nat) {x v : Int32} (hx : ¬ inR x 4) : F_X0_changeSetting B x v D = some (-2, D) := by
  unfold F_X0_changeSetting
  rw [c_isWithin, if_neg (fun z => hx (by rw [inR_iff]; rw [le_toInt, le_toInt] at z; exact ⟨z.1, by have := z.2; rw [show ((4 : Int32) - 1).toInt = 3 from rfl] at this; omega⟩)), bd_some, if_pos rfl]
theorem c_set2 (D : dT) (B : Nat) {k : Nat} {v : Int32} (hk : k < 4) (hv : ¬ (sDat 1 k ≤ v ∧ v ≤ sDat 2 k)) : F_X0_changeSetting B (nI k) v D = some (-2, D) := by
  unfold F_X0_changeSetting
  have hk4 : inR (nI k) 4 := inRn hk (by omega)
  rw [c_isWithin, if_pos (show (0 : Int32) ≤ nI k ∧ nI k ≤ (4 : Int32) - 1 from ⟨nI_pos' (by omega), nI_le (b := 3) (by omega) (by omega)⟩), bd_some, if_neg (by decide)]
  simp only [if_pos hk4, nI_clamp (show k < 2 ^ 31 by omega)]
  rw [c_isWithin, if_neg hv, bd_some, if_pos rfl]
theorem SI_set {s : Nat → Int32} {P J k : Nat} {v : Int32} (h : SI s P J) (hk : k < 4) (hv : sDat 1 k ≤ v ∧ v ≤ sDat 2 k) : SI (upd s k v) P J := by
  have hn : ∀ i, i ≠ k → upd s k v i = s i := fun i hi => upd_n _ _ hi
  obtain ⟨b1, b2, b3, b4, _, b6⟩ := h.2.1
  refine SI_hd h (fun i hi => hn i (by omega)) ⟨by rw [hn _ (by omega)]; exact h.1.2.2.1, by rw [hn _ (by omega)]; exact h.1.2.2.2⟩ ⟨?_, ?_, ?_, ?_, fun q hq => by rw [hn _ (by omega)]; exact b6 q hq⟩
  · by_cases e : k = 0
    · subst e; rw [upd_s]; exact rg_of (by omega) hv.1 hv.2 (by omega)
    · rw [hn _ (by omega)]; exact b1
  · by_cases e : k = 1
    · subst e; rw [upd_s]; exact rg_of (by omega) hv.1 hv.2 (by omega)
    · rw [hn _ (by omega)]; exact b2
  · by_cases e : k = 2
    · subst e; rw [upd_s]; exact rg_of (by omega) hv.1 hv.2 (by omega)
    · rw [hn _ (by omega)]; exact b3
  · by_cases e : k = 3
    · subst e; rw [upd_s]; exact rg_of (by omega) hv.1 hv.2 (by omega)
    · rw [hn _ (by omega)]; exact b4
/-! straps -/
def buyV (s : Nat → Int32) (k : Nat) : Nat → Int32 := upd s (9 + k) (s (9 + k) + 1)
theorem c_buy0 {D : dT} {B : Nat} {s : Nat → Int32} {P J k : Nat} (h : FR D B s P J) (hS : SI s P J) (hk : k < 3) (hv : ¬ s (9 + k) = 9) : ∃ D', F_X0_addStraps B (nI k) D = some (s (9 + k) + 1, D') ∧ FR D' B (buyV s k) P J ∧ off B D D' := by
  have h10 := SI_P hS
  unfold F_X0_addStraps
  have hk3 : inR (nI k) 3 := inRn hk (by omega)
  obtain ⟨n, _, n9, en⟩ := hS.2.1.2.2.2.2.2 k hk
  have hlt : n < 9 := by
    by_cases e : n = 9
    · subst e; exact absurd en hv
    · omega
  rw [c_isKind, if_pos hk3, bd_some, if_neg (by decide)]
  simp only [if_pos hk3, nI_clamp (show k < 2 ^ 31 by omega), FR_own h k hk]
  rw [if_pos (show s (9 + k) < 9 by rw [en]; exact nI_lt (b := 9) hlt (by omega))]
  rw [up2_o (o := B + 2) (i := B + 3) _ _ _ (by omega), FR_fre h k hk, up2_o (o := B + 3) (i := B + 2) _ _ _ (by omega), up2_self]
  have ho : ∀ q, q ≠ B + 2 → q ≠ B + 3 → (up2 (up2 D (B + 2) k (s (9 + k) + 1)) (B + 3) k (freeV s J k + 1)) q = D q := fun q a b => by rw [up2_o _ _ _ b, up2_o _ _ _ a]
  have hn : ∀ i, i ≠ 9 + k → buyV s k i = s i := fun i hi => upd_n _ _ hi
  refine ⟨_, rfl, FR_hd h h10 (fun q hq => ho q (by omega) (by omega)) (fun i hi => hn i (by omega)) (fun i hi => ?_) (fun i hi => ?_) (fun i hi => ?_) ⟨?_, ?_, ?_, ?_, ?_⟩, off_u (off_u (off_r B D) (by omega) (by omega)) (by omega) (by omega)⟩
  · rw [ho _ (by omega) (by omega), hn _ (by omega), FR_set h i hi]
  · rw [up2_o _ _ _ (by omega)]
    by_cases e : i = k
    · subst e; rw [up2_self]; exact (upd_s _ _ _).symm
    · rw [up2_ne _ _ (by omega), hn _ (by omega), FR_own h i hi]
  · by_cases e : i = k
    · subst e
      rw [up2_self]
      unfold freeV
      rw [show buyV s i (9 + i) = s (9 + i) + 1 from upd_s _ _ _, freeU_w, freeU_congr (s := s) (s' := buyV s i) _ _ J (fun i _ => ⟨hn _ (by omega), hn _ (by omega)⟩)]
    · rw [up2_ne _ _ (by omega), up2_o _ _ _ (by omega), FR_fre h i hi]
      exact (freeV_congr (hn _ (by omega)) (fun i _ => ⟨hn _ (by omega), hn _ (by omega)⟩)).symm
  · rw [ho _ (by omega) (by omega), FR_P h]
  · rw [ho _ (by omega) (by omega), FR_J h]
  · rw [ho _ (by omega) (by omega), hn _ (by omega), FR_h h]
  · rw [ho _ (by omega) (by omega), hn _ (by omega), FR_c h]
  · rw [ho _ (by omega) (by omega), hn _ (by omega), FR_p h]
theorem c_buy1 (D : dT) (B : Nat) {x : Int32} (hx : ¬ inR x 3) : F_X0_addStraps B x D = some (-1, D) := by
  unfold F_X0_addStraps
  rw [c_isKind, if_neg hx, bd_some, if_pos rfl]
theorem c_buy2 {D : dT} {B : Nat} {s : Nat → Int32} {P J k : Nat} (h : FR D B s P J) (hk : k < 3) (hv : s (9 + k) = 9) : F_X0_addStraps B (nI k) D = some (-4, D) := by
  unfold F_X0_addStraps
  have hk3 : inR (nI k) 3 := inRn hk (by omega)
  rw [c_isKind, if_pos hk3, bd_some, if_neg (by decide)]
  simp only [if_pos hk3, nI_clamp (show k < 2 ^ 31 by omega), FR_own h k hk]
  rw [hv, if_neg (by decide)]
theorem SI_buy {s : Nat → Int32} {P J k : Nat} (h : SI s P J) (hk : k < 3) (hv : ¬ s (9 + k) = 9) : SI (buyV s k) P J := by
  have hn : ∀ i, i ≠ 9 + k → buyV s k i = s i := fun i hi => upd_n _ _ hi
  obtain ⟨b1, b2, b3, b4, _, b6⟩ := h.2.1
  refine SI_hd h (fun i hi => hn i (by omega)) ⟨by rw [hn _ (by omega)]; exact h.1.2.2.1, by rw [hn _ (by omega)]; exact h.1.2.2.2⟩ ⟨by rw [hn _ (by omega)]; exact b1, by rw [hn _ (by omega)]; exact b2, by rw [hn _ (by omega)]; exact b3, by rw [hn _ (by omega)]; exact b4, fun q hq => ?_⟩
  by_cases e : q = k
  · subst e
    obtain ⟨n, _, n9, en⟩ := b6 q hq
    rw [show buyV s q (9 + q) = s (9 + q) + 1 from upd_s _ _ _, en, nI_1]
    refine ⟨n + 1, by omega, ?_, rfl⟩
    by_cases e : n = 9
    · subst e; exact absurd en hv
    · omega
  · rw [hn _ (by omega)]; exact b6 q hq
/-! delays, calling off -/
def delV (s : Nat → Int32) (j : Nat) (x : Int32) : Nat → Int32 := upd s (52 + 12 * j + 9) (s (52 + 12 * j + 9) + x)
theorem c_del0 {D : dT} {B : Nat} {s : Nat → Int32} {P J j : Nat} {x : Int32} (h : FR D B s P J) (hS : SI s P J) (hj : j < J) (hx : 1 ≤ x ∧ x ≤ 20) (h1 : HOW s j = 1) (h60 : s (52 + 12 * j + 9) + x ≤ 60) : ∃ D', F_X0_delayJob B (nI j) x D = some (s (52 + 12 * j + 9) + x, D') ∧ FR D' B (delV s j x) P J ∧ off B D D' := by
  have h10 := SI_P hS
  have h16 := SI_J hS
  have f5 := FR_j h hj (k := 5) (by omega)
  have f9 := FR_j h hj (k := 9) (by omega)
  have hr : inR (nI j) 16 := inRn (by omega) (by omega)
  unfold F_X0_delayJob
  rw [c_hasJob (FR_J h) h16, if_pos (inRn hj (by omega)), bd_some, if_neg (by decide), c_isWithin, if_pos hx, bd_some, if_neg (by decide)]
  simp only [if_pos hr, nI_clamp (show j < 2 ^ 31 by omega)]
  rw [f5, if_pos (show s (52 + 12 * j + 5) = 1 from h1), f9, if_pos h60, up2_self]
  exact ⟨_, rfl, FR_jup h h10 hj (by omega) (by omega) (by omega) (by omega) _, off_u (off_r B D) (by omega) (by omega)⟩
theorem c_del1 {D : dT} {B : Nat} {s : Nat → Int32} {P J : Nat} {x y : Int32} (h : FR D B s P J) (h16 : J ≤ 16) (hx : ¬ inR x J) : F_X0_delayJob B x y D = some (-1, D) := by
  unfold F_X0_delayJob
  rw [c_hasJob (FR_J h) h16, if_neg hx, bd_some, if_pos rfl]
theorem c_del2 {D : dT} {B : Nat} {s : Nat → Int32} {P J : Nat} {x y : Int32} (h : FR D B s P J) (h16 : J ≤ 16) (hx : inR x J) (hy : ¬ (1 ≤ y ∧ y ≤ 20)) : F_X0_delayJob B x y D = some (-2, D) := by
  unfold F_X0_delayJob
  rw [c_hasJob (FR_J h) h16, if_pos hx, bd_some, if_neg (by decide), c_isWithin, if_neg hy, bd_some, if_pos rfl]
theorem c_del3 {D : dT} {B : Nat} {s : Nat → Int32} {P J j : Nat} {x : Int32} (h : FR D B s P J) (hS : SI s P J) (hj : j < J) (hx : 1 ≤ x ∧ x ≤ 20) (hn : ¬ (HOW s j = 1 ∧ s (52 + 12 * j + 9) + x ≤ 60)) : F_X0_delayJob B (nI j) x D = some (-5, D) := by
  have h16 := SI_J hS
  have f5 := FR_j h hj (k := 5) (by omega)
  have f9 := FR_j h hj (k := 9) (by omega)
  have hr : inR (nI j) 16 := inRn (by omega) (by omega)
  unfold F_X0_delayJob
  rw [c_hasJob (FR_J h) h16, if_pos (inRn hj (by omega)), bd_some, if_neg (by decide), c_isWithin, if_pos hx, bd_some, if_neg (by decide)]
  simp only [if_pos hr, nI_clamp (show j < 2 ^ 31 by omega)]
  rw [f5]
  by_cases h1 : HOW s j = 1
  · rw [if_pos (show s (52 + 12 * j + 5) = 1 from h1), f9, if_neg (fun z => hn ⟨h1, z⟩)]
  · rw [if_neg (show ¬ s (52 + 12 * j + 5) = 1 from h1)]
theorem SI_del {s : Nat → Int32} {P J j : Nat} {x : Int32} (h : SI s P J) (hj : j < J) (hx : 1 ≤ x ∧ x ≤ 20) (h1 : HOW s j = 1) (h60 : s (52 + 12 * j + 9) + x ≤ 60) : SI (delV s j x) P J := by
  have hn : ∀ i, i ≠ 52 + 12 * j + 9 → delV s j x i = s i := fun i hi => upd_n _ _ hi
  have hr := h.2.2.2.1 j hj
  obtain ⟨dl, _, hdl, edl⟩ := hr.1.2.2.2.2.2
  obtain ⟨m, m1, m2, rfl⟩ := rg_of (a := 1) (b := 20) (by omega) hx.1 hx.2 (by omega)
  have h10 := SI_P h
  refine SI_gen h hj (fun i hi _ _ => hn i (by omega)) (fun p hp => by rw [hn _ (by omega), hn _ (by omega)]; exact h.2.2.1 p hp) (fun p hp hp2 k hk => hn _ (by omega)) (fun i hi hij => hn i (by omega)) ?_ (fun _ => ⟨hn _ (by omega), h1⟩)
  refine SIj_mk hr (fun k hk k2 k5 k9 k10 k11 => hn _ (by omega)) (by rw [show HOW (delV s j (nI m)) j = HOW s j from hn _ (by omega)]; exact hr.1.2.2.2.2.1) ?_ (fun z => ?_) (fun _ => h1)
  · rw [show delV s j (nI m) (52 + 12 * j + 9) = s (52 + 12 * j + 9) + nI m from upd_s _ _ _]
    rw [edl, nI_add] at h60 ⊢
    exact ⟨dl + m, by omega, (nI_leI (b := 60) (by omega) (by omega)).mp h60, rfl⟩
  · rw [hn _ (by omega)]
    exact hr.2.2.2.1 (Or.inr h1)
def offV (s : Nat → Int32) (j : Nat) : Nat → Int32 := upd s (52 + 12 * j + 5) 3
theorem c_off0 {D : dT} {B : Nat} {s : Nat → Int32} {P J j : Nat} (h : FR D B s P J) (hS : SI s P J) (hj : j < J) (h1 : HOW s j = 0 ∨ HOW s j = 1) : ∃ D', F_X0_callOffJob B (nI j) D = some (CRW s j, D') ∧ FR D' B (offV s j) P J ∧ off B D D' := by
  have h10 := SI_P hS
  have h16 := SI_J hS
  have f5 := FR_j h hj (k := 5) (by omega)
  have hr : inR (nI j) 16 := inRn (by omega) (by omega)
  have ec : CRW (offV s j) j = CRW s j := upd_n _ _ (by omega)
  unfold F_X0_callOffJob F_X0_callOffJob_35
  rw [c_hasJob (FR_J h) h16, if_pos (inRn hj (by omega)), bd_some, if_neg (by decide)]
  simp only [if_pos hr, nI_clamp (show j < 2 ^ 31 by omega)]
  rw [f5]
  by_cases h0 : HOW s j = 0
  · rw [if_pos (show s (52 + 12 * j + 5) = 0 from h0)]
    have he : F_X0_endJob B (B + 16 + j) 3 D = some (0, up2 D (B + 16 + j) 5 3) := by
      unfold F_X0_endJob
      rw [f5, if_neg (by rw [show s (52 + 12 * j + 5) = 0 from h0]; decide)]
    rw [he, bd_some, up2_ne _ _ (by omega), FR_j h hj (k := 7) (by omega)]
    refine ⟨_, rfl, ?_, off_u (off_r B D) (by omega) (by omega)⟩
    have hn : ∀ i, i ≠ 52 + 12 * j + 5 → offV s j i = s i := fun i hi => upd_n _ _ hi
    have e5 : HOW (offV s j) j = 3 := upd_s _ _ _
    have ho : ∀ q, q ≠ B + 16 + j → up2 D (B + 16 + j) 5 3 q = D q := fun q hq => up2_o _ _ _ hq
    refine ⟨⟨fun i hi => ?_, fun i hi => ?_, fun i hi => ?_⟩, ⟨?_, ?_, ?_, ?_, ?_⟩, fun p hp2 => ⟨?_, ?_, ?_, ?_, ?_⟩, fun i hi q hq => ?_⟩
    · rw [ho _ (by omega), hn _ (by omega), FR_set h i hi]
    · rw [ho _ (by omega), hn _ (by omega), FR_own h i hi]
    · rw [ho _ (by omega), FR_fre h i hi]
      unfold freeV
      rw [hn _ (by omega)]
      have := freeU_c (s := s) (s' := offV s j) (nI i) (s (9 + i)) (j := j) J (fun q hq hqj => ⟨hn _ (by omega), hn _ (by omega)⟩)
      rw [e5, h0, if_neg (fun z => absurd z.2.1 (by decide)), if_neg (fun z => absurd z.2.1 (by decide)), Int32.add_zero, Int32.add_zero] at this
      exact this.symm
    · rw [ho _ (by omega), FR_P h]
    · rw [ho _ (by omega), FR_J h]
    · rw [ho _ (by omega), hn _ (by omega), FR_h h]
    · rw [ho _ (by omega), hn _ (by omega), FR_c h]
    · rw [ho _ (by omega), hn _ (by omega), FR_p h]
    · rw [ho _ (by omega), hn _ (by omega), FR_p0 h hp2]
    · rw [ho _ (by omega), hn _ (by omega), FR_p1 h hp2]
    · rw [ho _ (by omega), FR_p2 h hp2]
      refine jobU_congr J (fun i hi => ?_)
      by_cases e : i = j
      · subst e
        rw [e5, h0]
        exact ⟨fun z => absurd z.1 (by decide), fun z => absurd z.1 (by decide)⟩
      · rw [show HOW (offV s j) i = HOW s i from hn _ (by omega), show CRW (offV s j) i = CRW s i from hn _ (by omega)]
    · rw [ho _ (by omega), hn _ (by omega), FR_p3 h hp2]
    · rw [ho _ (by omega), hn _ (by omega), FR_p4 h hp2]
    · by_cases e : i = j
      · subst e
        by_cases e2 : q = 5
        · subst e2; rw [up2_self]; exact e5.symm
        · rw [up2_ne _ _ (by omega), hn _ (by omega), FR_j h hi hq]
      · rw [ho _ (by omega), hn _ (by omega), FR_j h hi hq]
  · have h1' := h1.resolve_left h0
    rw [if_neg (show ¬ s (52 + 12 * j + 5) = 0 from h0), if_pos (show s (52 + 12 * j + 5) = 1 from h1')]
    obtain ⟨D', x1, x2, x3⟩ := c_end (x := 3) h h10 h16 hj h1' (by decide) (fun i hi hij hh p hb => hS.2.2.2.2.1 i j hi hj hij hh h1' p hb) (hS.2.2.2.1 j hj).2.1
    rw [x1, bd_some, FR_j x2 hj (k := 7) (by omega)]
    exact ⟨D', by rw [show upd s (52 + 12 * j + 5) 3 (52 + 12 * j + 7) = CRW s j from upd_n _ _ (by omega)], x2, x3⟩
theorem c_off1 {D : dT} {B : Nat} {s : Nat → Int32} {P J : Nat} {x : Int32} (h : FR D B s P J) (h16 : J ≤ 16) (hx : ¬ inR x J) : F_X0_callOffJob B x D = some (-1, D) := by
  unfold F_X0_callOffJob
  rw [c_hasJob (FR_J h) h16, if_neg hx, bd_some, if_pos rfl]
theorem c_off2 {D : dT} {B : Nat} {s : Nat → Int32} {P J j : Nat} (h : FR D B s P J) (hS : SI s P J) (hj : j < J) (h1 : ¬ (HOW s j = 0 ∨ HOW s j = 1)) : F_X0_callOffJob B (nI j) D = some (-5, D) := by
  have h16 := SI_J hS
  have f5 := FR_j h hj (k := 5) (by omega)
  have hr : inR (nI j) 16 := inRn (by omega) (by omega)
  unfold F_X0_callOffJob
  rw [c_hasJob (FR_J h) h16, if_pos (inRn hj (by omega)), bd_some, if_neg (by decide)]
  simp only [if_pos hr, nI_clamp (show j < 2 ^ 31 by omega)]
  rw [f5, if_neg (fun z => h1 (Or.inl z)), if_neg (fun z => h1 (Or.inr z))]
theorem SI_off {s : Nat → Int32} {P J j : Nat} (h : SI s P J) (hj : j < J) : SI (offV s j) P J := by
  have hn : ∀ i, i ≠ 52 + 12 * j + 5 → offV s j i = s i := fun i hi => upd_n _ _ hi
  have e5 : HOW (offV s j) j = 3 := upd_s _ _ _
  have hr := h.2.2.2.1 j hj
  have h10 := SI_P h
  refine SI_gen h hj (fun i hi _ _ => hn i (by omega)) (fun p hp => by rw [hn _ (by omega), hn _ (by omega)]; exact h.2.2.1 p hp) (fun p hp hp2 k hk => hn _ (by omega)) (fun i hi hij => hn i (by omega)) ?_ (fun z => by rw [e5] at z; exact absurd z (by decide))
  refine SIj_mk hr (fun k hk k2 k5 k9 k10 k11 => hn _ (by omega)) (by rw [e5]; exact ⟨3, by omega, by omega, rfl⟩) (by rw [hn _ (by omega)]; exact hr.1.2.2.2.2.2) (fun z => ?_) (fun z => by rw [e5] at z; exact absurd z (by decide))
  rw [e5] at z
  exact z.elim (fun z => absurd z (by decide)) (fun z => absurd z (by decide))
