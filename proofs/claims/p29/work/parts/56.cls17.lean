/-! somebody comes -/
def perV (s : Nat → Int32) (P : Nat) (f : Int32) : Nat → Int32 := upd (upd (upd s (12 + 4 * P) f) (12 + 4 * P + 1) f) 5 (nI (P + 1))
theorem perV_o (s : Nat → Int32) {P : Nat} (f : Int32) {i : Nat} (h0 : i ≠ 12 + 4 * P) (h1 : i ≠ 12 + 4 * P + 1) (h5 : i ≠ 5) : perV s P f i = s i := by
  unfold perV
  rw [upd_n _ _ h5, upd_n _ _ h1, upd_n _ _ h0]
theorem perV_0 (s : Nat → Int32) (P : Nat) (f : Int32) : perV s P f (12 + 4 * P) = f := by
  unfold perV
  rw [upd_n _ _ (by omega), upd_n _ _ (by omega), upd_s]
theorem perV_1 (s : Nat → Int32) (P : Nat) (f : Int32) : perV s P f (12 + 4 * P + 1) = f := by
  unfold perV
  rw [upd_n _ _ (by omega), upd_s]
theorem perV_5 (s : Nat → Int32) (P : Nat) (f : Int32) : perV s P f 5 = nI (P + 1) := upd_s _ _ _
def pcD (D : dT) (o : Nat) (x : Int32) : dT := up2 (up2 (up2 (up2 (up2 D o 0 x) o 1 x) o 2 (-6)) o 3 0) o 4 0
theorem pcD_o (D : dT) {o : Nat} (x : Int32) {q : Nat} (h : q ≠ o) : pcD D o x q = D q := by
  unfold pcD
  rw [up2_o _ _ _ h, up2_o _ _ _ h, up2_o _ _ _ h, up2_o _ _ _ h, up2_o _ _ _ h]
theorem pcD_v (D : dT) (o : Nat) (x : Int32) : pcD D o x o 0 = x ∧ pcD D o x o 1 = x ∧ pcD D o x o 2 = -6 ∧ pcD D o x o 3 = 0 ∧ pcD D o x o 4 = 0 := by
  unfold pcD
  refine ⟨?_, ?_, ?_, ?_, ?_⟩
  · rw [up2_ne _ _ (by omega), up2_ne _ _ (by omega), up2_ne _ _ (by omega), up2_ne _ _ (by omega), up2_self]
  · rw [up2_ne _ _ (by omega), up2_ne _ _ (by omega), up2_ne _ _ (by omega), up2_self]
  · rw [up2_ne _ _ (by omega), up2_ne _ _ (by omega), up2_self]
  · rw [up2_ne _ _ (by omega), up2_self]
  · rw [up2_self]
theorem c_per0 {D : dT} {B : Nat} {s : Nat → Int32} {P J : Nat} {x : Int32} (h : FR D B s P J) (hS : SI s P J) (hx : 10 ≤ x ∧ x ≤ 150) (hP : P < 10) : ∃ D', F_X0_addPerson B x D = some (nI P, D') ∧ FR D' B (perV s P x) (P + 1) J ∧ off B D D' := by
  have h16 := SI_J hS
  have hc : F_X4_come (B + 6 + P) x D = some (0, pcD D (B + 6 + P) x) := rfl
  unfold F_X0_addPerson
  rw [c_isWithin, if_pos hx, bd_some, if_neg (by decide), FR_P h, if_pos (show nI P < 10 from nI_lt (b := 10) hP (by omega)), if_pos (inRn hP (by omega)), nI_clamp (by omega), hc, bd_some, up2_self, pcD_o _ _ (show B ≠ B + 6 + P by omega), FR_P h, nI_1, nI_pred]
  have ho : ∀ q, q ≠ B → q ≠ B + 6 + P → up2 (pcD D (B + 6 + P) x) B 5 (nI (P + 1)) q = D q := fun q a b => by rw [up2_o _ _ _ a, pcD_o _ _ b]
  have hb : ∀ k, k ≠ 5 → up2 (pcD D (B + 6 + P) x) B 5 (nI (P + 1)) B k = D B k := fun k a => by rw [up2_ne _ _ (by omega), pcD_o _ _ (by omega)]
  have hn : ∀ i, i ≠ 12 + 4 * P → i ≠ 12 + 4 * P + 1 → i ≠ 5 → perV s P x i = s i := fun i a b c => perV_o s x a b c
  refine ⟨_, rfl, ⟨⟨fun i hi => ?_, fun i hi => ?_, fun i hi => ?_⟩, ⟨?_, ?_, ?_, ?_, ?_⟩, fun p hp => ?_, fun i hi q hq => ?_⟩, fun q hq => ho q (by omega) (by omega)⟩
  · rw [ho _ (by omega) (by omega), hn _ (by omega) (by omega) (by omega), FR_set h i hi]
  · rw [ho _ (by omega) (by omega), hn _ (by omega) (by omega) (by omega), FR_own h i hi]
  · rw [ho _ (by omega) (by omega), FR_fre h i hi]
    exact (freeV_congr (hn _ (by omega) (by omega) (by omega)) (fun i _ => ⟨hn _ (by omega) (by omega) (by omega), hn _ (by omega) (by omega) (by omega)⟩)).symm
  · rw [up2_self]
  · rw [hb _ (by omega), FR_J h]
  · rw [hb _ (by omega), hn _ (by omega) (by omega) (by omega), FR_h h]
  · rw [hb _ (by omega), hn _ (by omega) (by omega) (by omega), FR_c h]
  · rw [hb _ (by omega), hn _ (by omega) (by omega) (by omega), FR_p h]
  · have ej : jobV (perV s P x) J p = jobV s J p := jobV_congr (fun i _ => ⟨hn _ (by omega) (by omega) (by omega), hn _ (by omega) (by omega) (by omega)⟩)
    rw [ej]
    by_cases e : p = P
    · subst e
      obtain ⟨v0, v1, v2, v3, v4⟩ := pcD_v D (B + 6 + p) x
      rw [up2_o (o := B) (i := B + 6 + p) _ _ _ (by omega), v0, v1, v2, v3, v4, perV_0, perV_1, hn _ (by omega) (by omega) (by omega), hn _ (by omega) (by omega) (by omega)]
      have hz := hS.2.2.2.2.2.1 p (by omega) (by omega)
      refine ⟨rfl, rfl, ((jobU_iff s p J h16).mpr (fun i hi _ => (hS.2.2.2.1 i hi).2.2.1 p (by omega) (by omega))).symm, (hz 2 (by omega)).symm, (hz 3 (by omega)).symm⟩
    · rw [ho _ (by omega) (by omega), hn _ (by omega) (by omega) (by omega), hn _ (by omega) (by omega) (by omega), hn _ (by omega) (by omega) (by omega), hn _ (by omega) (by omega) (by omega)]
      exact ⟨FR_p0 h (by omega), FR_p1 h (by omega), FR_p2 h (by omega), FR_p3 h (by omega), FR_p4 h (by omega)⟩
  · rw [ho _ (by omega) (by omega), hn _ (by omega) (by omega) (by omega), FR_j h hi hq]
theorem c_per1 (D : dT) (B : Nat) {x : Int32} (hx : ¬ (10 ≤ x ∧ x ≤ 150)) : F_X0_addPerson B x D = some (-2, D) := by
  unfold F_X0_addPerson
  rw [c_isWithin, if_neg hx, bd_some, if_pos rfl]
theorem c_per2 {D : dT} {B : Nat} {s : Nat → Int32} {P J : Nat} {x : Int32} (h : FR D B s P J) (hx : 10 ≤ x ∧ x ≤ 150) (hP : P = 10) : F_X0_addPerson B x D = some (-4, D) := by
  unfold F_X0_addPerson
  rw [c_isWithin, if_pos hx, bd_some, if_neg (by decide), FR_P h, hP, if_neg (by decide)]
theorem SI_per {s : Nat → Int32} {P J : Nat} {x : Int32} (h : SI s P J) (hx : 10 ≤ x ∧ x ≤ 150) (hP : P < 10) : SI (perV s P x) (P + 1) J := by
  have hn : ∀ i, i ≠ 12 + 4 * P → i ≠ 12 + 4 * P + 1 → i ≠ 5 → perV s P x i = s i := fun i a b c => perV_o s x a b c
  have h16 := SI_J h
  obtain ⟨m, m1, m2, rfl⟩ := rg_of (a := 10) (b := 150) (by omega) hx.1 hx.2 (by omega)
  obtain ⟨⟨a1, a2, a3, a4⟩, ⟨b1, b2, b3, b4, b5, b6⟩, cc, d, e, f1, f2⟩ := h
  refine ⟨⟨by omega, a2, perV_5 s P _, by rw [hn _ (by omega) (by omega) (by omega)]; exact a4⟩, ⟨by rw [hn _ (by omega) (by omega) (by omega)]; exact b1, by rw [hn _ (by omega) (by omega) (by omega)]; exact b2, by rw [hn _ (by omega) (by omega) (by omega)]; exact b3, by rw [hn _ (by omega) (by omega) (by omega)]; exact b4, Or.inr trivial, fun k hk => by rw [hn _ (by omega) (by omega) (by omega)]; exact b6 k hk⟩, ?_, ?_, ?_, ?_, ?_⟩
  · intro p hp
    by_cases e : p = P
    · subst e
      rw [perV_0, perV_1]
      exact ⟨m, m, Nat.le_refl _, m2, rfl, rfl⟩
    · rw [hn _ (by omega) (by omega) (by omega), hn _ (by omega) (by omega) (by omega)]
      exact cc p (by omega)
  · intro i hi
    have hx := d i hi
    unfold SIj HOW CRW at hx ⊢
    rw [hn _ (by omega) (by omega) (by omega), hn _ (by omega) (by omega) (by omega), hn _ (by omega) (by omega) (by omega), hn _ (by omega) (by omega) (by omega), hn _ (by omega) (by omega) (by omega), hn _ (by omega) (by omega) (by omega), hn _ (by omega) (by omega) (by omega), hn _ (by omega) (by omega) (by omega), hn _ (by omega) (by omega) (by omega), hn _ (by omega) (by omega) (by omega)]
    exact ⟨hx.1, hx.2.1, fun i hi h32 => hx.2.2.1 i (by omega) h32, hx.2.2.2⟩
  · intro i i2 hi hi2 hne h1 h2 p hb
    unfold HOW CRW at *
    rw [hn _ (by omega) (by omega) (by omega)] at h1 h2 hb ⊢
    exact e i i2 hi hi2 hne h1 h2 p hb
  · intro p hp hp2 k hk
    rw [hn _ (by omega) (by omega) (by omega)]
    exact f1 p (by omega) hp2 k hk
  · intro i hi hi2 k hk
    rw [hn _ (by omega) (by omega) (by omega)]
    exact f2 i hi hi2 k hk
/-! a job comes -/
def adjV (s : Nat → Int32) (J : Nat) (w f h p d : Int32) : Nat → Int32 := upd (upd (upd (upd (upd (upd (upd (upd s (52 + 12 * J) w) (52 + 12 * J + 1) f) (52 + 12 * J + 2) h) (52 + 12 * J + 3) p) (52 + 12 * J + 4) d) (52 + 12 * J + 8) (-6)) (52 + 12 * J + 11) (-6)) 6 (nI (J + 1))
theorem adjV_o (s : Nat → Int32) {J : Nat} (w f h p d : Int32) {i : Nat} (h1 : i ≠ 52 + 12 * J ∧ i ≠ 52 + 12 * J + 1 ∧ i ≠ 52 + 12 * J + 2 ∧ i ≠ 52 + 12 * J + 3 ∧ i ≠ 52 + 12 * J + 4 ∧ i ≠ 52 + 12 * J + 8 ∧ i ≠ 52 + 12 * J + 11) (h6 : i ≠ 6) : adjV s J w f h p d i = s i := by
  unfold adjV
  rw [upd_n _ _ h6, upd_n _ _ h1.2.2.2.2.2.2, upd_n _ _ h1.2.2.2.2.2.1, upd_n _ _ h1.2.2.2.2.1, upd_n _ _ h1.2.2.2.1, upd_n _ _ h1.2.2.1, upd_n _ _ h1.2.1, upd_n _ _ h1.1]
theorem adjV_v (s : Nat → Int32) (J : Nat) (w f h p d : Int32) : adjV s J w f h p d (52 + 12 * J) = w ∧ adjV s J w f h p d (52 + 12 * J + 1) = f ∧ adjV s J w f h p d (52 + 12 * J + 2) = h ∧ adjV s J w f h p d (52 + 12 * J + 3) = p ∧ adjV s J w f h p d (52 + 12 * J + 4) = d ∧ adjV s J w f h p d (52 + 12 * J + 8) = -6 ∧ adjV s J w f h p d (52 + 12 * J + 11) = -6 ∧ adjV s J w f h p d 6 = nI (J + 1) := by
  unfold adjV
  refine ⟨?_, ?_, ?_, ?_, ?_, ?_, ?_, upd_s _ _ _⟩
  · rw [upd_n _ _ (by omega), upd_n _ _ (by omega), upd_n _ _ (by omega), upd_n _ _ (by omega), upd_n _ _ (by omega), upd_n _ _ (by omega), upd_n _ _ (by omega), upd_s]
  · rw [upd_n _ _ (by omega), upd_n _ _ (by omega), upd_n _ _ (by omega), upd_n _ _ (by omega), upd_n _ _ (by omega), upd_n _ _ (by omega), upd_s]
  · rw [upd_n _ _ (by omega), upd_n _ _ (by omega), upd_n _ _ (by omega), upd_n _ _ (by omega), upd_n _ _ (by omega), upd_s]
  · rw [upd_n _ _ (by omega), upd_n _ _ (by omega), upd_n _ _ (by omega), upd_n _ _ (by omega), upd_s]
  · rw [upd_n _ _ (by omega), upd_n _ _ (by omega), upd_n _ _ (by omega), upd_s]
  · rw [upd_n _ _ (by omega), upd_n _ _ (by omega), upd_s]
  · rw [upd_n _ _ (by omega), upd_s]
def jcD (D : dT) (o : Nat) (w f h p d : Int32) : dT := up2 (up2 (up2 (up2 (up2 (up2 (up2 (up2 (up2 (up2 (up2 (up2 D o 0 w) o 1 f) o 2 h) o 3 p) o 4 d) o 5 0) o 6 0) o 7 0) o 8 (-6)) o 9 0) o 10 0) o 11 (-6)
theorem jcD_o (D : dT) {o : Nat} (w f h p d : Int32) {q : Nat} (e : q ≠ o) : jcD D o w f h p d q = D q := by
  unfold jcD
  rw [up2_o _ _ _ e, up2_o _ _ _ e, up2_o _ _ _ e, up2_o _ _ _ e, up2_o _ _ _ e, up2_o _ _ _ e, up2_o _ _ _ e, up2_o _ _ _ e, up2_o _ _ _ e, up2_o _ _ _ e, up2_o _ _ _ e, up2_o _ _ _ e]
theorem jcD_v (D : dT) (o : Nat) (w f h p d : Int32) (k : Nat) (hk : k < 12) : jcD D o w f h p d o k = if k = 0 then w else if k = 1 then f else if k = 2 then h else if k = 3 then p else if k = 4 then d else if k = 8 then -6 else if k = 11 then -6 else 0 := by
  unfold jcD
  by_cases e11 : k = 11
  · subst e11; rw [up2_self]; rfl
  rw [up2_ne (k := 11) _ _ (by omega)]
  by_cases e10 : k = 10
  · subst e10; rw [up2_self]; rfl
  rw [up2_ne (k := 10) _ _ (by omega)]
  by_cases e9 : k = 9
  · subst e9; rw [up2_self]; rfl
  rw [up2_ne (k := 9) _ _ (by omega)]
  by_cases e8 : k = 8
  · subst e8; rw [up2_self]; rfl
  rw [up2_ne (k := 8) _ _ (by omega)]
  by_cases e7 : k = 7
  · subst e7; rw [up2_self]; rfl
  rw [up2_ne (k := 7) _ _ (by omega)]
  by_cases e6 : k = 6
  · subst e6; rw [up2_self]; rfl
  rw [up2_ne (k := 6) _ _ (by omega)]
  by_cases e5 : k = 5
  · subst e5; rw [up2_self]; rfl
  rw [up2_ne (k := 5) _ _ (by omega)]
  by_cases e4 : k = 4
  · subst e4; rw [up2_self]; rfl
  rw [up2_ne (k := 4) _ _ (by omega)]
  by_cases e3 : k = 3
  · subst e3; rw [up2_self]; rfl
  rw [up2_ne (k := 3) _ _ (by omega)]
  by_cases e2 : k = 2
  · subst e2; rw [up2_self]; rfl
  rw [up2_ne (k := 2) _ _ (by omega)]
  by_cases e1 : k = 1
  · subst e1; rw [up2_self]; rfl
  rw [up2_ne (k := 1) _ _ (by omega)]
  have e0 : k = 0 := by omega
  subst e0
  rw [up2_self]; rfl
theorem adj_row {s : Nat → Int32} {P J : Nat} (hS : SI s P J) (hJ : J < 16) (w f h p d : Int32) (k : Nat) (hk : k < 12) : adjV s J w f h p d (52 + 12 * J + k) = if k = 0 then w else if k = 1 then f else if k = 2 then h else if k = 3 then p else if k = 4 then d else if k = 8 then -6 else if k = 11 then -6 else 0 := by
  obtain ⟨v0, v1, v2, v3, v4, v8, v11, _⟩ := adjV_v s J w f h p d
  by_cases e0 : k = 0
  · subst e0; exact v0
  by_cases e1 : k = 1
  · subst e1; exact v1
  by_cases e2 : k = 2
  · subst e2; exact v2
  by_cases e3 : k = 3
  · subst e3; exact v3
  by_cases e4 : k = 4
  · subst e4; exact v4
  by_cases e8 : k = 8
  · subst e8; exact v8
  by_cases e11 : k = 11
  · subst e11; exact v11
  rw [adjV_o s w f h p d (by omega) (by omega), hS.2.2.2.2.2.2 J (by omega) hJ k hk, if_neg e0, if_neg e1, if_neg e2, if_neg e3, if_neg e4, if_neg e8, if_neg e11]
def jokV (w f h p d : Int32) : Prop := (50 ≤ w ∧ w ≤ 600) ∧ (0 ≤ f ∧ f ≤ 9) ∧ (1 ≤ h ∧ h ≤ 9) ∧ (0 ≤ p ∧ p ≤ 3) ∧ (0 ≤ d ∧ d ≤ 999)
theorem c_job0 {D : dT} {B : Nat} {s : Nat → Int32} {P J : Nat} {w f h p d : Int32} (hF : FR D B s P J) (hS : SI s P J) (hx : jokV w f h p d) (hJ : J < 16) : ∃ D', F_X0_addJob B w f h p d D = some (nI J, D') ∧ FR D' B (adjV s J w f h p d) P (J + 1) ∧ off B D D' := by
  have h10 := SI_P hS
  have hc : F_X2_come (B + 16 + J) w f h p d D = some (0, jcD D (B + 16 + J) w f h p d) := rfl
  unfold F_X0_addJob
  rw [c_isWithin, if_pos hx.1, bd_some, if_neg (by decide), c_isWithin, if_pos hx.2.1, bd_some, if_neg (by decide), c_isWithin, if_pos hx.2.2.1, bd_some, if_neg (by decide), c_isWithin, if_pos hx.2.2.2.1, bd_some, if_neg (by decide), c_isWithin, if_pos hx.2.2.2.2, bd_some, if_neg (by decide)]
  rw [FR_J hF, if_pos (show nI J < 16 from nI_lt (b := 16) hJ (by omega)), if_pos (inRn hJ (by omega)), nI_clamp (by omega), hc, bd_some, up2_self, jcD_o _ _ _ _ _ _ (show B ≠ B + 16 + J by omega), FR_J hF, nI_1, nI_pred]
  have ho : ∀ q, q ≠ B → q ≠ B + 16 + J → up2 (jcD D (B + 16 + J) w f h p d) B 6 (nI (J + 1)) q = D q := fun q a b => by rw [up2_o _ _ _ a, jcD_o _ _ _ _ _ _ b]
  have hb : ∀ k, k ≠ 6 → up2 (jcD D (B + 16 + J) w f h p d) B 6 (nI (J + 1)) B k = D B k := fun k a => by rw [up2_ne _ _ (by omega), jcD_o _ _ _ _ _ _ (by omega)]
  have hn : ∀ i, (i < 52 + 12 * J ∨ 52 + 12 * J + 12 ≤ i) → i ≠ 6 → adjV s J w f h p d i = s i := fun i a b => adjV_o s w f h p d (by omega) b
  have e5 : HOW (adjV s J w f h p d) J = 0 := adj_row hS hJ w f h p d 5 (by omega)
  refine ⟨_, rfl, ⟨⟨fun i hi => ?_, fun i hi => ?_, fun i hi => ?_⟩, ⟨?_, ?_, ?_, ?_, ?_⟩, fun q hq => ?_, fun i hi q hq => ?_⟩, fun q hq => ho q (by omega) (by omega)⟩
  · rw [ho _ (by omega) (by omega), hn _ (by omega) (by omega), FR_set hF i hi]
  · rw [ho _ (by omega) (by omega), hn _ (by omega) (by omega), FR_own hF i hi]
  · rw [ho _ (by omega) (by omega), FR_fre hF i hi]
    unfold freeV
    rw [hn _ (by omega) (by omega), freeU_s, if_neg (fun z => by have := z.1; rw [show adjV s J w f h p d (52 + 12 * J + 5) = 0 from e5] at this; exact absurd this (by decide)), Int32.sub_zero]
    exact (freeU_congr (s := s) (s' := adjV s J w f h p d) _ _ J (fun i hi => ⟨hn _ (by omega) (by omega), hn _ (by omega) (by omega)⟩)).symm
  · rw [hb _ (by omega), FR_P hF]
  · rw [up2_self]
  · rw [hb _ (by omega), hn _ (by omega) (by omega), FR_h hF]
  · rw [hb _ (by omega), hn _ (by omega) (by omega), FR_c hF]
  · rw [hb _ (by omega), hn _ (by omega) (by omega), FR_p hF]
  · have ej : jobV (adjV s J w f h p d) (J + 1) q = jobV s J q := by
      unfold jobV
      rw [jobU_s, if_neg (fun z => by have := z.1; rw [e5] at this; exact absurd this (by decide))]
      exact jobV_congr (fun i hi => ⟨hn _ (by omega) (by omega), hn _ (by omega) (by omega)⟩)
    rw [ej, ho _ (by omega) (by omega), hn _ (by omega) (by omega), hn _ (by omega) (by omega), hn _ (by omega) (by omega), hn _ (by omega) (by omega)]
    exact ⟨FR_p0 hF hq, FR_p1 hF hq, FR_p2 hF hq, FR_p3 hF hq, FR_p4 hF hq⟩
  · by_cases e : i = J
    · subst e
      rw [up2_o _ _ _ (by omega), jcD_v _ _ _ _ _ _ _ q hq, adj_row hS hJ _ _ _ _ _ q hq]
    · rw [ho _ (by omega) (by omega), hn _ (by omega) (by omega), FR_j hF (by omega) hq]
theorem c_job1 (D : dT) (B : Nat) {w f h p d : Int32} (hx : ¬ jokV w f h p d) : F_X0_addJob B w f h p d D = some (-2, D) := by
  unfold F_X0_addJob
  unfold jokV at hx
  rw [c_isWithin]
  by_cases h1 : 50 ≤ w ∧ w ≤ 600
  · rw [if_pos h1, bd_some, if_neg (by decide), c_isWithin]
    by_cases h2 : 0 ≤ f ∧ f ≤ 9
    · rw [if_pos h2, bd_some, if_neg (by decide), c_isWithin]
      by_cases h3 : 1 ≤ h ∧ h ≤ 9
      · rw [if_pos h3, bd_some, if_neg (by decide), c_isWithin]
        by_cases h4 : 0 ≤ p ∧ p ≤ 3
        · rw [if_pos h4, bd_some, if_neg (by decide), c_isWithin, if_neg (fun z => hx ⟨h1, h2, h3, h4, z⟩), bd_some, if_pos rfl]
        · rw [if_neg h4, bd_some, if_pos rfl]
      · rw [if_neg h3, bd_some, if_pos rfl]
    · rw [if_neg h2, bd_some, if_pos rfl]
  · rw [if_neg h1, bd_some, if_pos rfl]
theorem c_job2 {D : dT} {B : Nat} {s : Nat → Int32} {P J : Nat} {w f h p d : Int32} (hF : FR D B s P J) (hx : jokV w f h p d) (hJ : J = 16) : F_X0_addJob B w f h p d D = some (-4, D) := by
  unfold F_X0_addJob
  rw [c_isWithin, if_pos hx.1, bd_some, if_neg (by decide), c_isWithin, if_pos hx.2.1, bd_some, if_neg (by decide), c_isWithin, if_pos hx.2.2.1, bd_some, if_neg (by decide), c_isWithin, if_pos hx.2.2.2.1, bd_some, if_neg (by decide), c_isWithin, if_pos hx.2.2.2.2, bd_some, if_neg (by decide)]
  rw [FR_J hF, hJ, if_neg (by decide)]
theorem SI_job {s : Nat → Int32} {P J : Nat} {w f h p d : Int32} (hS : SI s P J) (hx : jokV w f h p d) (hJ : J < 16) : SI (adjV s J w f h p d) P (J + 1) := by
  have hn : ∀ i, (i < 52 + 12 * J ∨ 52 + 12 * J + 12 ≤ i) → i ≠ 6 → adjV s J w f h p d i = s i := fun i a b => adjV_o s w f h p d (by omega) b
  have hr := adj_row hS hJ w f h p d
  have e5 : HOW (adjV s J w f h p d) J = 0 := hr 5 (by omega)
  have h10 := SI_P hS
  obtain ⟨⟨a1, a2, a3, a4⟩, ⟨b1, b2, b3, b4, b5, b6⟩, cc, dd, e, f1, f2⟩ := hS
  refine ⟨⟨a1, by omega, by rw [hn _ (by omega) (by omega)]; exact a3, (adjV_v s J w f h p d).2.2.2.2.2.2.2⟩, ⟨by rw [hn _ (by omega) (by omega)]; exact b1, by rw [hn _ (by omega) (by omega)]; exact b2, by rw [hn _ (by omega) (by omega)]; exact b3, by rw [hn _ (by omega) (by omega)]; exact b4, Or.inr trivial, fun k hk => by rw [hn _ (by omega) (by omega)]; exact b6 k hk⟩, ?_, ?_, ?_, ?_, ?_⟩
  · intro q hq
    rw [hn _ (by omega) (by omega), hn _ (by omega) (by omega)]
    exact cc q hq
  · intro i hi
    by_cases ei : i = J
    · subst ei
      obtain ⟨x1, x2, x3, x4, x5⟩ := hx
      refine ⟨⟨by rw [show adjV s i w f h p d (52 + 12 * i) = w from hr 0 (by omega)]; exact rg_of (by omega) x1.1 x1.2 (by omega), by rw [show adjV s i w f h p d (52 + 12 * i + 1) = f from hr 1 (by omega)]; exact rg_of (by omega) x2.1 x2.2 (by omega), by rw [show adjV s i w f h p d (52 + 12 * i + 3) = p from hr 3 (by omega)]; exact rg_of (by omega) x4.1 x4.2 (by omega), by rw [show adjV s i w f h p d (52 + 12 * i + 4) = d from hr 4 (by omega)]; exact rg_of (by omega) x5.1 x5.2 (by omega), by rw [e5]; exact ⟨0, by omega, by omega, rfl⟩, by rw [show adjV s i w f h p d (52 + 12 * i + 9) = 0 from hr 9 (by omega)]; exact ⟨0, by omega, by omega, rfl⟩⟩, Or.inl (hr 8 (by omega)), ?_, fun _ => by rw [show adjV s i w f h p d (52 + 12 * i + 2) = h from hr 2 (by omega)]; exact rg_of (by omega) x3.1 x3.2 (by omega), fun z => by rw [e5] at z; exact absurd z (by decide)⟩
      intro q _ _
      rw [show CRW (adjV s i w f h p d) i = 0 from hr 7 (by omega), b_0]
    · have hx := dd i (by omega)
      unfold SIj HOW CRW at hx ⊢
      rw [hn _ (by omega) (by omega), hn _ (by omega) (by omega), hn _ (by omega) (by omega), hn _ (by omega) (by omega), hn _ (by omega) (by omega), hn _ (by omega) (by omega), hn _ (by omega) (by omega), hn _ (by omega) (by omega), hn _ (by omega) (by omega), hn _ (by omega) (by omega)]
      exact hx
  · intro i i2 hi hi2 hne h1 h2 q hb
    by_cases ei : i = J
    · subst ei; rw [e5] at h1; exact absurd h1 (by decide)
    · by_cases ei2 : i2 = J
      · subst ei2; rw [e5] at h2; exact absurd h2 (by decide)
      · rw [show HOW (adjV s J w f h p d) i = HOW s i from hn _ (by omega) (by omega)] at h1
        rw [show HOW (adjV s J w f h p d) i2 = HOW s i2 from hn _ (by omega) (by omega)] at h2
        rw [show CRW (adjV s J w f h p d) i = CRW s i from hn _ (by omega) (by omega)] at hb
        rw [show CRW (adjV s J w f h p d) i2 = CRW s i2 from hn _ (by omega) (by omega)]
        exact e i i2 (by omega) (by omega) hne h1 h2 q hb
  · intro q hq hq2 k hk
    rw [hn _ (by omega) (by omega)]
    exact f1 q hq hq2 k hk
  · intro i hi hi2 k hk
    rw [hn _ (by omega) (by omega)]
    exact f2 i (by omega) hi2 k hk
