/-! a job begins -/
theorem begV_5 (s : Nat → Int32) (j : Nat) (c k : Int32) : begV s j c k (52 + 12 * j + 5) = 1 := by
  unfold begV
  rw [upd_s]
theorem begV_6 (s : Nat → Int32) (j : Nat) (c k : Int32) : begV s j c k (52 + 12 * j + 6) = loadV s j k := by
  unfold begV
  rw [upd_n _ _ (by omega), upd_n _ _ (by omega), upd_n _ _ (by omega), upd_s]
theorem begV_7 (s : Nat → Int32) (j : Nat) (c k : Int32) : begV s j c k (52 + 12 * j + 7) = c := by
  unfold begV
  rw [upd_n _ _ (by omega), upd_n _ _ (by omega), upd_s]
theorem begV_8 (s : Nat → Int32) (j : Nat) (c k : Int32) : begV s j c k (52 + 12 * j + 8) = k := by
  unfold begV
  rw [upd_n _ _ (by omega), upd_s]
/-- a change of one job's row alone -/
theorem SI_row {s s' : Nat → Int32} {P J j : Nat} (h : SI s P J) (hj : j < J) (ho : ∀ i, ¬ (52 + 12 * j ≤ i ∧ i < 52 + 12 * j + 12) → s' i = s i) (hr : SIj s' P j) (hd : HOW s' j = 1 → ∀ i, i < J → i ≠ j → HOW s i = 1 → ∀ p, bt (CRW s i) p = true → bt (CRW s' j) p = false) : SI s' P J := by
  obtain ⟨⟨a1, a2, a3, a4⟩, ⟨b1, b2, b3, b4, b5, b6⟩, c, d, e, f1, f2⟩ := h
  have oi : ∀ i, i < 16 → i ≠ j → ∀ q, q < 12 → s' (52 + 12 * i + q) = s (52 + 12 * i + q) := fun i hi hij q hq => ho _ (by omega)
  refine ⟨⟨a1, a2, by rw [ho 5 (by omega)]; exact a3, by rw [ho 6 (by omega)]; exact a4⟩, ⟨by rw [ho 0 (by omega)]; exact b1, by rw [ho 1 (by omega)]; exact b2, by rw [ho 2 (by omega)]; exact b3, by rw [ho 3 (by omega)]; exact b4, by rw [ho 4 (by omega)]; exact b5, fun k hk => by rw [ho (9 + k) (by omega)]; exact b6 k hk⟩, ?_, ?_, ?_, ?_, ?_⟩
  · intro p hp
    rw [ho _ (by omega), ho _ (by omega)]
    exact c p hp
  · intro i hi
    by_cases hij : i = j
    · subst hij; exact hr
    · have hx := d i hi
      have o := oi i (by omega) hij
      unfold SIj HOW CRW at hx ⊢
      rw [show s' (52 + 12 * i) = s (52 + 12 * i) from o 0 (by omega), o 1 (by omega), o 2 (by omega), o 3 (by omega), o 4 (by omega), o 5 (by omega), o 6 (by omega), o 7 (by omega), o 8 (by omega), o 9 (by omega)]
      exact hx
  · intro i i2 hi hi2 hne h1 h2 p hb
    by_cases hij : i = j
    · subst hij
      cases hb2 : bt (CRW s' i2) p
      · rfl
      · have o := oi i2 (by omega) (fun z => hne z.symm)
        rw [show CRW s' i2 = CRW s i2 from o 7 (by omega)] at hb2
        rw [show HOW s' i2 = HOW s i2 from o 5 (by omega)] at h2
        have := hd h1 i2 hi2 (fun z => hne z.symm) h2 p hb2
        rw [hb] at this; cases this
    · have o := oi i (by omega) hij
      rw [show CRW s' i = CRW s i from o 7 (by omega)] at hb
      rw [show HOW s' i = HOW s i from o 5 (by omega)] at h1
      by_cases hij2 : i2 = j
      · subst hij2
        exact hd h2 i hi hij h1 p hb
      · have o2 := oi i2 (by omega) hij2
        rw [show CRW s' i2 = CRW s i2 from o2 7 (by omega)]
        rw [show HOW s' i2 = HOW s i2 from o2 5 (by omega)] at h2
        exact e i i2 hi hi2 hne h1 h2 p hb
  · intro p hp hp2 k hk
    rw [ho _ (by omega)]
    exact f1 p hp hp2 k hk
  · intro i hi hi2 k hk
    rw [ho _ (by omega)]
    exact f2 i hi hi2 k hk
theorem reason_0 {s : Nat → Int32} {P J j : Nat} {c k : Int32} (h10 : P ≤ 10) (h : reasonV s P J j c k = 0) : HOW s j = 0 ∧ (∃ n, 0 < n ∧ n < 2 ^ P ∧ c = nI n) ∧ (∀ i, bt c i = true → bt (busyV s J) i = false) ∧ canV s J j k := by
  unfold reasonV at h
  by_cases h0 : HOW s j = 0
  · rw [if_neg (show ¬ ¬ HOW s j = 0 from fun z => z h0)] at h
    by_cases h1 : c ≤ 0 ∨ (1 : Int32) <<< (nI P &&& 31) ≤ c ∨ s 3 < onesV c
    · rw [if_pos h1] at h; exact absurd h (by decide)
    · rw [if_neg h1] at h
      by_cases h2 : c &&& busyV s J = 0
      · rw [if_neg (show ¬ ¬ c &&& busyV s J = 0 from fun z => z h2)] at h
        by_cases h3 : canV s J j k
        · refine ⟨h0, (crew_n h10 c).mp (fun z => h1 (z.elim Or.inl (fun z => Or.inr (Or.inl z)))), fun i hi => ?_, h3⟩
          have := congrArg (fun z => bt z i) h2
          simp only [b_and, b_0, hi, Bool.true_and] at this
          exact this
        · rw [if_pos h3] at h; exact absurd h (by decide)
      · rw [if_pos h2] at h; exact absurd h (by decide)
  · rw [if_pos h0] at h; exact absurd h (by decide)
theorem SI_beg {s : Nat → Int32} {P J j : Nat} {c k : Int32} (hS : SI s P J) (hj : j < J) (hk : k = -6 ∨ inR k 3) (h : reasonV s P J j c k = 0) : SI (begV s j c k) P J := by
  have h10 := SI_P hS
  obtain ⟨h0, ⟨n, hn0, hn, hc⟩, hb, _⟩ := reason_0 h10 h
  have ho : ∀ i, i ≠ 52 + 12 * j + 5 → i ≠ 52 + 12 * j + 6 → i ≠ 52 + 12 * j + 7 → i ≠ 52 + 12 * j + 8 → begV s j c k i = s i := fun i a b d e => begV_o s j c k a b d e
  obtain ⟨⟨a1, a2, a3, a4, a5, a6⟩, a7, a8, a9, a10⟩ := hS.2.2.2.1 j hj
  refine SI_row hS hj (fun i hi => ho i (by omega) (by omega) (by omega) (by omega)) ?_ ?_
  · refine ⟨⟨by rw [ho _ (by omega) (by omega) (by omega) (by omega)]; exact a1, by rw [ho _ (by omega) (by omega) (by omega) (by omega)]; exact a2, by rw [ho _ (by omega) (by omega) (by omega) (by omega)]; exact a3, by rw [ho _ (by omega) (by omega) (by omega) (by omega)]; exact a4, by rw [show HOW (begV s j c k) j = 1 from begV_5 s j c k]; exact ⟨1, by omega, by omega, rfl⟩, by rw [ho _ (by omega) (by omega) (by omega) (by omega)]; exact a6⟩, by rw [begV_8]; exact hk, ?_, ?_, ?_⟩
    · rw [show CRW (begV s j c k) j = c from begV_7 s j c k, hc]
      exact crew_bits hn
    · intro _
      rw [ho _ (by omega) (by omega) (by omega) (by omega)]
      exact a9 (Or.inl h0)
    · intro _
      rw [begV_6]
      exact SI_lPos hS j hj k hk
  · intro _ i hi hij h1 p hb2
    rw [show CRW (begV s j c k) j = c from begV_7 s j c k]
    cases hx : bt c p
    · rfl
    · have := (busyU_iff s p J).mp (hb p hx) i hi h1
      rw [hb2] at this; cases this
theorem job_beg {s : Nat → Int32} {P J j : Nat} {c k : Int32} (hS : SI s P J) (hj : j < J) (h : reasonV s P J j c k = 0) (p : Nat) : jobV (begV s j c k) J p = if bt c p then nI j else jobV s J p := by
  have h10 := SI_P hS
  obtain ⟨h0, _, hb, _⟩ := reason_0 h10 h
  have oi : ∀ i, i ≠ j → HOW (begV s j c k) i = HOW s i ∧ CRW (begV s j c k) i = CRW s i := fun i hi => ⟨begV_o s j c k (by omega) (by omega) (by omega) (by omega), begV_o s j c k (by omega) (by omega) (by omega) (by omega)⟩
  cases hx : bt c p
  · rw [if_neg (by decide)]
    refine jobU_congr J (fun i hi => ?_)
    by_cases e : i = j
    · subst e
      rw [show CRW (begV s i c k) i = c from begV_7 s i c k, hx]
      refine ⟨fun z => absurd z.2 (by decide), fun z => ?_⟩
      rw [h0] at z; exact absurd z.1 (by decide)
    · rw [(oi i e).1, (oi i e).2]
  · rw [if_pos rfl]
    refine jobU_at (begV_5 s j c k) (by rw [show CRW (begV s j c k) j = c from begV_7 s j c k]; exact hx) J hj (fun i hi e h1 => ?_)
    rw [(oi i e).1] at h1
    rw [(oi i e).2]
    exact (busyU_iff s p J).mp (hb p hx) i hi h1
theorem free_beg {s : Nat → Int32} {J j q : Nat} {c k : Int32} (hj : j < J) (hq : q < 3) (h0 : HOW s j = 0) : freeV (begV s j c k) J q = freeV s J q - (if k = nI q then 1 else 0) := by
  unfold freeV
  rw [begV_o s j c k (by omega) (by omega) (by omega) (by omega)]
  have := freeU_c (s := s) (s' := begV s j c k) (nI q) (s (9 + q)) (j := j) J (fun i hi hij => ⟨begV_o s j c k (by omega) (by omega) (by omega) (by omega), begV_o s j c k (by omega) (by omega) (by omega) (by omega)⟩)
  rw [if_neg (show ¬ (j < J ∧ HOW s j = 1 ∧ s (52 + 12 * j + 8) = nI q) from fun z => by rw [h0] at z; exact absurd z.2.1 (by decide)), Int32.add_zero, show HOW (begV s j c k) j = 1 from begV_5 s j c k, begV_8] at this
  by_cases e : k = nI q
  · rw [if_pos ⟨hj, rfl, e⟩] at this
    rw [if_pos e, ← this, Int32.add_sub_cancel]
  · rw [if_neg (fun z => e z.2.2), Int32.add_zero] at this
    rw [if_neg e, this, Int32.sub_zero]
def bgD (D : dT) (o : Nat) (r c k : Int32) : dT := up2 (up2 (up2 (up2 D o 6 r) o 5 1) o 7 c) o 8 k
theorem bgD_o (D : dT) {o : Nat} (r c k : Int32) {q : Nat} (h : q ≠ o) : bgD D o r c k q = D q := by
  unfold bgD
  rw [up2_o _ _ _ h, up2_o _ _ _ h, up2_o _ _ _ h, up2_o _ _ _ h]
theorem bgD_n (D : dT) (o : Nat) (r c k : Int32) {i : Nat} (h5 : i ≠ 5) (h6 : i ≠ 6) (h7 : i ≠ 7) (h8 : i ≠ 8) : bgD D o r c k o i = D o i := by
  unfold bgD
  rw [up2_ne _ _ (by omega), up2_ne _ _ (by omega), up2_ne _ _ (by omega), up2_ne _ _ (by omega)]
theorem bgD_5 (D : dT) (o : Nat) (r c k : Int32) : bgD D o r c k o 5 = 1 := by
  unfold bgD
  rw [up2_ne _ _ (by omega), up2_ne _ _ (by omega), up2_self]
theorem bgD_6 (D : dT) (o : Nat) (r c k : Int32) : bgD D o r c k o 6 = r := by
  unfold bgD
  rw [up2_ne _ _ (by omega), up2_ne _ _ (by omega), up2_ne _ _ (by omega), up2_self]
theorem bgD_7 (D : dT) (o : Nat) (r c k : Int32) : bgD D o r c k o 7 = c := by
  unfold bgD
  rw [up2_ne _ _ (by omega), up2_self]
theorem bgD_8 (D : dT) (o : Nat) (r c k : Int32) : bgD D o r c k o 8 = k := by
  unfold bgD
  rw [up2_self]
/-- the firm after: places, free straps, the job's row -/
theorem FR_beg {D : dT} {B : Nat} {s : Nat → Int32} {P J j : Nat} {c k : Int32} (h : FR D B s P J) (hS : SI s P J) (hj : j < J) (hw : reasonV s P J j c k = 0) {D1 : dT} (h1 : ∀ q, q ≠ B + 3 → D1 q = bgD D (B + 16 + j) (loadV s j k) c k q) (h2 : ∀ q, q < 3 → D1 (B + 3) q = freeV s J q - (if k = nI q then 1 else 0)) : FR (plD D1 B c (nI j) P) B (begV s j c k) P J := by
  have h10 := SI_P hS
  have h16 := SI_J hS
  obtain ⟨h0, _, _, _⟩ := reason_0 h10 hw
  have e1 : ∀ q, q ≠ B + 3 → q < B + 6 → plD D1 B c (nI j) P q = D q := fun q hq hq2 => by rw [plD_o D1 c (nI j) P (by omega), h1 q hq, bgD_o _ _ _ _ (by omega)]
  refine ⟨⟨fun i hi => ?_, fun i hi => ?_, fun i hi => ?_⟩, ⟨?_, ?_, ?_, ?_, ?_⟩, fun p hp => ⟨?_, ?_, ?_, ?_, ?_⟩, fun i hi q hq => ?_⟩
  · rw [e1 _ (by omega) (by omega), FR_set h i hi, begV_o s j c k (by omega) (by omega) (by omega) (by omega)]
  · rw [e1 _ (by omega) (by omega), FR_own h i hi, begV_o s j c k (by omega) (by omega) (by omega) (by omega)]
  · rw [plD_o D1 c (nI j) P (by omega), h2 i hi, free_beg hj hi h0]
  · rw [e1 _ (by omega) (by omega), FR_P h]
  · rw [e1 _ (by omega) (by omega), FR_J h]
  · rw [e1 _ (by omega) (by omega), FR_h h, begV_o s j c k (by omega) (by omega) (by omega) (by omega)]
  · rw [e1 _ (by omega) (by omega), FR_c h, begV_o s j c k (by omega) (by omega) (by omega) (by omega)]
  · rw [e1 _ (by omega) (by omega), FR_p h, begV_o s j c k (by omega) (by omega) (by omega) (by omega)]
  · rw [plD_k D1 c (nI j) _ (by omega), h1 _ (by omega), bgD_o _ _ _ _ (by omega), FR_p0 h hp, begV_o s j c k (by omega) (by omega) (by omega) (by omega)]
  · rw [plD_k D1 c (nI j) _ (by omega), h1 _ (by omega), bgD_o _ _ _ _ (by omega), FR_p1 h hp, begV_o s j c k (by omega) (by omega) (by omega) (by omega)]
  · rw [plD_at D1 c (nI j) P hp, h1 _ (by omega), bgD_o _ _ _ _ (by omega), FR_p2 h hp, job_beg hS hj hw]
  · rw [plD_k D1 c (nI j) _ (by omega), h1 _ (by omega), bgD_o _ _ _ _ (by omega), FR_p3 h hp, begV_o s j c k (by omega) (by omega) (by omega) (by omega)]
  · rw [plD_k D1 c (nI j) _ (by omega), h1 _ (by omega), bgD_o _ _ _ _ (by omega), FR_p4 h hp, begV_o s j c k (by omega) (by omega) (by omega) (by omega)]
  · rw [plD_o D1 c (nI j) P (by omega), h1 _ (by omega)]
    by_cases e : i = j
    · subst e
      by_cases q5 : q = 5
      · subst q5; rw [bgD_5, begV_5]
      · by_cases q6 : q = 6
        · subst q6; rw [bgD_6, begV_6]
        · by_cases q7 : q = 7
          · subst q7; rw [bgD_7, begV_7]
          · by_cases q8 : q = 8
            · subst q8; rw [bgD_8, begV_8]
            · rw [bgD_n _ _ _ _ _ q5 q6 q7 q8, FR_j h hi hq, begV_o s i c k (by omega) (by omega) (by omega) (by omega)]
    · rw [bgD_o _ _ _ _ (by omega), FR_j h hi hq, begV_o s j c k (by omega) (by omega) (by omega) (by omega)]
theorem c_begin0 {D : dT} {B : Nat} {s : Nat → Int32} {P J j : Nat} {c k : Int32} (h : FR D B s P J) (hS : SI s P J) (hj : j < J) (hk : k = -6 ∨ inR k 3) (hw : reasonV s P J j c k = 0) : ∃ D', F_X0_beginJob B (nI j) c k D = some (loadV s j k, D') ∧ FR D' B (begV s j c k) P J ∧ off B D D' := by
  have h10 := SI_P hS
  have h16 := SI_J hS
  unfold F_X0_beginJob F_X0_beginJob_82
  rw [c_whyNot h hS hj c hk, bd_some, if_pos hw, if_pos (inRn (by omega) (by omega)), nI_clamp (by omega), c_loadWith h hS hj hk, bd_some, c_isKind, bd_some]
  show ∃ D', (if (if inR k 3 then (1 : Int32) else 0) = 0 then bd (F_X0_placeCrew B c (nI j) (bgD D (B + 16 + j) (loadV s j k) c k)) (fun _ D2 => some (D2 (B + 16 + j) 6, D2)) else if inR k 3 then if inR k 3 then bd (F_X0_placeCrew B c (nI j) (up2 (bgD D (B + 16 + j) (loadV s j k) c k) (B + 3) k.toNatClampNeg ((bgD D (B + 16 + j) (loadV s j k) c k) (B + 3) k.toNatClampNeg - 1))) (fun _ D2 => some (D2 (B + 16 + j) 6, D2)) else none else none) = _ ∧ _
  have ofb : off B D (bgD D (B + 16 + j) (loadV s j k) c k) := fun q hq => bgD_o _ _ _ _ (by omega)
  by_cases hk3 : inR k 3
  · rw [if_pos hk3, if_neg (by decide), if_pos hk3, if_pos hk3]
    obtain ⟨q, hq, rfl⟩ := inR_of hk3 (by decide)
    rw [nI_clamp (by omega)]
    have hP : (up2 (bgD D (B + 16 + j) (loadV s j (nI q)) c (nI q)) (B + 3) q (bgD D (B + 16 + j) (loadV s j (nI q)) c (nI q) (B + 3) q - 1)) B 5 = nI P := by
      rw [up2_o _ _ _ (by omega), bgD_o _ _ _ _ (by omega), FR_P h]
    rw [c_place _ hP h10, bd_some]
    refine ⟨plD (up2 (bgD D (B + 16 + j) (loadV s j (nI q)) c (nI q)) (B + 3) q (bgD D (B + 16 + j) (loadV s j (nI q)) c (nI q) (B + 3) q - 1)) B c (nI j) P, ?_, FR_beg h hS hj hw (fun i hi => up2_o _ _ _ hi) (fun i hi => ?_), off_t (off_t ofb (off_u (off_r B _) (by omega) (by omega))) (plD_off _ _ _ h10)⟩
    · rw [plD_k _ _ _ _ (by omega), up2_o _ _ _ (by omega), bgD_6]
    · rw [bgD_o _ _ _ _ (by omega), FR_fre h q hq]
      by_cases e : i = q
      · subst e; rw [up2_self, if_pos rfl]
      · rw [up2_ne _ _ (by omega), bgD_o _ _ _ _ (by omega), FR_fre h i hi, if_neg (fun z => e ((nI_eq (by omega) (by omega)).mp z).symm), Int32.sub_zero]
  · rw [if_neg hk3, if_pos rfl]
    have hP : (bgD D (B + 16 + j) (loadV s j k) c k) B 5 = nI P := by rw [bgD_o _ _ _ _ (by omega), FR_P h]
    rw [c_place _ hP h10, bd_some]
    refine ⟨plD (bgD D (B + 16 + j) (loadV s j k) c k) B c (nI j) P, ?_, FR_beg h hS hj hw (fun i hi => rfl) (fun i hi => ?_), off_t ofb (plD_off _ _ _ h10)⟩
    · rw [plD_k _ _ _ _ (by omega), bgD_6]
    · rw [bgD_o _ _ _ _ (by omega), FR_fre h i hi, if_neg (fun z => hk3 (by rw [z]; exact inRn hi (by omega))), Int32.sub_zero]
theorem c_begin1 {D : dT} {B : Nat} {s : Nat → Int32} {P J j : Nat} {c k : Int32} (h : FR D B s P J) (hS : SI s P J) (hj : j < J) (hk : k = -6 ∨ inR k 3) (hw : ¬ reasonV s P J j c k = 0) (hw2 : 0 ≤ reasonV s P J j c k) : F_X0_beginJob B (nI j) c k D = some (-5, D) := by
  unfold F_X0_beginJob
  rw [c_whyNot h hS hj c hk, bd_some, if_neg hw, if_pos hw2]
