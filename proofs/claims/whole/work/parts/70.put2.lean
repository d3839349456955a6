theorem lN_z {a : Nat} (h : a < 2 ^ 64) : lN a = 0 ↔ a = 0 := by
  constructor
  · intro e
    have : (lN a).toBitVec.toNat = (0 : Int64).toBitVec.toNat := by rw [e]
    rw [wb_tn h] at this
    exact this
  · rintro rfl; rfl
theorem lg_z {a : Nat} (h : a < 2 ^ 64) : lg_cmp (lN a) 0 = 0 ↔ a = 0 := (lg_cmp_eq _ _).trans (lN_z h)
theorem lN_255 {a : Nat} (h : a < 2 ^ 64) : lN a &&& (255 : Int64) = lN (a % 256) := wb_mask (k := 8) h (by omega)
theorem r_shr8 {a : Nat} (h : a < 2 ^ 64) : ((lN a).toUInt64 >>> ((8 : Int32).toInt64.toUInt64 &&& Int64.toUInt64 63)).toInt64 = lN (a / 2 ^ 8) := wb_shr (k := 8) h (by omega)
theorem c_shr8 {n v : Nat} (hn : n < 2 ^ 64) (hv : v < 8) : ((lN n).toUInt64 >>> (((8 : Int32) * nI v).toInt64.toUInt64 &&& Int64.toUInt64 63)).toInt64 = lN (n / 2 ^ (8 * v)) := by
  rw [show (8 : Int32) * nI v = nI (8 * v) from nI_mul 8 v, wb_shr hn (by omega)]
theorem put_ill (x : Int64) (D : dT) : ∀ d v fu a, v + d = 8 → d < fu → a < 2 ^ 64 → F_X6_put_13 fu x (nI v) (lN a) 0 D = some (-2, D) := by
  have e72 : ∀ v a, F_X6_put_72 x v a 0 D = some (-2, D) := by
    intro v a
    unfold F_X6_put_72
    split
    · rfl
    · rw [if_pos rfl]
  intro d
  induction d with
  | zero =>
    intro v fu a h1 h2 h3
    obtain ⟨fu, rfl⟩ : ∃ f, fu = f + 1 := ⟨fu - 1, by omega⟩
    have : v = 8 := by omega
    subst this
    unfold F_X6_put_13
    rw [if_pos (show (8 : Int32) ≤ nI 8 by decide), e72]
  | succ d ih =>
    intro v fu a h1 h2 h3
    obtain ⟨fu, rfl⟩ : ∃ f, fu = f + 1 := ⟨fu - 1, by omega⟩
    unfold F_X6_put_13
    rw [if_neg (show ¬ (8 : Int32) ≤ nI v from nI_ge (b := 8) (by omega) (by omega))]
    split
    · exact e72 _ _
    · rw [if_pos rfl]
      unfold F_X6_put_56 F_X6_put_57
      rw [nI_1, r_shr8 h3]
      exact ih (v + 1) fu _ (by omega) (by omega) (Nat.lt_of_le_of_lt (Nat.div_le_self _ _) h3)
theorem in_rg {b : Nat} (hb : b < 256) : (33 ≤ nI b ∧ nI b ≤ 126) ↔ (33 ≤ b ∧ b ≤ 126) := by
  rw [show (33 : Int32) = nI 33 from rfl, show (126 : Int32) = nI 126 from rfl, nI_leI (by omega) (by omega), nI_leI (by omega) (by omega)]
theorem put_w {n : Nat} (hn : n < 2 ^ 64) : ∀ d v, v + d = 8 → (∀ k, k < v → rg (nI (byN n k)) 33 126) →
    ∃ m, m ≤ 8 ∧ (∀ fu, d < fu → ∀ D, F_X3_signsIn_2 fu (lN n) (nI v) D = some (nI m, D)) ∧
      (∀ fu, d < fu → ∀ D, F_X6_put_13 fu (lN n) (nI v) (lN (n / 2 ^ (8 * v))) 1 D = if m = 0 then some (-2, D) else if (D 378 8) + nI m ≤ 80 then F_X6_put_108 lim (lN n) (nI m) 0 D else some (-4, D)) ∧
      ∀ k, k < m → rg (nI (byN n k)) 33 126 := by
  intro d
  induction d with
  | zero =>
    intro v h1 hb
    have : v = 8 := by omega
    subst this
    refine ⟨8, by omega, fun fu hf D => ?_, fun fu hf D => ?_, hb⟩
    · obtain ⟨fu, rfl⟩ : ∃ f, fu = f + 1 := ⟨fu - 1, by omega⟩
      unfold F_X3_signsIn_2 F_X3_signsIn_39 F_X3_signsIn_56 F_X3_signsIn_61
      rw [if_pos (show (8 : Int32) ≤ nI 8 by decide), if_pos (show nI 8 = (8 : Int32) from rfl), if_neg o10]
    · obtain ⟨fu, rfl⟩ : ∃ f, fu = f + 1 := ⟨fu - 1, by omega⟩
      unfold F_X6_put_13 F_X6_put_72
      rw [if_pos (show (8 : Int32) ≤ nI 8 by decide), if_neg (show ¬ nI 8 = (0 : Int32) by decide), if_neg o10, if_neg (show ¬ (8 : Nat) = 0 by omega)]
      rw [if_pos ((lg_z (Nat.lt_of_le_of_lt (Nat.div_le_self _ _) hn)).mpr (Nat.div_eq_of_lt hn))]
  | succ d ih =>
    intro v h1 hb
    have hv : v < 8 := by omega
    have h8 : ¬ (8 : Int32) ≤ nI v := nI_ge (b := 8) (by omega) (by omega)
    have hv8 : ¬ nI v = (8 : Int32) := fun z => by
      rw [show (8 : Int32) = nI 8 from rfl, nI_eq (by omega) (by omega)] at z; omega
    have hq : n / 2 ^ (8 * v) < 2 ^ 64 := Nat.lt_of_le_of_lt (Nat.div_le_self _ _) hn
    have hby : byN n v < 256 := byN_lt n v
    have hbd : byN n v = n / 2 ^ (8 * v) % 256 := rfl
    have hb64 : byN n v < 2 ^ 64 := by omega
    by_cases b0 : byN n v = 0
    · by_cases q0 : n / 2 ^ (8 * v) = 0
      · refine ⟨v, by omega, fun fu hf D => ?_, fun fu hf D => ?_, hb⟩
        · obtain ⟨fu, rfl⟩ : ∃ f, fu = f + 1 := ⟨fu - 1, by omega⟩
          unfold F_X3_signsIn_2 F_X3_signsIn_39 F_X3_signsIn_56 F_X3_signsIn_61
          rw [if_neg h8, c_signOf hn hv, bd_some, b0, if_pos (show nI 0 = (0 : Int32) from rfl), if_neg hv8, c_shr8 hn hv, if_pos ((lg_z hq).mpr q0), if_neg o10]
        · obtain ⟨fu, rfl⟩ : ∃ f, fu = f + 1 := ⟨fu - 1, by omega⟩
          unfold F_X6_put_13 F_X6_put_72
          rw [if_neg h8, lN_255 hq, ← hbd, if_pos ((lg_z hb64).mpr b0)]
          by_cases v0 : v = 0
          · subst v0
            rw [if_pos (show nI 0 = (0 : Int32) from rfl), if_pos rfl]
          · rw [if_neg (nI_ne0 (by omega) (by omega)), if_neg o10, if_neg v0, if_pos ((lg_z hq).mpr q0)]
      · refine ⟨0, by omega, fun fu hf D => ?_, fun fu hf D => ?_, fun k hk => absurd hk (by omega)⟩
        · obtain ⟨fu, rfl⟩ : ∃ f, fu = f + 1 := ⟨fu - 1, by omega⟩
          unfold F_X3_signsIn_2 F_X3_signsIn_39 F_X3_signsIn_61
          rw [if_neg h8, c_signOf hn hv, bd_some, b0, if_pos (show nI 0 = (0 : Int32) from rfl), if_neg hv8, c_shr8 hn hv, if_neg (fun z => q0 ((lg_z hq).mp z)), if_pos rfl]
          rfl
        · obtain ⟨fu, rfl⟩ : ∃ f, fu = f + 1 := ⟨fu - 1, by omega⟩
          unfold F_X6_put_13 F_X6_put_72
          rw [if_neg h8, lN_255 hq, ← hbd, if_pos ((lg_z hb64).mpr b0), if_pos (show (0 : Nat) = 0 from rfl), if_neg o10, if_neg (fun z => q0 ((lg_z hq).mp z))]
          split <;> rfl
    · have bz : ¬ nI (byN n v) = (0 : Int32) := nI_ne0 (by omega) (by omega)
      by_cases hr : 33 ≤ byN n v ∧ byN n v ≤ 126
      · obtain ⟨m, m1, m2, m3, m4⟩ := ih (v + 1) (by omega) (fun k hk => by
          by_cases e : k = v
          · subst e; exact ⟨_, hr.1, hr.2, rfl⟩
          · exact hb k (by omega))
        refine ⟨m, m1, fun fu hf D => ?_, fun fu hf D => ?_, m4⟩
        · obtain ⟨fu, rfl⟩ : ∃ f, fu = f + 1 := ⟨fu - 1, by omega⟩
          unfold F_X3_signsIn_2
          rw [if_neg h8, c_signOf hn hv, bd_some, if_neg bz, c_signOf hn hv, bd_some, c_isWithin, bd_some, if_pos ((in_rg hby).mpr hr), if_neg o10, nI_1]
          exact m2 fu (by omega) D
        · obtain ⟨fu, rfl⟩ : ∃ f, fu = f + 1 := ⟨fu - 1, by omega⟩
          unfold F_X6_put_13
          rw [if_neg h8, lN_255 hq, ← hbd, if_neg (fun z => b0 ((lg_z hb64).mp z)), if_neg o10, lN_i, r_in, bd_some, if_pos ((in_rg hby).mpr hr), if_neg o10]
          unfold F_X6_put_57
          have := m3 fu (by omega) D
          rw [Nat.mul_add, Nat.pow_add, ← Nat.div_div_eq_div_mul] at this
          rw [nI_1, r_shr8 hq]
          exact this
      · refine ⟨0, by omega, fun fu hf D => ?_, fun fu hf D => ?_, fun k hk => absurd hk (by omega)⟩
        · obtain ⟨fu, rfl⟩ : ∃ f, fu = f + 1 := ⟨fu - 1, by omega⟩
          unfold F_X3_signsIn_2
          rw [if_neg h8, c_signOf hn hv, bd_some, if_neg bz, c_signOf hn hv, bd_some, c_isWithin, bd_some, if_neg (fun z => hr ((in_rg hby).mp z)), if_pos rfl]
          rfl
        · obtain ⟨fu, rfl⟩ : ∃ f, fu = f + 1 := ⟨fu - 1, by omega⟩
          unfold F_X6_put_13
          rw [if_neg h8, lN_255 hq, ← hbd, if_neg (fun z => b0 ((lg_z hb64).mp z)), if_neg o10, lN_i, r_in, bd_some, if_neg (fun z => hr ((in_rg hby).mp z)), if_pos rfl, if_pos rfl]
          unfold F_X6_put_56 F_X6_put_57
          rw [nI_1, r_shr8 hq]
          exact put_ill _ D d (v + 1) fu _ (by omega) (by omega) (Nat.lt_of_le_of_lt (Nat.div_le_self _ _) hq)
/-- the pad with the m bytes of n behind L, those up to k laid already -/
def apV (u : Nat → Int32) (n L m k : Nat) : Nat → Int32 := fun i => if L + k ≤ i ∧ i < L + m then nI (byN n (m - 1 - (i - L))) else u i
theorem apV_s (u : Nat → Int32) (n : Nat) {L m k : Nat} (hk : k < m) : apV (upd u (L + k) (nI (byN n (m - 1 - k)))) n L m (k + 1) = apV u n L m k := by
  funext i
  unfold apV
  by_cases e : i = L + k
  · subst e
    rw [if_neg (by omega), if_pos (by omega), upd_s, show L + k - L = k by omega]
  · rw [upd_n _ _ e]
    by_cases h : L + k ≤ i ∧ i < L + m
    · rw [if_pos (by omega), if_pos h]
    · rw [if_neg (by omega), if_neg h]
theorem app_c {n m L : Nat} (hn : n < 2 ^ 64) (hm : m ≤ 8) (hL : L + m ≤ 80) : ∀ d k fu (D : dT), k + d = m → d < fu → D 311 4 = nI L →
    F_X3_append_29 fu (lN n) (nI m) (nI k) D = some (nI (L + m), up2 (wr D 312 (apV (D 312) n L m k)) 311 4 (nI (L + m))) := by
  intro d
  induction d with
  | zero =>
    intro k fu D h1 h2 h3
    obtain ⟨fu, rfl⟩ : ∃ f, fu = f + 1 := ⟨fu - 1, by omega⟩
    have : k = m := by omega
    subst this
    unfold F_X3_append_29
    rw [if_pos (nI_le (by omega) (by omega)), h3, nI_add, up2_self]
    rw [wr_eq (f := apV (D 312) n L k k)]
    funext i
    unfold apV
    rw [if_neg (by omega)]
  | succ d ih =>
    intro k fu D h1 h2 h3
    obtain ⟨fu, rfl⟩ : ∃ f, fu = f + 1 := ⟨fu - 1, by omega⟩
    unfold F_X3_append_29
    rw [if_neg (nI_ge (by omega) (by omega)), show nI m - 1 = nI (m - 1) from nI_sub (b := 1) (by omega), nI_sub (by omega), c_signOf hn (by omega), bd_some, h3, nI_add]
    simp only [if_pos (inRn (show L + k < 80 by omega) (by omega)), nI_clamp (show L + k < 2 ^ 31 by omega)]
    rw [nI_1, ih (k + 1) fu _ (by omega) (by omega) (by rw [up2_o _ _ _ (by omega)]; exact h3), wr_up D 312, wr_wr, wr_s, apV_s _ _ (by omega)]
theorem app_r {n m L : Nat} (hn : n < 2 ^ 64) (hm : m ≤ 8) (hL : L + m ≤ 80) : ∀ d k fu (D : dT), k + d = m → d < fu → D 378 8 = nI L →
    F_X6_put_108 fu (lN n) (nI m) (nI k) D = some (nI (L + m), up2 (wr D 384 (apV (D 384) n L m k)) 378 8 (nI (L + m))) := by
  intro d
  induction d with
  | zero =>
    intro k fu D h1 h2 h3
    obtain ⟨fu, rfl⟩ : ∃ f, fu = f + 1 := ⟨fu - 1, by omega⟩
    have : k = m := by omega
    subst this
    unfold F_X6_put_108
    rw [if_pos (nI_le (by omega) (by omega)), h3, nI_add, up2_self]
    rw [wr_eq (f := apV (D 384) n L k k)]
    funext i
    unfold apV
    rw [if_neg (by omega)]
  | succ d ih =>
    intro k fu D h1 h2 h3
    obtain ⟨fu, rfl⟩ : ∃ f, fu = f + 1 := ⟨fu - 1, by omega⟩
    unfold F_X6_put_108
    rw [if_neg (nI_ge (by omega) (by omega)), show nI m - 1 = nI (m - 1) from nI_sub (b := 1) (by omega), nI_sub (by omega), h3, nI_add]
    simp only [if_pos (inRn (show L + k < 80 by omega) (by omega)), nI_clamp (show L + k < 2 ^ 31 by omega)]
    rw [c_shr8 hn (show m - 1 - k < 8 by omega), lN_255 (Nat.lt_of_le_of_lt (Nat.div_le_self _ _) hn), lN_i, show n / 2 ^ (8 * (m - 1 - k)) % 256 = byN n (m - 1 - k) from rfl]
    rw [nI_1, ih (k + 1) fu _ (by omega) (by omega) (by rw [up2_o _ _ _ (by omega)]; exact h3), wr_up D 384, wr_wr, wr_s, apV_s _ _ (by omega)]
theorem b_put {D : dT} (h : RR D) (x : Int64) : both D (F_X5_put x) (F_X6_put x) := by
  obtain ⟨hf, h0, ⟨o, c, ho, hc, h1, h2, h4, hX⟩, hS, ⟨L, hL, l1, l2, l3⟩⟩ := id h
  obtain ⟨n, hn, rfl⟩ := wb_of x
  obtain ⟨m, m1, m2, m3, m4⟩ := put_w hn 8 0 (by omega) (fun k hk => absurd hk (by omega))
  have m2' := m2 lim (by decide) D
  have m3' := fun E : dT => m3 lim (by decide) E
  simp only [Nat.mul_zero, Nat.pow_zero, Nat.div_one] at m3'
  have eC : F_X5_put (lN n) D = bd (if 0 < nI m then if ((D 311 4) + nI m) ≤ 80 then F_X3_append_29 lim (lN n) (nI m) 0 D else some (-4, D) else some (-2, D)) (fun (r1 : Int32) (D2 : dT) => some (r1, D2)) := by
    unfold F_X5_put F_X3_append F_X3_signsIn
    rw [show (0 : Int32) = nI 0 from rfl, m2', bd_some]
  have eR : ∀ E : dT, E 378 0 = 0 → F_X6_put (lN n) E = if m = 0 then some (-2, E) else if (E 378 8) + nI m ≤ 80 then F_X6_put_108 lim (lN n) (nI m) 0 E else some (-4, E) := by
    intro E hE
    unfold F_X6_put
    rw [up2_id hE]
    exact m3' E
  by_cases hm : m = 0
  · subst hm
    refine ⟨-2, D, D, ?_, ?_, h⟩
    · rw [eC, if_neg (by decide), bd_some]
    · rw [eR D h0, if_pos rfl]
  · have hp : 0 < nI m := nI_lt (a := 0) (by omega) (by omega)
    have hle : (nI L + nI m ≤ 80) ↔ L + m ≤ 80 := by
      rw [nI_add, show (80 : Int32) = nI 80 from rfl, nI_leI (by omega) (by omega)]
    by_cases hs : L + m ≤ 80
    · have a1 := app_c hn m1 hs m 0 lim D (by omega) (lim_lt (by omega)) l1
      generalize hDc : up2 (wr D 312 (apV (D 312) n L m 0)) 311 4 (nI (L + m)) = Dc at a1
      have ec : ∀ q, q ≠ 311 → q ≠ 312 → Dc q = D q := fun q a b => by rw [← hDc, up2_o _ _ _ a, wr_o _ _ b]
      have g378 : Dc 378 = D 378 := ec 378 (by omega) (by omega)
      have a2 := app_r hn m1 hs m 0 lim Dc (by omega) (lim_lt (by omega)) (by rw [g378]; exact l2)
      generalize hE : up2 (wr Dc 384 (apV (Dc 384) n L m 0)) 378 8 (nI (L + m)) = E at a2
      have ee : ∀ q, q ≠ 378 → q ≠ 384 → E q = Dc q := fun q a b => by rw [← hE, up2_o _ _ _ a, wr_o _ _ b]
      have ed : ∀ q, q ≠ 311 → q ≠ 312 → q ≠ 378 → q ≠ 384 → E q = D q := fun q a b c d => by rw [ee q c d, ec q a b]
      have e378 : ∀ k, k ≠ 8 → E 378 k = D 378 k := fun k hk => by rw [← hE, up2_ne _ _ (by omega), wr_o _ _ (by omega), g378]
      refine ⟨nI (L + m), Dc, E, ?_, ?_, ?_⟩
      · rw [eC, if_pos hp, l1, if_pos (hle.mpr hs)]
        exact (congrArg (fun z => bd z _) a1).trans rfl
      · rw [eR Dc (by rw [g378]; exact h0), if_neg hm, g378, l2, if_pos (hle.mpr hs)]
        exact a2
      · refine ⟨?_, by rw [e378 0 (by omega)]; exact h0, ⟨o, c, ho, hc, by rw [ed 85 (by omega) (by omega) (by omega) (by omega)]; exact h1, by rw [ed 85 (by omega) (by omega) (by omega) (by omega)]; exact h2, by rw [e378 4 (by omega)]; exact h4, ?_⟩, SX_off hS (fun q hq => ed q (by omega) (by omega) (by omega) (by omega)), ⟨L + m, hs, ?_, ?_, ?_⟩⟩
        · rw [ed 379 (by omega) (by omega) (by omega) (by omega)]
          exact FS_off hf (fun q a b => ed q (by omega) (by omega) (by omega) (by omega))
        · rw [ed 381 (by omega) (by omega) (by omega) (by omega)]
          exact HX_off hX (fun i hi q a b => ed q (by omega) (by omega) (by omega) (by omega))
        · rw [ee 311 (by omega) (by omega), ← hDc, up2_self]
        · rw [← hE, up2_self]
        · intro i hi
          have f1 : E 312 i = apV (D 312) n L m 0 i := by rw [ee 312 (by omega) (by omega), ← hDc, up2_o _ _ _ (by omega), wr_s]
          have f2 : E 384 i = apV (D 384) n L m 0 i := by rw [← hE, up2_o _ _ _ (by omega), wr_s, ec 384 (by omega) (by omega)]
          rw [f1, f2]
          unfold apV
          by_cases hi2 : L + 0 ≤ i ∧ i < L + m
          · rw [if_pos hi2, if_pos hi2]
            exact ⟨rfl, m4 _ (by omega)⟩
          · rw [if_neg hi2, if_neg hi2]
            exact l3 i (by omega)
    · refine ⟨-4, D, D, ?_, ?_, h⟩
      · rw [eC, if_pos hp, l1, if_neg (fun z => hs (hle.mp z)), bd_some]
      · rw [eR D h0, if_neg hm, l2, if_neg (fun z => hs (hle.mp z))]
