/-! each change: refused, or a new s, the same for every world that stands for s -/
theorem st_nn {s : Nat → Int32} {P J k : Nat} (h : SI s P J) (hk : k < 4) : ¬ s k < 0 := by
  have hb : ∃ a b, b < 100 ∧ rg (s k) a b := by
    obtain ⟨b1, b2, b3, b4, _, _⟩ := h.2.1
    have : k = 0 ∨ k = 1 ∨ k = 2 ∨ k = 3 := by omega
    rcases this with rfl | rfl | rfl | rfl
    · exact ⟨_, _, by omega, b1⟩
    · exact ⟨_, _, by omega, b2⟩
    · exact ⟨_, _, by omega, b3⟩
    · exact ⟨_, _, by omega, b4⟩
  obtain ⟨a, b, hb, n, _, hn, e⟩ := hb
  rw [e]
  exact nI_pos (by omega)
def lockp (s : Nat → Int32) (op : dT → Option (Int32 × dT)) (n : Nat) : Prop :=
  (∃ e, e < 0 ∧ ∀ D, FS D 19 s → op D = some (e, D)) ∨ ∃ v s', ¬ v < 0 ∧ KK s' n ∧ ∀ D, FS D 19 s → ∃ D', op D = some (v, D') ∧ FS D' 19 s' ∧ off 19 D D'
def ALT (s : Nat → Int32) (f : dT → Option (Int32 × dT)) (n : Nat) : Prop :=
  (∃ e, e < 0 ∧ ∀ D u c, GR D s u c → ∃ D', f D = some (e, D') ∧ GR D' s u c) ∨ ∃ v s', ¬ v < 0 ∧ KK s' n ∧ ∀ D u c, GR D s u c → ∃ D', f D = some (v, D') ∧ GR D' s' (pushU u s c) (recN c)
theorem ALT_of {s : Nat → Int32} {f op : dT → Option (Int32 × dT)} {n : Nat} (hk : lockp s op n) (e : ∀ D, FS D 19 s → f D = cgF op D) : ALT s f n := by
  rcases hk with ⟨x, hx, ho⟩ | ⟨v, s', v0, hK, ho⟩
  · exact Or.inl ⟨x, hx, fun D u c h => by rw [e D h.1]; exact chgL hx ho h⟩
  · exact Or.inr ⟨v, s', v0, hK, fun D u c h => by rw [e D h.1]; exact chgR v0 ho h⟩
theorem KK_le {s : Nat → Int32} {n m : Nat} (h : KK s n) (hm : n ≤ m) : KK s m := by
  obtain ⟨P, J, h, a, b, c, d⟩ := h
  exact ⟨P, J, h, a, b, c, by omega⟩
theorem p_set {s : Nat → Int32} {n : Nat} (hK : KK s n) (x v : Int32) : lockp s (F_X0_changeSetting 19 x v) n := by
  obtain ⟨P, J, h, hS, hX, h4, hn⟩ := hK
  by_cases hx : inR x 4
  · obtain ⟨k, hk, rfl⟩ := inR_of hx (by omega)
    by_cases hv : sDat 1 k ≤ v ∧ v ≤ sDat 2 k
    · refine Or.inr ⟨s k, upd s k v, st_nn hS hk, ⟨P, J, h, SI_set hS hk hv, XI_set hX hk v, by rw [upd_n _ _ (by omega)]; exact h4, hn⟩, fun D hD => ?_⟩
      obtain ⟨D', a, b, c⟩ := c_set0 (FS_at hD hS) (SI_P hS) hk hv
      exact ⟨D', a, ⟨P, J, b, SI_set hS hk hv⟩, c⟩
    · exact Or.inl ⟨-2, by decide, fun D _ => c_set2 D 19 hk hv⟩
  · exact Or.inl ⟨-2, by decide, fun D _ => c_set1 D 19 hx⟩
theorem p_buy {s : Nat → Int32} {n : Nat} (hK : KK s n) (x : Int32) : lockp s (F_X0_addStraps 19 x) n := by
  obtain ⟨P, J, h, hS, hX, h4, hn⟩ := hK
  by_cases hx : inR x 3
  · obtain ⟨k, hk, rfl⟩ := inR_of hx (by omega)
    by_cases hv : s (9 + k) = 9
    · exact Or.inl ⟨-4, by decide, fun D hD => c_buy2 (FS_at hD hS) hk hv⟩
    · refine Or.inr ⟨s (9 + k) + 1, buyV s k, ?_, ⟨P, J, h, SI_buy hS hk hv, XI_buy hS hX hk, by rw [show buyV s k 4 = s 4 from upd_n _ _ (by omega)]; exact h4, hn⟩, fun D hD => ?_⟩
      · obtain ⟨m, _, hm, e⟩ := hS.2.1.2.2.2.2.2 k hk
        rw [e, nI_1]
        exact nI_pos (by omega)
      · obtain ⟨D', a, b, c⟩ := c_buy0 (FS_at hD hS) hS hk hv
        exact ⟨D', a, ⟨P, J, b, SI_buy hS hk hv⟩, c⟩
  · exact Or.inl ⟨-1, by decide, fun D _ => c_buy1 D 19 hx⟩
theorem p_per {s : Nat → Int32} {n : Nat} (hK : KK s n) (x : Int32) : lockp s (F_X0_addPerson 19 x) n := by
  obtain ⟨P, J, h, hS, hX, h4, hn⟩ := hK
  have h10 := SI_P hS
  by_cases hx : 10 ≤ x ∧ x ≤ 150
  · by_cases e : P = 10
    · exact Or.inl ⟨-4, by decide, fun D hD => c_per2 (FS_at hD hS) hx e⟩
    · refine Or.inr ⟨nI P, perV s P x, nI_pos (by omega), ⟨P + 1, J, h, SI_per hS hx (by omega), XI_per hX (by omega) x, by rw [perV_o s x (by omega) (by omega) (by omega)]; exact h4, hn⟩, fun D hD => ?_⟩
      obtain ⟨D', a, b, c⟩ := c_per0 (FS_at hD hS) hS hx (by omega)
      exact ⟨D', a, ⟨P + 1, J, b, SI_per hS hx (by omega)⟩, c⟩
  · exact Or.inl ⟨-2, by decide, fun D _ => c_per1 D 19 hx⟩
theorem p_job {s : Nat → Int32} {n : Nat} (hK : KK s n) (w f g p d : Int32) : lockp s (F_X0_addJob 19 w f g p d) n := by
  obtain ⟨P, J, h, hS, hX, h4, hn⟩ := hK
  have h16 := SI_J hS
  by_cases hx : jokV w f g p d
  · by_cases e : J = 16
    · exact Or.inl ⟨-4, by decide, fun D hD => c_job2 (FS_at hD hS) hx e⟩
    · refine Or.inr ⟨nI J, adjV s J w f g p d, nI_pos (by omega), ⟨P, J + 1, h, SI_job hS hx (by omega), XI_job hS hX (by omega), by rw [adjV_o s w f g p d (by omega) (by omega)]; exact h4, hn⟩, fun D hD => ?_⟩
      obtain ⟨D', a, b, c⟩ := c_job0 (FS_at hD hS) hS hx (by omega)
      exact ⟨D', a, ⟨P, J + 1, b, SI_job hS hx (by omega)⟩, c⟩
  · exact Or.inl ⟨-2, by decide, fun D _ => c_job1 D 19 hx⟩
theorem p_beg {s : Nat → Int32} {n : Nat} (hK : KK s n) (x c k : Int32) : lockp s (F_X0_beginJob 19 x c k) n := by
  obtain ⟨P, J, h, hS, hX, h4, hn⟩ := hK
  have h16 := SI_J hS
  by_cases hx : inR x J
  · by_cases hk : k = -6 ∨ inR k 3
    · obtain ⟨j, hj, rfl⟩ := inR_of hx (by omega)
      by_cases hw : reasonV s P J j c k = 0
      · refine Or.inr ⟨loadV s j k, begV s j c k, ?_, ⟨P, J, h, SI_beg hS hj hk hw, XI_beg hS hX hj hw, by rw [begV_o s j c k (by omega) (by omega) (by omega) (by omega)]; exact h4, hn⟩, fun D hD => ?_⟩
        · have := SI_lPos hS j hj k hk
          rw [lt_toInt] at this ⊢; omega
        · obtain ⟨D', a, b, d⟩ := c_begin0 (FS_at hD hS) hS hj hk hw
          exact ⟨D', a, ⟨P, J, b, SI_beg hS hj hk hw⟩, d⟩
      · exact Or.inl ⟨-5, by decide, fun D hD => c_begin1 (FS_at hD hS) hS hj hk hw (reason_nn s P J j c k)⟩
    · refine Or.inl ⟨-2, by decide, fun D hD => ?_⟩
      unfold F_X0_beginJob
      rw [c_whyNot2 (FS_at hD hS) h16 hx c hk, bd_some, if_neg (by decide), if_neg (by decide)]
  · refine Or.inl ⟨-1, by decide, fun D hD => ?_⟩
    unfold F_X0_beginJob
    rw [c_whyNot1 (FS_at hD hS) h16 hx, bd_some, if_neg (by decide), if_neg (by decide)]
theorem p_asg {s : Nat → Int32} {n : Nat} (hK : KK s n) : lockp s (F_X0_assignJobs 19) n := by
  obtain ⟨P, J, h, hS, hX, h4, hn⟩ := hK
  obtain ⟨x1, x2⟩ := XI_asg hS hX
  by_cases hf : ∃ D, FS D 19 s
  · obtain ⟨D0, h0⟩ := hf
    obtain ⟨_, _, _, hS', _⟩ := c_asg (FS_at h0 hS) hS
    refine Or.inr ⟨(asgV s P J).1, (asgV s P J).2, asg_nn (SI_J hS), ⟨P, J, h, hS', x1, by rw [x2]; exact h4, hn⟩, fun D hD => ?_⟩
    obtain ⟨D', a, b, c, d⟩ := c_asg (FS_at hD hS) hS
    exact ⟨D', a, ⟨P, J, b, c⟩, d⟩
  · exact Or.inl ⟨-1, by decide, fun D hD => absurd ⟨D, hD⟩ hf⟩
theorem p_del {s : Nat → Int32} {n : Nat} (hK : KK s n) (x y : Int32) : lockp s (F_X0_delayJob 19 x y) n := by
  obtain ⟨P, J, h, hS, hX, h4, hn⟩ := hK
  have h16 := SI_J hS
  by_cases hx : inR x J
  · obtain ⟨j, hj, rfl⟩ := inR_of hx (by omega)
    by_cases hy : 1 ≤ y ∧ y ≤ 20
    · by_cases h1 : HOW s j = 1 ∧ s (52 + 12 * j + 9) + y ≤ 60
      · refine Or.inr ⟨s (52 + 12 * j + 9) + y, delV s j y, ?_, ⟨P, J, h, SI_del hS hj hy h1.1 h1.2, XI_del hX y, by rw [show delV s j y 4 = s 4 from upd_n _ _ (by omega)]; exact h4, hn⟩, fun D hD => ?_⟩
        · obtain ⟨dl, _, hdl, edl⟩ := (hS.2.2.2.1 j hj).1.2.2.2.2.2
          obtain ⟨m, m1, m2, em⟩ := rg_of (a := 1) (b := 20) (by omega) hy.1 hy.2 (by omega)
          rw [edl, em, nI_add]
          exact nI_pos (by omega)
        · obtain ⟨D', a, b, c⟩ := c_del0 (FS_at hD hS) hS hj hy h1.1 h1.2
          exact ⟨D', a, ⟨P, J, b, SI_del hS hj hy h1.1 h1.2⟩, c⟩
      · exact Or.inl ⟨-5, by decide, fun D hD => c_del3 (FS_at hD hS) hS hj hy h1⟩
    · exact Or.inl ⟨-2, by decide, fun D hD => c_del2 (FS_at hD hS) h16 hx hy⟩
  · exact Or.inl ⟨-1, by decide, fun D hD => c_del1 (FS_at hD hS) h16 hx⟩
theorem p_off {s : Nat → Int32} {n : Nat} (hK : KK s n) (x : Int32) : lockp s (F_X0_callOffJob 19 x) n := by
  obtain ⟨P, J, h, hS, hX, h4, hn⟩ := hK
  have h10 := SI_P hS
  have h16 := SI_J hS
  by_cases hx : inR x J
  · obtain ⟨j, hj, rfl⟩ := inR_of hx (by omega)
    by_cases h1 : HOW s j = 0 ∨ HOW s j = 1
    · refine Or.inr ⟨CRW s j, offV s j, ?_, ⟨P, J, h, SI_off hS hj, XI_off hS hX hj h1, by rw [show offV s j 4 = s 4 from upd_n _ _ (by omega)]; exact h4, hn⟩, fun D hD => ?_⟩
      · obtain ⟨m, hm, e⟩ := c_small h10 (hS.2.2.2.1 j hj).2.2.1
        have := pw_le h10
        rw [e]
        exact nI_pos (by omega)
      · obtain ⟨D', a, b, c⟩ := c_off0 (FS_at hD hS) hS hj h1
        exact ⟨D', a, ⟨P, J, b, SI_off hS hj⟩, c⟩
    · exact Or.inl ⟨-5, by decide, fun D hD => c_off2 (FS_at hD hS) hS hj h1⟩
  · exact Or.inl ⟨-1, by decide, fun D hD => c_off1 (FS_at hD hS) h16 hx⟩
/-- hours, with what comes of them -/
theorem p_hrs {s : Nat → Int32} {P J h k : Nat} (hS : SI s P J) (h4 : s 4 = nI h) (hh : h ≤ 9000) (h1 : 1 ≤ k) (h8 : k ≤ 8) : ¬ (pasU s P J k).1 < 0 ∧ ∀ D, FS D 19 s → ∃ D', F_X0_passHours 19 (nI k) D = some ((pasU s P J k).1, D') ∧ FS D' 19 (pasU s P J k).2 ∧ off 19 D D' := by
  refine ⟨?_, fun D hD => ?_⟩
  · obtain ⟨m, hm, e⟩ := pas_n s P J k
    have := SI_J hS
    have : J * k ≤ 16 * 8 := Nat.mul_le_mul this h8
    rw [e]
    exact nI_pos (by omega)
  · obtain ⟨D', a, b, c⟩ := c_pass0 (FS_at hD hS) hS (n := k) h1 (by omega) (by rw [h4, nI_add]; exact nI_le (b := 9999) (by omega) (by omega))
    exact ⟨D', a, ⟨P, J, b, SI_pas hS k⟩, c⟩
theorem p_pas {s : Nat → Int32} {n k : Nat} (hK : KK s n) (hn : n ≤ 9000) (h8 : k ≤ 8) : lockp s (F_X0_passHours 19 (nI k)) (n + 8) := by
  obtain ⟨P, J, h, hS, hX, h4, hh⟩ := hK
  by_cases h1 : 1 ≤ k
  · obtain ⟨v0, ho⟩ := p_hrs (k := k) hS h4 (by omega) h1 h8
    obtain ⟨x1, x2⟩ := XI_pas hS hX h4 (by omega) k (by omega)
    exact Or.inr ⟨_, _, v0, ⟨P, J, h + k, SI_pas hS k, x1, x2, by omega⟩, ho⟩
  · refine Or.inl ⟨-2, by decide, fun D _ => c_pass1 D 19 (fun z => ?_)⟩
    have := z.1
    rw [show k = 0 by omega] at this
    exact absurd this (by decide)
/-! the law's own small methods -/
def lowV (x n : Int32) : Int32 := (x &&& (2147483647 : Int32)) - (x &&& (2147483647 : Int32)) / n * n
theorem r_low (x : Int32) {n : Int32} (hn : ¬ n = 0) (D : dT) : F_L_low x n D = some (lowV x n, D) := by
  unfold F_L_low
  rw [if_pos hn]; rfl
theorem low_9 (x : Int32) : ∃ k, k ≤ 8 ∧ lowV x 9 = nI k := by
  have h : ∃ a, a < 2 ^ 31 ∧ x &&& (2147483647 : Int32) = nI a := by
    refine ⟨(x &&& (2147483647 : Int32)).toBitVec.toNat, ?_, Int32.toBitVec_inj.mp (by show _ = BitVec.ofNat 32 _; simp)⟩
    rw [Int32.toBitVec_and, BitVec.toNat_and]
    exact Nat.lt_of_le_of_lt Nat.and_le_right (by decide)
  obtain ⟨a, ha, e⟩ := h
  refine ⟨a - a / 9 * 9, by omega, ?_⟩
  unfold lowV
  rw [e, show (9 : Int32) = nI 9 from rfl, nI_div ha (by omega), nI_mul, nI_sub (by omega)]
theorem bd_id (o : Option (Int32 × dT)) : bd o (fun (r : Int32) (D : dT) => some (r, D)) = o := by
  cases o with
  | none => rfl
  | some z => rfl
theorem pw_ne : ∀ P, P < 11 → ¬ ((1 : Int32) <<< ((nI P + 1) &&& 31)) = 0 := by decide +kernel
/-! what the law does in a turn -/
theorem act_alt {s : Nat → Int32} {n : Nat} (hK : KK s n) (hn : n ≤ 9000) (v w : Int32) : ALT s (F_L_act v w) (n + 8) := by
  obtain ⟨P, J, h, hS, hX, h4, hh⟩ := id hK
  have h10 := SI_P hS
  have h16 := SI_J hS
  have hK8 := KK_le hK (m := n + 8) (by omega)
  have hJ1 : ¬ nI J + 1 = 0 := by rw [nI_1]; exact nI_ne0 (by omega) (by omega)
  have hP1 := pw_ne P (by omega)
  have st : ∀ D, FS D 19 s → F_X5_count (3 : Int32) D = some (nI J, D) := fun D hD => a_c3 (FS_at hD hS) hS
  have sp : ∀ D, FS D 19 s → F_X5_count (1 : Int32) D = some (nI P, D) := fun D hD => a_c1 (FS_at hD hS) hS
  generalize hx : v &&& (15 : Int32) = x
  by_cases c0 : x = (0 : Int32)
  · refine ALT_of (p_set hK8 (lowV w 4) (lowV (w >>> ((2 : Int32) &&& 31)) 22)) (fun D hD => ?_)
    unfold F_L_act
    rw [st D hD, bd_some, r_low _ hJ1, bd_some, hx, if_pos c0, r_low _ (by decide), bd_some, r_low _ (by decide), bd_some, bd_id]
    rfl
  by_cases c1 : x = (1 : Int32)
  · refine ALT_of (p_per hK8 ((8 : Int32) + lowV w 145)) (fun D hD => ?_)
    unfold F_L_act
    rw [st D hD, bd_some, r_low _ hJ1, bd_some, hx, if_neg c0, if_pos c1, r_low _ (by decide), bd_some, bd_id]
    rfl
  by_cases c2 : x = (2 : Int32)
  · refine ALT_of (p_per hK8 ((8 : Int32) + lowV w 145)) (fun D hD => ?_)
    unfold F_L_act
    rw [st D hD, bd_some, r_low _ hJ1, bd_some, hx, if_neg c0, if_neg c1, if_pos c2, r_low _ (by decide), bd_some, bd_id]
    rfl
  by_cases c3 : x = (3 : Int32)
  · refine ALT_of (p_job hK8 ((45 : Int32) + lowV w (if ((w >>> ((20 : Int32) &&& 31)) &&& (1 : Int32)) = 0 then 150 else 560)) (lowV (w >>> ((3 : Int32) &&& 31)) (if ((w >>> ((21 : Int32) &&& 31)) &&& (1 : Int32)) = 0 then 1 else 11)) (lowV (w >>> ((6 : Int32) &&& 31)) 10) (lowV (w >>> ((8 : Int32) &&& 31)) 4) (lowV (w >>> ((10 : Int32) &&& 31)) 40)) (fun D hD => ?_)
    unfold F_L_act F_L_act_135 F_L_act_157
    rw [st D hD, bd_some, r_low _ hJ1, bd_some, hx, if_neg c0, if_neg c1, if_neg c2, if_pos c3]
    by_cases a : ((w >>> ((20 : Int32) &&& 31)) &&& (1 : Int32)) = 0
    · rw [if_pos a, if_pos a, r_low _ (by decide), bd_some]
      by_cases b : ((w >>> ((21 : Int32) &&& 31)) &&& (1 : Int32)) = 0
      · rw [if_pos b, if_pos b, r_low _ (by decide), bd_some, r_low _ (by decide), bd_some, r_low _ (by decide), bd_some, r_low _ (by decide), bd_some, bd_id]
        rfl
      · rw [if_neg b, if_neg b, r_low _ (by decide), bd_some, r_low _ (by decide), bd_some, r_low _ (by decide), bd_some, r_low _ (by decide), bd_some, bd_id]
        rfl
    · rw [if_neg a, if_neg a, r_low _ (by decide), bd_some]
      by_cases b : ((w >>> ((21 : Int32) &&& 31)) &&& (1 : Int32)) = 0
      · rw [if_pos b, if_pos b, r_low _ (by decide), bd_some, r_low _ (by decide), bd_some, r_low _ (by decide), bd_some, r_low _ (by decide), bd_some, bd_id]
        rfl
      · rw [if_neg b, if_neg b, r_low _ (by decide), bd_some, r_low _ (by decide), bd_some, r_low _ (by decide), bd_some, r_low _ (by decide), bd_some, bd_id]
        rfl
  by_cases c4 : x = (4 : Int32)
  · refine ALT_of (p_job hK8 ((45 : Int32) + lowV w (if ((w >>> ((20 : Int32) &&& 31)) &&& (1 : Int32)) = 0 then 150 else 560)) (lowV (w >>> ((3 : Int32) &&& 31)) (if ((w >>> ((21 : Int32) &&& 31)) &&& (1 : Int32)) = 0 then 1 else 11)) (lowV (w >>> ((6 : Int32) &&& 31)) 10) (lowV (w >>> ((8 : Int32) &&& 31)) 4) (lowV (w >>> ((10 : Int32) &&& 31)) 40)) (fun D hD => ?_)
    unfold F_L_act F_L_act_135 F_L_act_157
    rw [st D hD, bd_some, r_low _ hJ1, bd_some, hx, if_neg c0, if_neg c1, if_neg c2, if_neg c3, if_pos c4]
    by_cases a : ((w >>> ((20 : Int32) &&& 31)) &&& (1 : Int32)) = 0
    · rw [if_pos a, if_pos a, r_low _ (by decide), bd_some]
      by_cases b : ((w >>> ((21 : Int32) &&& 31)) &&& (1 : Int32)) = 0
      · rw [if_pos b, if_pos b, r_low _ (by decide), bd_some, r_low _ (by decide), bd_some, r_low _ (by decide), bd_some, r_low _ (by decide), bd_some, bd_id]
        rfl
      · rw [if_neg b, if_neg b, r_low _ (by decide), bd_some, r_low _ (by decide), bd_some, r_low _ (by decide), bd_some, r_low _ (by decide), bd_some, bd_id]
        rfl
    · rw [if_neg a, if_neg a, r_low _ (by decide), bd_some]
      by_cases b : ((w >>> ((21 : Int32) &&& 31)) &&& (1 : Int32)) = 0
      · rw [if_pos b, if_pos b, r_low _ (by decide), bd_some, r_low _ (by decide), bd_some, r_low _ (by decide), bd_some, r_low _ (by decide), bd_some, bd_id]
        rfl
      · rw [if_neg b, if_neg b, r_low _ (by decide), bd_some, r_low _ (by decide), bd_some, r_low _ (by decide), bd_some, r_low _ (by decide), bd_some, bd_id]
        rfl
  by_cases c5 : x = (5 : Int32)
  · refine ALT_of (p_buy hK8 (lowV w 4)) (fun D hD => ?_)
    unfold F_L_act
    rw [st D hD, bd_some, r_low _ hJ1, bd_some, hx, if_neg c0, if_neg c1, if_neg c2, if_neg c3, if_neg c4, if_pos c5, r_low _ (by decide), bd_some, bd_id]
    rfl
  by_cases c6 : x = (6 : Int32)
  · refine ALT_of (p_beg hK8 (lowV (v >>> ((4 : Int32) &&& 31)) (nI J + 1)) (lowV w ((1 : Int32) <<< ((nI P + 1) &&& 31))) (if ((w >>> ((12 : Int32) &&& 31)) &&& (3 : Int32)) = (3 : Int32) then (-6 : Int32) else ((w >>> ((12 : Int32) &&& 31)) &&& (3 : Int32)))) (fun D hD => ?_)
    unfold F_L_act F_L_act_236
    rw [st D hD, bd_some, r_low _ hJ1, bd_some, hx, if_neg c0, if_neg c1, if_neg c2, if_neg c3, if_neg c4, if_neg c5, if_pos c6, sp D hD, bd_some, r_low _ hP1, bd_some]
    by_cases a : ((w >>> ((12 : Int32) &&& 31)) &&& (3 : Int32)) = (3 : Int32)
    · rw [if_pos a, if_pos a, bd_id]
      rfl
    · rw [if_neg a, if_neg a, bd_id]
      rfl
  by_cases c7 : x = (7 : Int32)
  · refine ALT_of (p_beg hK8 (lowV (v >>> ((4 : Int32) &&& 31)) (nI J + 1)) (lowV w ((1 : Int32) <<< ((nI P + 1) &&& 31))) (if ((w >>> ((12 : Int32) &&& 31)) &&& (3 : Int32)) = (3 : Int32) then (-6 : Int32) else ((w >>> ((12 : Int32) &&& 31)) &&& (3 : Int32)))) (fun D hD => ?_)
    unfold F_L_act F_L_act_236
    rw [st D hD, bd_some, r_low _ hJ1, bd_some, hx, if_neg c0, if_neg c1, if_neg c2, if_neg c3, if_neg c4, if_neg c5, if_neg c6, if_pos c7, sp D hD, bd_some, r_low _ hP1, bd_some]
    by_cases a : ((w >>> ((12 : Int32) &&& 31)) &&& (3 : Int32)) = (3 : Int32)
    · rw [if_pos a, if_pos a, bd_id]
      rfl
    · rw [if_neg a, if_neg a, bd_id]
      rfl
  by_cases c8 : x = (8 : Int32)
  · refine ALT_of (p_asg hK8) (fun D hD => ?_)
    unfold F_L_act
    rw [st D hD, bd_some, r_low _ hJ1, bd_some, hx, if_neg c0, if_neg c1, if_neg c2, if_neg c3, if_neg c4, if_neg c5, if_neg c6, if_neg c7, if_pos c8, bd_id]
    rfl
  by_cases c9 : x = (9 : Int32)
  · refine ALT_of (p_asg hK8) (fun D hD => ?_)
    unfold F_L_act
    rw [st D hD, bd_some, r_low _ hJ1, bd_some, hx, if_neg c0, if_neg c1, if_neg c2, if_neg c3, if_neg c4, if_neg c5, if_neg c6, if_neg c7, if_neg c8, if_pos c9, bd_id]
    rfl
  by_cases c10 : x = (10 : Int32)
  · refine ALT_of (p_del hK8 (lowV (v >>> ((4 : Int32) &&& 31)) (nI J + 1)) (lowV w 22)) (fun D hD => ?_)
    unfold F_L_act
    rw [st D hD, bd_some, r_low _ hJ1, bd_some, hx, if_neg c0, if_neg c1, if_neg c2, if_neg c3, if_neg c4, if_neg c5, if_neg c6, if_neg c7, if_neg c8, if_neg c9, if_pos c10, r_low _ (by decide), bd_some, bd_id]
    rfl
  by_cases c11 : x = (11 : Int32)
  · by_cases a : (w &&& (3 : Int32)) = 0
    · refine ALT_of (p_off hK8 (lowV (v >>> ((4 : Int32) &&& 31)) (nI J + 1))) (fun D hD => ?_)
      unfold F_L_act
      rw [st D hD, bd_some, r_low _ hJ1, bd_some, hx, if_neg c0, if_neg c1, if_neg c2, if_neg c3, if_neg c4, if_neg c5, if_neg c6, if_neg c7, if_neg c8, if_neg c9, if_neg c10, if_pos c11, if_pos a, bd_id]
      rfl
    · refine ALT_of (p_asg hK8) (fun D hD => ?_)
      unfold F_L_act
      rw [st D hD, bd_some, r_low _ hJ1, bd_some, hx, if_neg c0, if_neg c1, if_neg c2, if_neg c3, if_neg c4, if_neg c5, if_neg c6, if_neg c7, if_neg c8, if_neg c9, if_neg c10, if_pos c11, if_neg a, bd_id]
      rfl
  obtain ⟨k, k8, ek⟩ := low_9 w
  refine ALT_of (p_pas hK hn k8) (fun D hD => ?_)
  unfold F_L_act
  rw [st D hD, bd_some, r_low _ hJ1, bd_some, hx, if_neg c0, if_neg c1, if_neg c2, if_neg c3, if_neg c4, if_neg c5, if_neg c6, if_neg c7, if_neg c8, if_neg c9, if_neg c10, if_neg c11, r_low _ (by decide), bd_some, bd_id, ek]
  rfl
