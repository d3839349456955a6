/-! the object: its firm stands for s, its ring for the states u before; slot 0 holds an empty firm -/
def GR (D : dT) (s : Nat → Int32) (u : Nat → Nat → Int32) (c : Nat) : Prop :=
  FS D 19 s ∧ c ≤ 6 ∧ (∃ o, o < 7 ∧ D 85 1 = nI o ∧ D 85 2 = nI c ∧ ∀ i, i < c → FS D (87 + 32 * ((o + i) % 7)) (u i)) ∧ D 84 0 = 1 ∧ ∃ z, z 5 = 0 ∧ z 6 = 0 ∧ FS D 314 z
def pushU (u : Nat → Nat → Int32) (s : Nat → Int32) (c : Nat) : Nat → Nat → Int32 := fun i => if c = 6 then (if i = 5 then s else u (i + 1)) else if i = c then s else u i
theorem pushU_l (u : Nat → Nat → Int32) (s : Nat → Int32) {c m : Nat} (hm : recN c = m + 1) : pushU u s c m = s := by
  unfold recN at hm
  show (if c = 6 then (if m = 5 then s else u (m + 1)) else if m = c then s else u m) = s
  by_cases e : c = 6
  · rw [if_pos e] at hm
    rw [if_pos e, if_pos (by omega)]
  · rw [if_neg e] at hm
    rw [if_neg e, if_pos (by omega)]
def cgF (op : dT → Option (Int32 × dT)) (D : dT) : Option (Int32 × dT) := bd (F_X1_note 19 D) (fun (_ : Int32) (D2 : dT) => bd (op D2) (fun (r3 : Int32) (D4 : dT) => bd (F_X1_keepUnlessError r3 D4) (fun (r5 : Int32) (D6 : dT) => some (r5, D6))))
/-- a refused change -/
theorem chgL {s : Nat → Int32} {op : dT → Option (Int32 × dT)} {e : Int32} (he : e < 0) (ho : ∀ D, FS D 19 s → op D = some (e, D)) {D : dT} {u : Nat → Nat → Int32} {c : Nat} (h : GR D s u c) : ∃ D', cgF op D = some (e, D') ∧ GR D' s u c := by
  obtain ⟨hf, hc, ⟨o, ho7, h1, h2, hX⟩, h84, z, z5, z6, hz⟩ := h
  obtain ⟨Dn, n1, n2, n3⟩ := c_note ho7 hc h1 h2 hf
  have en : ∀ q, (q < 87 ∨ 311 ≤ q) → Dn q = D q := fun q hq => n3 q (by omega)
  have hfn : FS Dn 19 s := FS_off hf (fun q a b => en q (by omega))
  refine ⟨Dn, ?_, hfn, hc, ⟨o, ho7, by rw [en 85 (by omega)]; exact h1, by rw [en 85 (by omega)]; exact h2, fun i hi => FS_off (hX i hi) (fun q a b => n3 q (by omega))⟩, by rw [en 84 (by omega)]; exact h84, z, z5, z6, FS_off hz (fun q a b => en q (by omega))⟩
  unfold cgF
  rw [n1, bd_some, ho Dn hfn, bd_some, c_keep0 Dn he, bd_some]
/-- a change that succeeds -/
theorem chgR {s s' : Nat → Int32} {op : dT → Option (Int32 × dT)} {v : Int32} (v0 : ¬ v < 0) (ho : ∀ D, FS D 19 s → ∃ D', op D = some (v, D') ∧ FS D' 19 s' ∧ off 19 D D') {D : dT} {u : Nat → Nat → Int32} {c : Nat} (h : GR D s u c) : ∃ D', cgF op D = some (v, D') ∧ GR D' s' (pushU u s c) (recN c) := by
  obtain ⟨hf, hc, ⟨o, ho7, h1, h2, hX⟩, h84, z, z5, z6, hz⟩ := h
  obtain ⟨Dn, n1, n2, n3⟩ := c_note ho7 hc h1 h2 hf
  have en : ∀ q, (q < 87 ∨ 311 ≤ q) → Dn q = D q := fun q hq => n3 q (by omega)
  have hfn : FS Dn 19 s := FS_off hf (fun q a b => en q (by omega))
  obtain ⟨D', k1, k4, k6⟩ := ho Dn hfn
  have ek : ∀ q, (q < 19 ∨ 51 ≤ q) → D' q = Dn q := fun q hq => k6 q (by omega)
  have g1 : D' 85 1 = nI o := by rw [ek 85 (by omega), en 85 (by omega)]; exact h1
  have g2 : D' 85 2 = nI c := by rw [ek 85 (by omega), en 85 (by omega)]; exact h2
  have kp := c_keep1 v0 ho7 hc g1 g2
  generalize hDk : (if c = 6 then up2 D' 85 1 (nI ((o + 1) % 7)) else up2 D' 85 2 (nI (c + 1))) = Dk at kp
  have e85 : ∀ q, q ≠ 85 → Dk q = D' q := fun q hq => by
    rw [← hDk]
    by_cases e : c = 6
    · rw [if_pos e, up2_o _ _ _ hq]
    · rw [if_neg e, up2_o _ _ _ hq]
  have hr : ∀ i, i < c → FS Dk (87 + 32 * ((o + i) % 7)) (u i) := fun i hi => FS_off (hX i hi) (fun q a b => by rw [e85 q (by omega), ek q (by omega), n3 q (by omega)])
  have hs : FS Dk (87 + 32 * ((o + c) % 7)) s := FS_off n2 (fun q a b => by rw [e85 q (by omega), ek q (by omega)])
  refine ⟨Dk, ?_, FS_off k4 (fun q a b => e85 q (by omega)), by unfold recN; split <;> omega, ⟨if c = 6 then (o + 1) % 7 else o, by split <;> omega, ?_, ?_, fun i hi => ?_⟩, by rw [e85 84 (by omega), ek 84 (by omega), en 84 (by omega)]; exact h84, z, z5, z6, FS_off hz (fun q a b => by rw [e85 q (by omega), ek q (by omega), en q (by omega)])⟩
  · unfold cgF
    rw [n1, bd_some, k1, bd_some, kp, bd_some]
  · rw [← hDk]
    by_cases e : c = 6
    · rw [if_pos e, if_pos e, up2_self]
    · rw [if_neg e, if_neg e, up2_ne _ _ (by omega)]; exact g1
  · rw [← hDk]
    unfold recN
    by_cases e : c = 6
    · rw [if_pos e, if_pos e, up2_ne _ _ (by omega), g2, e]
    · rw [if_neg e, if_neg e, up2_self]
  · unfold recN at hi
    unfold pushU
    by_cases e : c = 6
    · rw [if_pos e] at hi
      rw [if_pos e]
      simp only [if_pos e]
      by_cases e5 : i = 5
      · rw [if_pos e5, show ((o + 1) % 7 + i) % 7 = (o + c) % 7 by omega]
        exact hs
      · rw [if_neg e5, show ((o + 1) % 7 + i) % 7 = (o + (i + 1)) % 7 by omega]
        exact hr (i + 1) (by omega)
    · rw [if_neg e] at hi
      rw [if_neg e]
      simp only [if_neg e]
      by_cases ec : i = c
      · rw [if_pos ec, ec]; exact hs
      · rw [if_neg ec]; exact hr i (by omega)
/-- undo -/
theorem g_undo {D : dT} {s : Nat → Int32} {u : Nat → Nat → Int32} {m : Nat} (h : GR D s u (m + 1)) : ∃ D', F_X5_undo D = some (nI m, D') ∧ GR D' (u m) u m := by
  obtain ⟨hf, hc, ⟨o, ho, h1, h2, hX⟩, h84, z, z5, z6, hz⟩ := h
  have e2 : (up2 D 85 2 ((D 85 2) - (1 : Int32))) = up2 D 85 2 (nI m) := by rw [h2, nI_pred]
  have hfm := FS_off (D' := up2 D 85 2 (nI m)) (hX m (by omega)) (fun q a b => up2_o _ _ _ (by omega))
  obtain ⟨D', a1, a2, a3⟩ := FS_copy (B := 19) hfm (by omega)
  have ed : ∀ q, q ≠ 85 → (q < 19 ∨ 51 ≤ q) → D' q = D q := fun q a b => by rw [a3 q (by omega), up2_o _ _ _ a]
  have e85 : D' 85 = up2 D 85 2 (nI m) 85 := a3 85 (by omega)
  refine ⟨D', ?_, a2, by omega, ⟨o, ho, by rw [e85, up2_ne _ _ (by omega)]; exact h1, by rw [e85, up2_self], fun i hi => FS_off (hX i (by omega)) (fun q a b => ed q (by omega) (by omega))⟩, by rw [ed 84 (by omega) (by omega)]; exact h84, z, z5, z6, FS_off hz (fun q a b => ed q (by omega) (by omega))⟩
  unfold F_X5_undo F_X1_takeBack
  rw [e2, h2, if_pos (show (0 : Int32) < nI (m + 1) from nI_lt (a := 0) (by omega) (by omega)), c_row (x := up2 D 85 2 (nI m) 85 2) (n := o + m) (by rw [up2_self, up2_ne (o := 85) (k := 2) _ _ (by omega), h1, nI_add]) (by omega), bd_some, if_pos (inRn (by omega) (by omega)), nI_clamp (by omega), a1, bd_some, bd_some, e85, up2_self]
theorem c_sl0 (D : dT) : F_X5_isSlot 0 D = some (1, D) := by
  unfold F_X5_isSlot
  rw [c_isWithin, bd_some, if_pos (show (0 : Int32) ≤ 0 ∧ (0 : Int32) ≤ 1 by decide), if_pos (Or.inr rfl)]
theorem c_sl1 (D : dT) : F_X5_isSlot 1 D = some (1, D) := by
  unfold F_X5_isSlot
  rw [c_isWithin, bd_some, if_pos (show (0 : Int32) ≤ 1 ∧ (1 : Int32) ≤ 1 by decide), if_pos (Or.inr rfl)]
/-- at the end: the empty firm comes back -/
theorem g_rest {D : dT} {s : Nat → Int32} {u : Nat → Nat → Int32} {c : Nat} (h : GR D s u c) : ∃ D', F_X5_restore 0 D = some (0, D') ∧ F_X5_count 1 D' = some (0, D') := by
  obtain ⟨hf, hc, ⟨o, ho7, h1, h2, hX⟩, h84, z, z5, z6, hz⟩ := h
  obtain ⟨Dn, n1, n2, n3⟩ := c_note ho7 hc h1 h2 hf
  have en : ∀ q, (q < 87 ∨ 311 ≤ q) → Dn q = D q := fun q hq => n3 q (by omega)
  obtain ⟨Da, a1, a2, a3⟩ := FS_copy (B := 19) (FS_off (D' := Dn) hz (fun q a b => en q (by omega))) (by omega)
  have ek : ∀ q, (q < 19 ∨ 51 ≤ q) → Da q = Dn q := fun q hq => a3 q (by omega)
  have g1 : Da 85 1 = nI o := by rw [ek 85 (by omega), en 85 (by omega)]; exact h1
  have g2 : Da 85 2 = nI c := by rw [ek 85 (by omega), en 85 (by omega)]; exact h2
  have kp := c_keep1 (v := 0) (by decide) ho7 hc g1 g2
  generalize hDk : (if c = 6 then up2 Da 85 1 (nI ((o + 1) % 7)) else up2 Da 85 2 (nI (c + 1))) = Dk at kp
  have e85 : ∀ q, q ≠ 85 → Dk q = Da q := fun q hq => by
    rw [← hDk]
    by_cases e : c = 6
    · rw [if_pos e, up2_o _ _ _ hq]
    · rw [if_neg e, up2_o _ _ _ hq]
  have hk := FS_off (D' := Dk) a2 (fun q a b => e85 q (by omega))
  obtain ⟨P, J, hF, hS⟩ := hk
  have hP : nI P = 0 := by rw [← hS.1.2.2.1]; exact z5
  have hJ : nI J = 0 := by rw [← hS.1.2.2.2]; exact z6
  have h19 : Da 19 6 = 0 := by rw [← e85 19 (by omega), FR_J hF]; exact hJ
  refine ⟨Dk, ?_, ?_⟩
  · unfold F_X5_restore
    rw [c_sl0, bd_some, if_neg o10]
    simp only [if_pos (show inR (0 : Int32) 2 by decide), t0, Nat.mul_zero, Nat.add_zero]
    rw [h84, if_neg o10, n1, bd_some, a1, bd_some, h19, kp, bd_some]
  · rw [a_c1 hF hS, hP]
/-- at the start -/
def G0 (D : dT) (z : Nat → Int32) : Prop := FS D 19 z ∧ z 5 = 0 ∧ z 6 = 0 ∧ D 85 1 = nI 0 ∧ D 85 2 = nI 0 ∧ D 84 = fun _ => 0
theorem g_st1 {D : dT} {z : Nat → Int32} (h : G0 D z) : F_X5_undo D = some (-5, D) := by
  obtain ⟨_, _, _, _, h2, _⟩ := h
  unfold F_X5_undo F_X1_takeBack
  rw [h2, if_neg (show ¬ (0 : Int32) < nI 0 by decide), bd_some]
theorem g_st2 {D : dT} {z : Nat → Int32} (h : G0 D z) : F_X5_restore 1 D = some (-5, D) := by
  obtain ⟨_, _, _, _, _, h84⟩ := h
  unfold F_X5_restore
  rw [c_sl1, bd_some, if_neg o10]
  simp only [if_pos (show inR (1 : Int32) 2 by decide), t1]
  rw [h84, if_pos rfl]
theorem g_st3 {D : dT} {z : Nat → Int32} (h : G0 D z) : ∃ D', F_X5_save 0 D = some (0, D') ∧ GR D' z (fun _ => z) 0 := by
  obtain ⟨hf, z5, z6, h1, h2, h84⟩ := h
  obtain ⟨Da, a1, a2, a3⟩ := FS_copy (B := 314) hf (by omega)
  have ea : ∀ q, q < 314 → Da q = D q := fun q hq => a3 q (by omega)
  obtain ⟨P, J, hF, hS⟩ := id hf
  have hJ : nI J = 0 := by rw [← hS.1.2.2.2]; exact z6
  have h19 : up2 Da 84 0 (1 : Int32) 19 6 = 0 := by rw [up2_o _ _ _ (by omega), ea 19 (by omega), FR_J hF]; exact hJ
  refine ⟨up2 Da 84 0 1, ?_, FS_off hf (fun q a b => by rw [up2_o _ _ _ (by omega), ea q (by omega)]), by omega, ⟨0, by omega, by rw [up2_o _ _ _ (by omega), ea 85 (by omega)]; exact h1, by rw [up2_o _ _ _ (by omega), ea 85 (by omega)]; exact h2, fun i hi => absurd hi (by omega)⟩, up2_self _ _ _ _, z, z5, z6, FS_off a2 (fun q a b => up2_o _ _ _ (by omega))⟩
  unfold F_X5_save
  rw [c_sl0, bd_some, if_neg o10]
  simp only [if_pos (show inR (0 : Int32) 2 by decide), t0, Nat.mul_zero, Nat.add_zero]
  rw [a1, bd_some, h19]
