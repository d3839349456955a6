/-! the class reads an order -/
def kO (r7 : Int32) (D8 : dT) : Option (Int32 × dT) := if r7 = 0 then some ((0 : Int32), D8) else if (D8 311 5) = (103 : Int32) then bd (F_X3_readCrew D8) (fun (r9 : Int32) (D10 : dT) => if r9 = 0 then some ((0 : Int32), D10) else some ((1 : Int32), D10)) else some ((1 : Int32), D8)
def cOut (D : dT) (f : Option (Int32 × dT)) (r : R8) : Prop := ∃ (n : Nat) (sg cr kd : Int32) (nu : Nat → Int32), f = some (if r.2.isSome then 1 else 0, pS D n r.1 sg cr kd nu) ∧ ∀ o, r.2 = some o → hO n sg cr kd nu o
section CO
variable {D : dT} {ch : Nat → Nat} {L : Nat} {n a : Nat} {sg cr kd : Int32} {nu : Nat → Int32}
theorem cOut_f (p : Nat) : cOut D (some (0, pS D n p sg cr kd nu)) (p, none) := ⟨n, sg, cr, kd, nu, rfl, fun o h => by cases h⟩
theorem cOut_s {p : Nat} {o : Nat → Int32} (h : hO n sg cr kd nu o) : cOut D (some (1, pS D n p sg cr kd nu)) (p, some o) := ⟨n, sg, cr, kd, nu, rfl, fun o' e => by
  injection e with e
  rw [← e]; exact h⟩
theorem c_f0 {kS len fu : Nat} {v : Int32} {X : dT} (hl : ∀ X, F_J0_length_8abf5 kS X = some (nI len, X)) : F_X3_readForm_4 (fu + 1) kS 0 v X = some (0, X) := by
  unfold F_X3_readForm_4
  rw [hl, bd_some]
  by_cases e : nI len ≤ v
  · rw [if_pos e, if_pos (Or.inl rfl)]
  · rw [if_neg e, if_pos rfl, if_pos (Or.inl rfl)]
theorem kO_0 (X : dT) : kO 0 X = some (0, X) := if_pos rfl
theorem c_fE {kS len fu : Nat} {X : dT} (hl : ∀ X, F_J0_length_8abf5 kS X = some (nI len, X)) : bd (F_X3_readForm_4 (fu + 1) kS 1 (nI len) X) kO = kO 1 X := by
  unfold F_X3_readForm_4
  rw [hl, bd_some, if_pos (Int32.le_refl _), if_pos (Or.inr rfl), bd_some]
theorem c_fN (h : PD D ch L) (ha : a ≤ L) (hn : n < 5) {i len fu kS : Nat} {k : Nat → Nat → R8} (hl : ∀ X, F_J0_length_8abf5 kS X = some (nI len, X)) (hi : i < len) (hb : len < 100) (hc : ∀ X, F_J0_charAt_5068e kS (nI i) X = some (78, X))
    (hk : ∀ v p, p ≤ L → cOut D (bd (F_X3_readForm_4 (fu + 1) kS 1 (nI (i + 1)) (pS D (n + 1) p sg cr kd (upd nu n (nI v)))) kO) (k v p)) : cOut D (bd (F_X3_readForm_4 (fu + 2) kS 1 (nI i) (pS D n a sg cr kd nu)) kO) (sNum ch 2 a k) := by
  unfold F_X3_readForm_4 sNum
  rw [hl, bd_some, if_neg (nI_ge hi (by omega)), if_neg o10, hc, bd_some, if_neg (by decide), if_pos rfl, show (3 : Int32) = nI 3 from rfl, c_rN h ha hn (Or.inr rfl)]
  by_cases e : isDg (ch a)
  · rw [if_pos e, if_pos e, bd_some, nI_1]
    have : a < L := ch_lt h (by have := e.1; omega)
    exact hk _ _ (numL_le h.2.2.2 _ _ _ (by omega)).1
  · rw [if_neg e, if_neg e, bd_some, c_f0 hl, bd_some, kO_0]
    exact cOut_f a
theorem c_fD (h : PD D ch L) (ha : a ≤ L) (hn : n < 5) {i len fu kS : Nat} {k : Nat → Nat → R8} (hl : ∀ X, F_J0_length_8abf5 kS X = some (nI len, X)) (hi : i < len) (hb : len < 100) (hc : ∀ X, F_J0_charAt_5068e kS (nI i) X = some (68, X))
    (hk : ∀ v p, p ≤ L → cOut D (bd (F_X3_readForm_4 (fu + 1) kS 1 (nI (i + 1)) (pS D (n + 1) p sg cr kd (upd nu n (nI v)))) kO) (k v p)) : cOut D (bd (F_X3_readForm_4 (fu + 2) kS 1 (nI i) (pS D n a sg cr kd nu)) kO) (sNum ch 0 a k) := by
  unfold F_X3_readForm_4 sNum
  rw [hl, bd_some, if_neg (nI_ge hi (by omega)), if_neg o10, hc, bd_some, if_pos rfl, show F_X3_readNumber (1 : Int32) = F_X3_readNumber (nI 1) from rfl, c_rN h ha hn (Or.inl rfl)]
  by_cases e : isDg (ch a)
  · rw [if_pos e, if_pos e, bd_some, nI_1]
    have : a < L := ch_lt h (by have := e.1; omega)
    exact hk _ _ (numL_le h.2.2.2 _ _ _ (by omega)).1
  · rw [if_neg e, if_neg e, bd_some, c_f0 hl, bd_some, kO_0]
    exact cOut_f a
theorem c_fC (h : PD D ch L) (ha : a ≤ L) {i len fu kS s : Nat} {k : Nat → R8} (hl : ∀ X, F_J0_length_8abf5 kS X = some (nI len, X)) (hi : i < len) (hb : len < 100) (hs0 : 0 < s) (hs : s < 68) (hc : ∀ X, F_J0_charAt_5068e kS (nI i) X = some (nI s, X))
    (hk : ∀ p, p ≤ L → cOut D (bd (F_X3_readForm_4 (fu + 1) kS 1 (nI (i + 1)) (pS D n p sg cr kd nu)) kO) (k p)) : cOut D (bd (F_X3_readForm_4 (fu + 2) kS 1 (nI i) (pS D n a sg cr kd nu)) kO) (sChr ch s a k) := by
  unfold F_X3_readForm_4 sChr
  rw [hl, bd_some, if_neg (nI_ge hi (by omega)), if_neg o10, hc, bd_some, if_neg (fun z => by rw [show (68 : Int32) = nI 68 from rfl, nI_eq (by omega) (by omega)] at z; omega), if_neg (fun z => by rw [show (78 : Int32) = nI 78 from rfl, nI_eq (by omega) (by omega)] at z; omega), c_sk h ha (by omega), bd_some]
  by_cases e : ch a = s
  · rw [if_pos e, if_pos e, if_pos e, nI_1]
    have : a < L := ch_lt h (by omega)
    exact hk _ (by omega)
  · rw [if_neg e, if_neg e, if_neg e, c_f0 hl, bd_some, kO_0]
    exact cOut_f a
theorem crL_le (hL : ∀ i, L ≤ i → ch i = 0) : ∀ f c a, a ≤ L → (crL ch f c a).2 ≤ L ∧ a ≤ (crL ch f c a).2 := by
  intro f
  induction f with
  | zero => intro c a ha; exact ⟨ha, Nat.le_refl _⟩
  | succ f ih =>
    intro c a ha
    unfold crL
    by_cases e : isDg (ch a)
    · rw [if_pos e]
      have : a < L := Nat.not_le.mp (fun z => by have := hL a z; have := e.1; omega)
      have := ih (c ||| ((1 : Int32) <<< (nI (ch a - 48) &&& 31))) (a + 1) (by omega)
      omega
    · rw [if_neg e]
      exact ⟨ha, Nat.le_refl _⟩
theorem c_45 (h : PD D ch L) (ha : a ≤ L) : F_X3_readCrew_45 (pS D n a sg cr kd nu) = if ch a = 43 then (if isDg (ch (a + 1)) then some (1, pS D n (a + 2) sg cr (nI (ch (a + 1) - 48)) nu) else some (0, pS D n (a + 1) sg cr kd nu)) else some (1, pS D n a sg cr kd nu) := by
  unfold F_X3_readCrew_45
  rw [show (43 : Int32) = nI 43 from rfl, c_sk h ha (by omega), bd_some]
  by_cases e : ch a = 43
  · have : a < L := ch_lt h (by omega)
    rw [if_pos e, if_pos e, if_pos e, if_neg o10, c_dH h (by omega), bd_some]
    by_cases e2 : isDg (ch (a + 1))
    · have : a + 1 < L := ch_lt h (by have := e2.1; omega)
      rw [if_pos e2, if_pos e2, if_neg o10, c_tD h (by omega) e2, bd_some, pS_u7]
    · rw [if_neg e2, if_neg e2, if_pos rfl]
  · rw [if_neg e, if_neg e, if_neg e, if_pos rfl]
theorem c_11 (h : PD D ch L) : ∀ f fu t cr a, f + t = 80 → L ≤ a + f → f < fu → a ≤ L → F_X3_readCrew_11 fu (nI t) (pS D n a sg cr kd nu) = F_X3_readCrew_45 (pS D n (crL ch f cr a).2 sg (crL ch f cr a).1 kd nu) := by
  intro f
  induction f with
  | zero =>
    intro fu t cr a h1 h2 h3 h4
    obtain ⟨fu, rfl⟩ : ∃ f, fu = f + 1 := ⟨fu - 1, by omega⟩
    unfold F_X3_readCrew_11
    rw [if_pos (show (80 : Int32) ≤ nI t from nI_le (a := 80) (by omega) (by omega))]
    rfl
  | succ f ih =>
    intro fu t cr a h1 h2 h3 h4
    obtain ⟨fu, rfl⟩ : ∃ f, fu = f + 1 := ⟨fu - 1, by omega⟩
    unfold F_X3_readCrew_11 crL
    rw [if_neg (show ¬ (80 : Int32) ≤ nI t from nI_ge (b := 80) (by omega) (by omega)), c_dH h h4, bd_some]
    by_cases e : isDg (ch a)
    · have : a < L := ch_lt h (by have := e.1; omega)
      rw [if_pos e, if_pos e, if_neg o10, c_tD h h4 e, bd_some, pS_6, pS_u6, nI_1]
      exact ih fu (t + 1) _ (a + 1) (by omega) (by omega) (by omega) (by omega)
    · rw [if_neg e, if_neg e, if_pos rfl]
theorem c_crw (h : PD D ch L) (ha : a ≤ L) (v : Nat) : cOut D (kO 1 (pS D 1 a 103 0 (-6) (upd nu 0 (nI v)))) (sCrw ch v a) := by
  unfold kO F_X3_readCrew sCrw
  rw [if_neg o10, pS_5, if_pos rfl, c_dH h ha, bd_some]
  by_cases e : isDg (ch a)
  · have hq := (crL_le h.2.2.2 80 (nI 0) a ha).1
    rw [if_pos e, if_pos e, if_neg o10, show (0 : Int32) = nI 0 from rfl, c_11 h 80 lim 0 (nI 0) a (by omega) (by have := h.1; omega) (lim_lt (by omega)) ha, c_45 h hq]
    rw [show nI 0 = (0 : Int32) from rfl]
    unfold sKnd
    by_cases e1 : ch (crL ch 80 0 a).2 = 43
    · rw [if_pos e1, if_pos e1]
      by_cases e2 : isDg (ch ((crL ch 80 0 a).2 + 1))
      · rw [if_pos e2, if_pos e2, bd_some, if_neg o10]
        exact cOut_s ⟨rfl, by omega, Or.inr (Or.inr (Or.inr (Or.inl ⟨rfl, rfl, upd_s _ _ _, rfl, rfl⟩)))⟩
      · rw [if_neg e2, if_neg e2, bd_some, if_pos rfl]
        exact cOut_f _
    · rw [if_neg e1, if_neg e1, bd_some, if_neg o10]
      exact cOut_s ⟨rfl, by omega, Or.inr (Or.inr (Or.inr (Or.inl ⟨rfl, rfl, upd_s _ _ _, rfl, rfl⟩)))⟩
  · rw [if_neg e, if_neg e, if_pos rfl, bd_some, if_pos rfl]
    exact cOut_f _
theorem kO_1 {p : Nat} (h : ¬ sg = 103) : kO 1 (pS D n p sg cr kd nu) = some (1, pS D n p sg cr kd nu) := by
  unfold kO
  rw [if_neg o10, pS_5, if_neg h]
theorem c_ord (h : PD D ch L) (ha : a ≤ L) : cOut D (F_X3_readOrder (pS D n a sg cr kd nu)) (ord ch a) := by
  have hc := ch_le h a
  have ca : ∀ m, m < 128 → ch a ≠ m → ¬ nI (ch a) = nI m := fun m hm z e => z ((nI_eq (by omega) (by omega)).mp e)
  unfold F_X3_readOrder ord
  rw [show up2 (up2 (up2 (pS D n a sg cr kd nu) 311 2 (0 : Int32)) 311 6 (0 : Int32)) 311 7 (-6 : Int32) = pS D 0 a sg 0 (-6) nu by rw [show (0 : Int32) = nI 0 from rfl, pS_u2, pS_u6, pS_u7], c_sH h ha, bd_some, pS_u5, pS_5, j_c16 _ hc, j_ix hc, bd_some]
  by_cases hs : 0 ≤ ixV (nI (ch a))
  · have hs' := (ixV_ge _ hc).mp hs
    have hl : a < L := ch_lt h (by omega)
    have hL : a + 1 ≤ L := hl
    rw [if_pos hs, pS_3, nI_1, pS_u3, pS_5]
    by_cases e97 : ch a = 97
    · rw [if_pos e97, e97, show F_X3_formOf (nI 97) = fun D => some (5, D) from rfl]
      rw [bd_some, if_pos (by decide)]
      have : F_X3_readForm 5 (pS D 0 (a + 1) (nI 97) 0 (-6) nu) = some (1, pS D 0 (a + 1) (nI 97) 0 (-6) nu) := by
        unfold F_X3_readForm
        rw [show lim = 99999 + 1 from rfl]
        unfold F_X3_readForm_4
        rw [j_len0, bd_some, if_pos (by decide), if_pos (Or.inr rfl)]
      rw [this, bd_some, if_neg o10, pS_5, if_neg (by decide)]
      exact cOut_s ⟨rfl, by omega, Or.inl rfl⟩
    rw [if_neg e97]
    by_cases e100 : ch a = 100
    · rw [if_pos e100, e100, show F_X3_formOf (nI 100) = fun D => some (6, D) from rfl]
      rw [bd_some, if_pos (by decide)]
      show cOut D (bd (F_X3_readForm_4 (99994 + 4 + 2) 6 1 (nI 0) (pS D 0 (a + 1) (nI 100) 0 (-6) nu)) kO) _
      refine c_fN h hL (by omega) j_len1 (by omega) (by omega) j_d0 (fun v p hp => ?_)
      refine c_fC h hp (fu := 99994 + 3) j_len1 (by omega) (by omega) (by omega) (by omega) j_d1 (fun p hp => ?_)
      refine c_fN h hp (by omega) (fu := 99994 + 2) j_len1 (by omega) (by omega) j_d2 (fun v2 p hp => ?_)
      rw [c_fE j_len1, kO_1 (by decide)]
      exact cOut_s ⟨rfl, by omega, Or.inr (Or.inr (Or.inl ⟨rfl, rfl, by rw [upd_n _ _ (by omega), upd_s]; rfl, by rw [upd_s]; rfl⟩))⟩
    rw [if_neg e100]
    by_cases e103 : ch a = 103
    · rw [if_pos e103, e103, show F_X3_formOf (nI 103) = fun D => some (7, D) from rfl]
      rw [bd_some, if_pos (by decide)]
      show cOut D (bd (F_X3_readForm_4 (99994 + 4 + 2) 7 1 (nI 0) (pS D 0 (a + 1) (nI 103) 0 (-6) nu)) kO) _
      refine c_fN h hL (by omega) j_len2 (by omega) (by omega) j_g0 (fun v p hp => ?_)
      refine c_fC h hp (fu := 99994 + 3) j_len2 (by omega) (by omega) (by omega) (by omega) j_g1 (fun p hp => ?_)
      rw [c_fE j_len2]
      exact c_crw h hp v
    rw [if_neg e103]
    by_cases e106 : ch a = 106
    · rw [if_pos e106, e106, show F_X3_formOf (nI 106) = fun D => some (8, D) from rfl]
      rw [bd_some, if_pos (by decide)]
      show cOut D (bd (F_X3_readForm_4 (99984 + 14 + 2) 8 1 (nI 0) (pS D 0 (a + 1) (nI 106) 0 (-6) nu)) kO) _
      refine c_fN h hL (by omega) j_len3 (by omega) (by omega) j_j0 (fun v p hp => ?_)
      refine c_fC h hp (fu := 99984 + 13) j_len3 (by omega) (by omega) (by omega) (by omega) j_j1 (fun p hp => ?_)
      refine c_fD h hp (by omega) (fu := 99984 + 12) j_len3 (by omega) (by omega) j_j2 (fun v2 p hp => ?_)
      refine c_fC h hp (fu := 99984 + 11) j_len3 (by omega) (by omega) (by omega) (by omega) j_j3 (fun p hp => ?_)
      refine c_fD h hp (by omega) (fu := 99984 + 10) j_len3 (by omega) (by omega) j_j4 (fun v3 p hp => ?_)
      refine c_fC h hp (fu := 99984 + 9) j_len3 (by omega) (by omega) (by omega) (by omega) j_j5 (fun p hp => ?_)
      refine c_fD h hp (by omega) (fu := 99984 + 8) j_len3 (by omega) (by omega) j_j6 (fun v4 p hp => ?_)
      refine c_fC h hp (fu := 99984 + 7) j_len3 (by omega) (by omega) (by omega) (by omega) j_j7 (fun p hp => ?_)
      refine c_fN h hp (by omega) (fu := 99984 + 6) j_len3 (by omega) (by omega) j_j8 (fun v5 p hp => ?_)
      rw [c_fE j_len3, kO_1 (by decide)]
      refine cOut_s ⟨rfl, by omega, Or.inr (Or.inr (Or.inr (Or.inr ⟨rfl, rfl, ?_, ?_, ?_, ?_, ?_⟩)))⟩
      · rw [upd_n _ _ (by omega), upd_n _ _ (by omega), upd_n _ _ (by omega), upd_n _ _ (by omega), upd_s]; rfl
      · rw [upd_n _ _ (by omega), upd_n _ _ (by omega), upd_n _ _ (by omega), upd_s]; rfl
      · rw [upd_n _ _ (by omega), upd_n _ _ (by omega), upd_s]; rfl
      · rw [upd_n _ _ (by omega), upd_s]; rfl
      · rw [upd_s]; rfl
    rw [if_neg e106, if_pos (by omega)]
    have ef : F_X3_formOf (nI (ch a)) = fun D => some (9, D) := by
      funext D
      unfold F_X3_formOf
      rw [if_neg (show ¬ nI (ch a) = 97 from ca 97 (by omega) e97), if_neg (show ¬ nI (ch a) = 100 from ca 100 (by omega) e100), if_neg (show ¬ nI (ch a) = 103 from ca 103 (by omega) e103), if_neg (show ¬ nI (ch a) = 106 from ca 106 (by omega) e106)]
    rw [ef, bd_some, if_pos (by decide)]
    show cOut D (bd (F_X3_readForm_4 (99994 + 4 + 2) 9 1 (nI 0) (pS D 0 (a + 1) (nI (ch a)) 0 (-6) nu)) kO) _
    refine c_fN h hL (by omega) j_len4 (by omega) (by omega) j_n0 (fun v p hp => ?_)
    rw [c_fE j_len4, kO_1 (ca 103 (by omega) e103)]
    refine cOut_s ⟨rfl, by omega, Or.inr (Or.inl ⟨?_, rfl, by rw [upd_s]; rfl⟩)⟩
    rw [rw6_0]
    rcases (show ch a = 110 ∨ ch a = 119 ∨ ch a = 120 by omega) with e | e | e
    · exact Or.inl (by rw [e]; rfl)
    · exact Or.inr (Or.inl (by rw [e]; rfl))
    · exact Or.inr (Or.inr (by rw [e]; rfl))
  · have hs' := mt (ixV_ge _ hc).mpr hs
    rw [if_neg hs, if_neg (by omega), if_neg (by omega), if_neg (by omega), if_neg (by omega), if_neg (by omega)]
    exact cOut_f a
end CO
