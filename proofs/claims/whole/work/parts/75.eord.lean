/-! the reference reads an order -/
def eOut (E : dT) (k : Nat) (rd : Nat → Int32) (f : Option (Int32 × dT)) (r : R8) : Prop := ∃ rd' : Nat → Int32, f = some (0, rS9 E r.1 (if r.2.isSome then 1 else 0) (if r.2.isSome then k + 1 else k) rd') ∧ (∀ j, j < 6 * k → rd' j = rd j) ∧ ∀ o, r.2 = some o → relO (fun j => rd' (6 * k + j)) o
section EO
variable {E : dT} {ch : Nat → Nat} {L : Nat} {a k : Nat} {rd rd0 : Nat → Int32}
theorem eOut_f (h : ∀ j, j < 6 * k → rd j = rd0 j) (p : Nat) : eOut E k rd0 (some (0, rS9 E p 0 k rd)) (p, none) := ⟨rd, rfl, h, fun o e => by cases e⟩
theorem eOut_s (h : ∀ j, j < 6 * k → rd j = rd0 j) {p : Nat} {o : Nat → Int32} (ho : relO (fun j => rd (6 * k + j)) o) : eOut E k rd0 (some (0, rS9 E p 1 (k + 1) rd)) (p, some o) := ⟨rd, rfl, h, fun o' e => by
  injection e with e
  rw [← e]; exact ho⟩
theorem e_123f : F_X6_readsOrder_123 (rS9 E a 0 k rd) = some (0, rS9 E a 0 k rd) := by
  unfold F_X6_readsOrder_123
  rw [rS_10, if_pos rfl, rS_12, nI_z, rS_u12]
theorem e_123s : F_X6_readsOrder_123 (rS9 E a 1 k rd) = some (0, rS9 E a 1 (k + 1) rd) := by
  unfold F_X6_readsOrder_123
  rw [rS_10, if_neg o10, rS_12, nI_1, rS_u12]
theorem ag_u (h : ∀ j, j < 6 * k → rd j = rd0 j) (i : Nat) (v : Int32) : ∀ j, j < 6 * k → upd rd (6 * k + i) v j = rd0 j := fun j hj => by
  rw [upd_n _ _ (by omega)]; exact h j hj
theorem ix_r (hk : k ≤ 41) {i : Nat} (hi : i < 6) : inR (nI (6 * k) + nI i) 252 := by
  rw [nI_add]; exact inRn (by omega) (by omega)
theorem ix_c (hk : k ≤ 41) {i : Nat} (hi : i < 6) : (nI (6 * k) + nI i).toNatClampNeg = 6 * k + i := by
  rw [nI_add]; exact nI_clamp (by omega)
theorem e_j0 (h : PE E ch L) (ha : a ≤ L) (hk : k ≤ 41) : ∀ m v fu rd, v + m = 6 → m < fu → (∀ j, j < 6 * k → rd j = rd0 j) → ∃ rd', F_X6_readsJob_2 fu (nI (6 * k)) (nI v) (rS9 E a 0 k rd) = some (0, rS9 E a 0 k rd') ∧ ∀ j, j < 6 * k → rd' j = rd0 j := by
  intro m
  induction m with
  | zero =>
    intro v fu rd h1 h2 h3
    obtain ⟨fu, rfl⟩ : ∃ f, fu = f + 1 := ⟨fu - 1, by omega⟩
    unfold F_X6_readsJob_2
    rw [if_pos (show (6 : Int32) ≤ nI v from nI_le (a := 6) (by omega) (by omega))]
    exact ⟨rd, rfl, h3⟩
  | succ m ih =>
    intro v fu rd h1 h2 h3
    obtain ⟨fu, rfl⟩ : ∃ f, fu = f + 1 := ⟨fu - 1, by omega⟩
    unfold F_X6_readsJob_2
    rw [if_neg (show ¬ (6 : Int32) ≤ nI v from nI_ge (b := 6) (by omega) (by omega)), e_wan0, bd_some]
    unfold F_X6_readsJob_37
    by_cases e : 5 ≤ v
    · rw [if_pos (show (5 : Int32) ≤ nI v from nI_le (a := 5) e (by omega)), e_num0 h ha, bd_some]
      simp only [if_pos (ix_r hk (show v < 6 by omega)), ix_c hk (show v < 6 by omega)]
      rw [rS_un, nI_1]
      exact ih (v + 1) fu _ (by omega) (by omega) (ag_u h3 v _)
    · rw [if_neg (show ¬ (5 : Int32) ≤ nI v from nI_ge (b := 5) (by omega) (by omega)), e_dig0 h ha, bd_some]
      simp only [if_pos (ix_r hk (show v < 6 by omega)), ix_c hk (show v < 6 by omega)]
      rw [rS_un, nI_1]
      exact ih (v + 1) fu _ (by omega) (by omega) (ag_u h3 v _)
theorem e_j0' (h : PE E ch L) (ha : a ≤ L) (hk : k ≤ 41) {m v fu : Nat} (h1 : v + m = 6) (h2 : m < fu) (h3 : ∀ j, j < 6 * k → rd j = rd0 j) : eOut E k rd0 (bd (F_X6_readsJob_2 fu (nI (6 * k)) (nI v) (rS9 E a 0 k rd)) (fun (_ : Int32) (D3 : dT) => F_X6_readsOrder_123 D3)) (a, none) := by
  obtain ⟨rd', e1, e2⟩ := e_j0 h ha hk m v fu rd h1 h2 h3
  rw [e1, bd_some, e_123f]
  exact eOut_f e2 a
theorem e_jd (h : PE E ch L) (ha : a ≤ L) (hk : k ≤ 41) {v fu m : Nat} (h1 : v + 1 + m = 6) (h2 : m < fu) (h3 : ∀ j, j < 6 * k → rd j = rd0 j) (hv : v < 5) {kk : Nat → Nat → R8}
    (hkk : ∀ x p, p ≤ L → eOut E k rd0 (bd (F_X6_readsJob_2 fu (nI (6 * k)) (nI (v + 1)) (rS9 E p 1 k (upd rd (6 * k + v) (nI x)))) (fun (_ : Int32) (D3 : dT) => F_X6_readsOrder_123 D3)) (kk x p)) :
    eOut E k rd0 (bd (F_X6_readsJob_2 (fu + 1) (nI (6 * k)) (nI v) (rS9 E a 1 k rd)) (fun (_ : Int32) (D3 : dT) => F_X6_readsOrder_123 D3)) (sChr ch 44 a (fun p => sNum ch 0 p kk)) := by
  unfold F_X6_readsJob_2 sChr sNum F_X6_readsJob_37
  rw [if_neg (show ¬ (6 : Int32) ≤ nI v from nI_ge (b := 6) (by omega) (by omega)), show (44 : Int32) = nI 44 from rfl, e_wan h ha (by omega)]
  by_cases e : ch a = 44
  · have hl : a < L := che_lt h (by omega)
    rw [if_pos e, if_pos e, bd_some, if_neg (show ¬ (5 : Int32) ≤ nI v from nI_ge (b := 5) (by omega) (by omega)), e_dig h (by omega)]
    dsimp only
    by_cases e2 : isDg (ch (a + 1))
    · have hl2 : a + 1 < L := che_lt h (by have := e2.1; omega)
      rw [if_pos e2, if_pos e2, bd_some]
      simp only [if_pos (ix_r hk (show v < 6 by omega)), ix_c hk (show v < 6 by omega)]
      rw [rS_un, nI_1]
      exact hkk _ _ (by omega)
    · rw [if_neg e2, if_neg e2, bd_some]
      simp only [if_pos (ix_r hk (show v < 6 by omega)), ix_c hk (show v < 6 by omega)]
      rw [rS_un, nI_1]
      exact e_j0' h (by omega) hk h1 h2 (ag_u h3 v _)
  · rw [if_neg e, if_neg e, bd_some, if_neg (show ¬ (5 : Int32) ≤ nI v from nI_ge (b := 5) (by omega) (by omega)), e_dig0 h ha, bd_some]
    simp only [if_pos (ix_r hk (show v < 6 by omega)), ix_c hk (show v < 6 by omega)]
    rw [rS_un, nI_1]
    exact e_j0' h ha hk h1 h2 (ag_u h3 v _)
theorem e_jn (h : PE E ch L) (ha : a ≤ L) (hk : k ≤ 41) {fu : Nat} (h3 : ∀ j, j < 6 * k → rd j = rd0 j) {kk : Nat → Nat → R8}
    (hkk : ∀ x p, p ≤ L → eOut E k rd0 (some (0, rS9 E p 1 (k + 1) (upd rd (6 * k + 5) (nI x)))) (kk x p)) :
    eOut E k rd0 (bd (F_X6_readsJob_2 (fu + 2) (nI (6 * k)) (nI 5) (rS9 E a 1 k rd)) (fun (_ : Int32) (D3 : dT) => F_X6_readsOrder_123 D3)) (sChr ch 44 a (fun p => sNum ch 2 p kk)) := by
  have he : ∀ X, F_X6_readsJob_2 (fu + 1) (nI (6 * k)) (nI 6) X = some (0, X) := by
    intro X
    unfold F_X6_readsJob_2
    rw [if_pos (by decide)]
  have hr := ix_r hk (show 5 < 6 by omega)
  have hc := ix_c hk (show 5 < 6 by omega)
  unfold F_X6_readsJob_2 sChr sNum F_X6_readsJob_37
  rw [if_neg (by decide), show (44 : Int32) = nI 44 from rfl, e_wan h ha (by omega)]
  by_cases e : ch a = 44
  · have hl : a < L := che_lt h (by omega)
    rw [if_pos e, if_pos e, bd_some, if_pos (by decide), e_num h (by omega)]
    dsimp only
    by_cases e2 : isDg (ch (a + 1))
    · have hl2 : a + 1 < L := che_lt h (by have := e2.1; omega)
      rw [if_pos e2, if_pos e2, bd_some]
      simp only [if_pos hr, hc]
      rw [rS_un, nI_1, he, bd_some, e_123s]
      exact hkk _ _ (numL_le h.2.2.2 _ _ _ (by omega)).1
    · rw [if_neg e2, if_neg e2, bd_some]
      simp only [if_pos hr, hc]
      rw [rS_un, nI_1, he, bd_some, e_123f]
      exact eOut_f (ag_u h3 5 _) _
  · rw [if_neg e, if_neg e, bd_some, if_pos (by decide), e_num0 h ha, bd_some]
    simp only [if_pos hr, hc]
    rw [rS_un, nI_1, he, bd_some, e_123f]
    exact eOut_f (ag_u h3 5 _) _
/-- crews -/
theorem e_49f (hk : k ≤ 41) (c : Int32) : F_X6_readsCrew_49 (nI (6 * k)) c (rS9 E a 0 k rd) = some (0, rS9 E a 0 k (upd (upd rd (6 * k + 2) c) (6 * k + 3) (-6))) := by
  have h2 := ix_r hk (show 2 < 6 by omega)
  have h3 := ix_r hk (show 3 < 6 by omega)
  have c2 := ix_c hk (show 2 < 6 by omega)
  have c3 := ix_c hk (show 3 < 6 by omega)
  unfold F_X6_readsCrew_49
  rw [show (2 : Int32) = nI 2 from rfl, show (3 : Int32) = nI 3 from rfl]
  simp only [if_pos h2, if_pos h3, c2, c3, rS_un, rS_10, if_true]
theorem e_49 (h : PE E ch L) (ha : a ≤ L) (hk : k ≤ 41) (h3 : ∀ j, j < 6 * k → rd j = rd0 j) (h0 : rd (6 * k) = 103) {v : Nat} (h1 : rd (6 * k + 1) = nI v) (c : Int32) : eOut E k rd0 (bd (F_X6_readsCrew_49 (nI (6 * k)) c (rS9 E a 1 k rd)) (fun (_ : Int32) (D3 : dT) => F_X6_readsOrder_123 D3)) (sKnd ch v c a) := by
  have g2 := ix_r hk (show 2 < 6 by omega)
  have g3 := ix_r hk (show 3 < 6 by omega)
  have c2 := ix_c hk (show 2 < 6 by omega)
  have c3 := ix_c hk (show 3 < 6 by omega)
  unfold F_X6_readsCrew_49 sKnd
  rw [show (2 : Int32) = nI 2 from rfl, show (3 : Int32) = nI 3 from rfl]
  simp only [if_pos g2, if_pos g3, c2, c3, rS_un, rS_10, if_neg o10]
  rw [e_let h ha, bd_some, show (43 : Int32) = nI 43 from rfl, rS_9, nI_1, rS_u9]
  have hc := che_le h a
  have a3 := ag_u (ag_u h3 2 c) 3 (-6)
  by_cases e : ch a = 43
  · have hl : a < L := che_lt h (by omega)
    rw [if_pos (by rw [e]), if_pos e, e_dig h (by omega)]
    by_cases e2 : isDg (ch (a + 1))
    · rw [if_pos e2, if_pos e2, bd_some, rS_un, bd_some, e_123s]
      refine eOut_s (ag_u a3 3 _) ⟨?_, Or.inr (Or.inr (Or.inr (Or.inl ⟨rfl, ?_, ?_, ?_⟩)))⟩
      · show upd _ _ _ (6 * k) = _
        rw [upd_n _ _ (by omega), upd_n _ _ (by omega), upd_n _ _ (by omega), h0]; rfl
      · show upd _ _ _ (6 * k + 1) = _
        rw [upd_n _ _ (by omega), upd_n _ _ (by omega), upd_n _ _ (by omega), h1]; rfl
      · show upd _ _ _ (6 * k + 2) = _
        rw [upd_n _ _ (by omega), upd_n _ _ (by omega), upd_s]; rfl
      · show upd _ _ _ (6 * k + 3) = _
        rw [upd_s]; rfl
    · rw [if_neg e2, if_neg e2, bd_some, rS_un, bd_some, e_123f]
      exact eOut_f (ag_u a3 3 _) _
  · rw [if_neg (fun z => e ((nI_eq (by omega) (by omega)).mp z)), if_neg e, bd_some, e_123s]
    refine eOut_s a3 ⟨?_, Or.inr (Or.inr (Or.inr (Or.inl ⟨rfl, ?_, ?_, ?_⟩)))⟩
    · show upd _ _ _ (6 * k) = _
      rw [upd_n _ _ (by omega), upd_n _ _ (by omega), h0]; rfl
    · show upd _ _ _ (6 * k + 1) = _
      rw [upd_n _ _ (by omega), upd_n _ _ (by omega), h1]; rfl
    · show upd _ _ _ (6 * k + 2) = _
      rw [upd_n _ _ (by omega), upd_s]; rfl
    · show upd _ _ _ (6 * k + 3) = _
      rw [upd_s]; rfl
theorem e_16 (h : PE E ch L) (x : Int32) : ∀ f fu c a, L ≤ a + f → f < fu → a ≤ L → F_X6_readsCrew_16 fu x c (rS9 E a 1 k rd) = F_X6_readsCrew_49 x (crL ch f c a).1 (rS9 E (crL ch f c a).2 1 k rd) := by
  intro f
  induction f with
  | zero =>
    intro fu c a h1 h2 h3
    obtain ⟨fu, rfl⟩ : ∃ f, fu = f + 1 := ⟨fu - 1, by omega⟩
    have e : ¬ isDg (ch a) := fun z => by have := h.2.2.2 a (by omega); have := z.1; omega
    unfold F_X6_readsCrew_16
    rw [rS_10, if_neg o10, e_let h h3, bd_some, r_in, bd_some, if_neg (fun z => e ((dg_i (che_le h a)).mp z)), if_pos rfl]
    rfl
  | succ f ih =>
    intro fu c a h1 h2 h3
    obtain ⟨fu, rfl⟩ : ∃ f, fu = f + 1 := ⟨fu - 1, by omega⟩
    unfold F_X6_readsCrew_16 crL
    rw [rS_10, if_neg o10, e_let h h3, bd_some, r_in, bd_some]
    by_cases e : isDg (ch a)
    · have : a < L := che_lt h (by have := e.1; omega)
      rw [if_pos ((dg_i (che_le h a)).mpr e), if_neg o10, e_dig h h3, if_pos e, bd_some, if_pos e]
      exact ih fu _ (a + 1) (by omega) (by omega) (by omega)
    · rw [if_neg (fun z => e ((dg_i (che_le h a)).mp z)), if_pos rfl, if_neg e]
theorem d15 : ∀ d, d < 10 → (0 : Int32) ||| ((1 : Int32) <<< (nI d &&& 31)) = (1 : Int32) <<< ((nI d &&& 15) &&& 31) := by decide +kernel
theorem e_crf (h : PE E ch L) (ha : a ≤ L) (hk : k ≤ 41) (h3 : ∀ j, j < 6 * k → rd j = rd0 j) : ∃ rd', F_X6_readsCrew (nI (6 * k)) (rS9 E a 0 k rd) = some (0, rS9 E a 0 k rd') ∧ ∀ j, j < 6 * k → rd' j = rd0 j := by
  unfold F_X6_readsCrew
  rw [e_wan0, bd_some, e_dig0 h ha, bd_some, show lim = 99999 + 1 from rfl]
  unfold F_X6_readsCrew_16
  rw [rS_10, if_pos rfl, e_49f hk]
  exact ⟨_, rfl, ag_u (ag_u h3 2 _) 3 _⟩
theorem e_crw (h : PE E ch L) (ha : a ≤ L) (hk : k ≤ 41) (h3 : ∀ j, j < 6 * k → rd j = rd0 j) (h0 : rd (6 * k) = 103) {v : Nat} (h1 : rd (6 * k + 1) = nI v) :
    eOut E k rd0 (bd (F_X6_readsCrew (nI (6 * k)) (rS9 E a 1 k rd)) (fun (_ : Int32) (D3 : dT) => F_X6_readsOrder_123 D3)) (sChr ch 58 a (fun p => sCrw ch v p)) := by
  unfold F_X6_readsCrew sChr sCrw
  rw [show (58 : Int32) = nI 58 from rfl, e_wan h ha (by omega)]
  by_cases e : ch a = 58
  · have hl : a < L := che_lt h (by omega)
    rw [if_pos e, if_pos e, bd_some, e_dig h (by omega)]
    dsimp only
    by_cases e2 : isDg (ch (a + 1))
    · have hl2 : a + 1 < L := che_lt h (by have := e2.1; omega)
      have e3 : crL ch 80 0 (a + 1) = crL ch 79 ((1 : Int32) <<< ((nI (ch (a + 1) - 48) &&& 15) &&& 31)) (a + 1 + 1) := by
        show (if isDg (ch (a + 1)) then crL ch 79 (0 ||| ((1 : Int32) <<< (nI (ch (a + 1) - 48) &&& 31))) (a + 1 + 1) else (0, a + 1)) = _
        rw [if_pos e2, d15 _ (by have := e2.2; omega)]
      rw [if_pos e2, if_pos e2, bd_some, e_16 h _ 79 lim _ _ (by have := h.1; omega) (lim_lt (by omega)) (by omega), e3]
      exact e_49 h (crL_le h.2.2.2 _ _ _ (by omega)).1 hk h3 h0 h1 _
    · rw [if_neg e2, if_neg e2, bd_some, show lim = 99999 + 1 from rfl]
      unfold F_X6_readsCrew_16
      rw [rS_10, if_pos rfl, e_49f hk, bd_some, e_123f]
      exact eOut_f (ag_u (ag_u h3 2 _) 3 _) _
  · rw [if_neg e, if_neg e, bd_some, e_dig0 h ha, bd_some, show lim = 99999 + 1 from rfl]
    unfold F_X6_readsCrew_16
    rw [rS_10, if_pos rfl, e_49f hk, bd_some, e_123f]
    exact eOut_f (ag_u (ag_u h3 2 _) 3 _) _
/-- behind the first number -/
theorem e_70f (h : PE E ch L) (ha : a ≤ L) (hk : k ≤ 41) (h3 : ∀ j, j < 6 * k → rd j = rd0 j) (c z : Int32) : eOut E k rd0 (F_X6_readsOrder_70 (nI (6 * k)) c z (nI (6 * k) + 1) (rS9 E a 0 k rd)) (a, none) := by
  have g1 := ix_r hk (show 1 < 6 by omega)
  have c1 := ix_c hk (show 1 < 6 by omega)
  have g2 := ix_r hk (show 2 < 6 by omega)
  have c2 := ix_c hk (show 2 < 6 by omega)
  have a1 := ag_u h3 1 z
  unfold F_X6_readsOrder_70
  rw [show (1 : Int32) = nI 1 from rfl]
  simp only [if_pos g1, c1, rS_un]
  by_cases e : c = 106
  · rw [if_pos e]
    exact e_j0' h ha hk (m := 4) (v := 2) (by omega) (lim_lt (by omega)) a1
  rw [if_neg e]
  by_cases e : c = 103
  · rw [if_pos e]
    obtain ⟨rd', e1, e2⟩ := e_crf (E := E) (ch := ch) h ha hk a1
    rw [e1, bd_some, e_123f]
    exact eOut_f e2 a
  rw [if_neg e]
  by_cases e : c = 100
  · rw [if_pos e, e_wan0, bd_some, e_num0 h ha, bd_some, show (2 : Int32) = nI 2 from rfl]
    simp only [if_pos g2, c2, rS_un]
    rw [e_123f]
    exact eOut_f (ag_u a1 2 _) a
  rw [if_neg e, e_123f]
  exact eOut_f a1 a
/-- the first number, and what follows -/
theorem e_fst (h : PE E ch L) (ha : a ≤ L) (hk : k ≤ 41) (h3 : ∀ j, j < 6 * k → rd j = rd0 j) (c : Int32) {kk : Nat → Nat → R8}
    (hkk : ∀ v p, p ≤ L → eOut E k rd0 (F_X6_readsOrder_70 (nI (6 * k)) c (nI v) (nI (6 * k) + 1) (rS9 E p 1 k rd)) (kk v p)) :
    eOut E k rd0 (bd (F_X6_number (rS9 E a 1 k rd)) (fun (r2 : Int32) (D3 : dT) => F_X6_readsOrder_70 (nI (6 * k)) c r2 (nI (6 * k) + 1) D3)) (sNum ch 2 a kk) := by
  unfold sNum
  rw [e_num h ha]
  by_cases e : isDg (ch a)
  · have hl : a < L := che_lt h (by have := e.1; omega)
    rw [if_pos e, if_pos e, bd_some]
    exact hkk _ _ (numL_le h.2.2.2 _ _ _ (by omega)).1
  · rw [if_neg e, if_neg e, bd_some]
    exact e_70f h ha hk h3 c _
theorem e_isO (D : dT) (c : Int32) : F_X6_isOrder c D = some (if c = 97 ∨ c = 100 ∨ c = 103 ∨ c = 106 ∨ c = 110 ∨ c = 119 ∨ c = 120 then 1 else 0, D) := by
  unfold F_X6_isOrder
  by_cases a1 : c = 119
  · rw [if_pos a1, if_pos (by simp only [a1]; decide)]
  rw [if_neg a1]
  by_cases a2 : c = 106
  · rw [if_pos a2, if_pos (by simp only [a2]; decide)]
  rw [if_neg a2]
  by_cases a3 : c = 103
  · rw [if_pos a3, if_pos (by simp only [a3]; decide)]
  rw [if_neg a3]
  by_cases a4 : c = 100
  · rw [if_pos a4, if_pos (by simp only [a4]; decide)]
  rw [if_neg a4]
  by_cases a5 : c = 120
  · rw [if_pos a5, if_pos (by simp only [a5]; decide)]
  rw [if_neg a5]
  by_cases a6 : c = 97
  · rw [if_pos a6, if_pos (by simp only [a6]; decide)]
  rw [if_neg a6]
  by_cases a7 : c = 110
  · rw [if_pos a7, if_pos (by simp only [a7]; decide)]
  rw [if_neg a7, if_neg (by simp only [a1, a2, a3, a4, a5, a6, a7]; simp)]
theorem e_ord (h : PE E ch L) (ha : a ≤ L) (hk : k ≤ 41) (w : Int32) : eOut E k rd (F_X6_readsOrder (rS9 E a w k rd)) (ord ch a) := by
  have hc := che_le h a
  have ca : ∀ m, m < 128 → (nI (ch a) = nI m ↔ ch a = m) := fun m hm => nI_eq (by omega) (by omega)
  have hiff : (nI (ch a) = 97 ∨ nI (ch a) = 100 ∨ nI (ch a) = 103 ∨ nI (ch a) = 106 ∨ nI (ch a) = 110 ∨ nI (ch a) = 119 ∨ nI (ch a) = 120) ↔ (ch a = 97 ∨ ch a = 100 ∨ ch a = 103 ∨ ch a = 106 ∨ ch a = 110 ∨ ch a = 119 ∨ ch a = 120) := by
    rw [← ca 97 (by omega), ← ca 100 (by omega), ← ca 103 (by omega), ← ca 106 (by omega), ← ca 110 (by omega), ← ca 119 (by omega), ← ca 120 (by omega)]
    exact Iff.rfl
  have g0 : inR (nI (6 * k)) 252 := inRn (by omega) (by omega)
  have c0 : (nI (6 * k)).toNatClampNeg = 6 * k := nI_clamp (by omega)
  have g1 := ix_r hk (show 1 < 6 by omega)
  have c1 := ix_c hk (show 1 < 6 by omega)
  have h0 : ∀ j, j < 6 * k → rd j = rd j := fun _ _ => rfl
  have a0 : ∀ v, ∀ j, j < 6 * k → upd rd (6 * k) v j = rd j := fun v j hj => upd_n _ _ (by omega)
  unfold F_X6_readsOrder ord
  rw [e_let h ha, bd_some, e_isO, bd_some, rS_12, show (6 : Int32) * nI k = nI (6 * k) from nI_mul 6 k]
  by_cases hs : ch a = 97 ∨ ch a = 100 ∨ ch a = 103 ∨ ch a = 106 ∨ ch a = 110 ∨ ch a = 119 ∨ ch a = 120
  · have hl : a < L := che_lt h (by omega)
    have hL : a + 1 ≤ L := hl
    rw [if_pos (hiff.mpr hs), if_pos (Or.inr rfl), rS_u10, rS_10, if_neg o10, rS_9]
    unfold F_X6_readsOrder_38
    simp only [if_pos g0, c0]
    rw [nI_1 a, rS_u9, rS_un]
    by_cases e97 : ch a = 97
    · rw [if_pos (show nI (ch a) = 97 from (ca 97 (by omega)).mpr e97), if_pos e97]
      unfold F_X6_readsOrder_70
      rw [show (1 : Int32) = nI 1 from rfl]
      simp only [if_pos g1, c1]
      rw [show rS9 E (a + 1) (nI 1) k (upd rd (6 * k) (nI (ch a))) = rS9 E (a + 1) 1 k (upd rd (6 * k) (nI (ch a))) from rfl, rS_un, e97, if_neg (by decide), if_neg (by decide), if_neg (by decide), e_123s]
      refine eOut_s (ag_u (a0 _) 1 _) ⟨?_, Or.inl rfl⟩
      show upd _ _ _ (6 * k) = _
      rw [upd_n _ _ (by omega), upd_s]; rfl
    rw [if_neg (show ¬ nI (ch a) = 97 from fun z => e97 ((ca 97 (by omega)).mp z)), if_neg e97]
    by_cases e100 : ch a = 100
    · rw [if_pos e100, e100]
      refine e_fst h hL hk (a0 _) _ (fun v p hp => ?_)
      unfold F_X6_readsOrder_70
      rw [show (1 : Int32) = nI 1 from rfl]
      simp only [if_pos g1, c1]
      rw [show rS9 E p (nI 1) k (upd rd (6 * k) (nI 100)) = rS9 E p 1 k (upd rd (6 * k) (nI 100)) from rfl, rS_un, if_neg (by decide), if_neg (by decide), if_pos (by decide), show (43 : Int32) = nI 43 from rfl, e_wan h hp (by omega)]
      have g2 := ix_r hk (show 2 < 6 by omega)
      have c2 := ix_c hk (show 2 < 6 by omega)
      rw [show (2 : Int32) = nI 2 from rfl]
      unfold sChr sNum
      by_cases e : ch p = 43
      · have hl : p < L := che_lt h (by omega)
        rw [if_pos e, if_pos e, bd_some, e_num h (by omega)]
        dsimp only
        by_cases e2 : isDg (ch (p + 1))
        · rw [if_pos e2, if_pos e2, bd_some]
          simp only [if_pos g2, c2, rS_un]
          rw [e_123s]
          refine eOut_s (ag_u (ag_u (a0 _) 1 _) 2 _) ⟨?_, Or.inr (Or.inr (Or.inl ⟨rfl, ?_, ?_⟩))⟩
          · show upd _ _ _ (6 * k) = _
            rw [upd_n _ _ (by omega), upd_n _ _ (by omega), upd_s]; rfl
          · show upd _ _ _ (6 * k + 1) = _
            rw [upd_n _ _ (by omega), upd_s]; rfl
          · show upd _ _ _ (6 * k + 2) = _
            rw [upd_s]; rfl
        · rw [if_neg e2, if_neg e2, bd_some]
          simp only [if_pos g2, c2, rS_un]
          rw [e_123f]
          exact eOut_f (ag_u (ag_u (a0 _) 1 _) 2 _) _
      · rw [if_neg e, if_neg e, bd_some, e_num0 h hp, bd_some]
        simp only [if_pos g2, c2, rS_un]
        rw [e_123f]
        exact eOut_f (ag_u (ag_u (a0 _) 1 _) 2 _) _
    rw [if_neg e100]
    by_cases e103 : ch a = 103
    · rw [if_pos e103, e103]
      refine e_fst h hL hk (a0 _) _ (fun v p hp => ?_)
      unfold F_X6_readsOrder_70
      rw [show (1 : Int32) = nI 1 from rfl]
      simp only [if_pos g1, c1]
      rw [show rS9 E p (nI 1) k (upd rd (6 * k) (nI 103)) = rS9 E p 1 k (upd rd (6 * k) (nI 103)) from rfl, rS_un, if_neg (by decide), if_pos (by decide)]
      exact e_crw h hp hk (ag_u (a0 _) 1 _) (by rw [upd_n _ _ (by omega), upd_s]; rfl) (upd_s _ _ _)
    rw [if_neg e103]
    by_cases e106 : ch a = 106
    · rw [if_pos e106, e106]
      refine e_fst h hL hk (a0 _) _ (fun v p hp => ?_)
      unfold F_X6_readsOrder_70 F_X6_readsJob
      rw [show (1 : Int32) = nI 1 from rfl]
      simp only [if_pos g1, c1]
      rw [show rS9 E p (nI 1) k (upd rd (6 * k) (nI 106)) = rS9 E p 1 k (upd rd (6 * k) (nI 106)) from rfl, rS_un, if_pos (by decide)]
      show eOut E k rd (bd (F_X6_readsJob_2 (99990 + 9 + 1) (nI (6 * k)) (nI 2) _) _) _
      have r1 := ag_u (a0 (nI 106)) 1 (nI v)
      refine e_jd h hp hk (m := 3) (by omega) (by omega) r1 (by omega) (fun v2 p hp => ?_)
      have r2 := ag_u r1 2 (nI v2)
      refine e_jd (fu := 99990 + 8) h hp hk (m := 2) (by omega) (by omega) r2 (by omega) (fun v3 p hp => ?_)
      have r3 := ag_u r2 3 (nI v3)
      refine e_jd (fu := 99990 + 7) h hp hk (m := 1) (by omega) (by omega) r3 (by omega) (fun v4 p hp => ?_)
      have r4 := ag_u r3 4 (nI v4)
      refine e_jn (fu := 99990 + 5) h hp hk r4 (fun v5 p hp => ?_)
      refine eOut_s (ag_u r4 5 _) ⟨?_, Or.inr (Or.inr (Or.inr (Or.inr ⟨rfl, ?_, ?_, ?_, ?_, ?_⟩)))⟩
      · show upd _ _ _ (6 * k) = _
        rw [upd_n _ _ (by omega), upd_n _ _ (by omega), upd_n _ _ (by omega), upd_n _ _ (by omega), upd_n _ _ (by omega), upd_s]; rfl
      · show upd _ _ _ (6 * k + 1) = _
        rw [upd_n _ _ (by omega), upd_n _ _ (by omega), upd_n _ _ (by omega), upd_n _ _ (by omega), upd_s]; rfl
      · show upd _ _ _ (6 * k + 2) = _
        rw [upd_n _ _ (by omega), upd_n _ _ (by omega), upd_n _ _ (by omega), upd_s]; rfl
      · show upd _ _ _ (6 * k + 3) = _
        rw [upd_n _ _ (by omega), upd_n _ _ (by omega), upd_s]; rfl
      · show upd _ _ _ (6 * k + 4) = _
        rw [upd_n _ _ (by omega), upd_s]; rfl
      · show upd _ _ _ (6 * k + 5) = _
        rw [upd_s]; rfl
    rw [if_neg e106, if_pos (by omega)]
    refine e_fst h hL hk (a0 _) _ (fun v p hp => ?_)
    unfold F_X6_readsOrder_70
    rw [show (1 : Int32) = nI 1 from rfl]
    simp only [if_pos g1, c1]
    rw [show rS9 E p (nI 1) k (upd rd (6 * k) (nI (ch a))) = rS9 E p 1 k (upd rd (6 * k) (nI (ch a))) from rfl, rS_un, if_neg (show ¬ nI (ch a) = 106 from fun z => e106 ((ca 106 (by omega)).mp z)), if_neg (show ¬ nI (ch a) = 103 from fun z => e103 ((ca 103 (by omega)).mp z)), if_neg (show ¬ nI (ch a) = 100 from fun z => e100 ((ca 100 (by omega)).mp z)), e_123s]
    refine eOut_s (ag_u (a0 _) 1 _) ⟨?_, Or.inr (Or.inl ⟨?_, ?_⟩)⟩
    · show upd _ _ _ (6 * k) = _
      rw [upd_n _ _ (by omega), upd_s]; rfl
    · rw [rw6_0]
      rcases (show ch a = 110 ∨ ch a = 119 ∨ ch a = 120 by omega) with e | e | e
      · exact Or.inl (by rw [e]; rfl)
      · exact Or.inr (Or.inl (by rw [e]; rfl))
      · exact Or.inr (Or.inr (by rw [e]; rfl))
    · show upd _ _ _ (6 * k + 1) = _
      rw [upd_s]; rfl
  · rw [if_neg (fun z => hs (hiff.mp z)), if_pos (Or.inl rfl), rS_u10, rS_10, if_pos rfl, rS_9]
    unfold F_X6_readsOrder_38
    simp only [if_pos g0, c0]
    rw [nI_z, rS_u9, rS_un, if_neg (show ¬ nI (ch a) = 97 from fun z => hs (Or.inl ((ca 97 (by omega)).mp z))), e_num0 h ha, bd_some, if_neg (by omega), if_neg (by omega), if_neg (by omega), if_neg (by omega), if_neg (by omega)]
    exact e_70f h ha hk (a0 _) _ _
end EO
