/-! the parser: the pad as numbers ch (0 from L on); its pure steps -/
abbrev isDg (c : Nat) : Prop := 48 ≤ c ∧ c ≤ 57
abbrev R8 : Type := Nat × Option (Nat → Int32)
def numL (ch : Nat → Nat) : Nat → Nat → Nat → Nat × Nat
  | 0, v, a => (v, a)
  | f + 1, v, a => if 0 < v ∧ isDg (ch a) then numL ch f (10 * v + (ch a - 48)) (a + 1) else (v, a)
def PD (D : dT) (ch : Nat → Nat) (L : Nat) : Prop := L ≤ 80 ∧ D 311 4 = nI L ∧ (∀ i, i < L → D 312 i = nI (ch i) ∧ 33 ≤ ch i ∧ ch i ≤ 126) ∧ ∀ i, L ≤ i → ch i = 0
def PE (E : dT) (ch : Nat → Nat) (L : Nat) : Prop := L ≤ 80 ∧ E 378 8 = nI L ∧ (∀ i, i < L → E 384 i = nI (ch i) ∧ 33 ≤ ch i ∧ ch i ≤ 126) ∧ ∀ i, L ≤ i → ch i = 0
def pF (D : dT) (n a : Nat) (sg cr kd : Int32) : Nat → Int32 := fun k => if k = 2 then nI n else if k = 3 then nI a else if k = 5 then sg else if k = 6 then cr else if k = 7 then kd else D 311 k
def pS (D : dT) (n a : Nat) (sg cr kd : Int32) (nu : Nat → Int32) : dT := wr (wr D 313 nu) 311 (pF D n a sg cr kd)
def rF (E : dT) (a : Nat) (w : Int32) (k : Nat) : Nat → Int32 := fun j => if j = 9 then nI a else if j = 10 then w else if j = 12 then nI k else E 378 j
def rS9 (E : dT) (a : Nat) (w : Int32) (k : Nat) (rd : Nat → Int32) : dT := wr (wr E 385 rd) 378 (rF E a w k)
theorem wr_at {D : dT} {q k : Nat} {f g : Nat → Int32} {v : Int32} (h : upd f k v = g) : up2 (wr D q f) q k v = wr D q g := by
  rw [wr_up, wr_wr, wr_s, h]
section PS
variable {D : dT} {n a : Nat} {sg cr kd : Int32} {nu : Nat → Int32}
theorem pS_f (k : Nat) : pS D n a sg cr kd nu 311 k = pF D n a sg cr kd k := by unfold pS; rw [wr_s]
theorem pS_2 : pS D n a sg cr kd nu 311 2 = nI n := pS_f 2
theorem pS_3 : pS D n a sg cr kd nu 311 3 = nI a := pS_f 3
theorem pS_4 : pS D n a sg cr kd nu 311 4 = D 311 4 := pS_f 4
theorem pS_5 : pS D n a sg cr kd nu 311 5 = sg := pS_f 5
theorem pS_6 : pS D n a sg cr kd nu 311 6 = cr := pS_f 6
theorem pS_7 : pS D n a sg cr kd nu 311 7 = kd := pS_f 7
theorem pS_n : pS D n a sg cr kd nu 313 = nu := by unfold pS; rw [wr_o _ _ (by omega), wr_s]
theorem pS_o {i : Nat} (h1 : i ≠ 311) (h2 : i ≠ 313) : pS D n a sg cr kd nu i = D i := by unfold pS; rw [wr_o _ _ h1, wr_o _ _ h2]
theorem upd_ex {f g : Nat → Int32} {k : Nat} {v : Int32} (h1 : g k = v) (h2 : ∀ j, j ≠ k → f j = g j) : upd f k v = g := by
  funext j
  by_cases e : j = k
  · subst e; rw [upd_s, h1]
  · rw [upd_n _ _ e, h2 j e]
theorem pS_u2 (m : Nat) : up2 (pS D n a sg cr kd nu) 311 2 (nI m) = pS D m a sg cr kd nu := wr_at (upd_ex rfl (fun j hj => by unfold pF; rw [if_neg hj, if_neg hj]))
theorem pS_u3 (b : Nat) : up2 (pS D n a sg cr kd nu) 311 3 (nI b) = pS D n b sg cr kd nu := wr_at (upd_ex rfl (fun j hj => by unfold pF; simp only [if_neg hj]))
theorem pS_u5 (v : Int32) : up2 (pS D n a sg cr kd nu) 311 5 v = pS D n a v cr kd nu := wr_at (upd_ex rfl (fun j hj => by unfold pF; simp only [if_neg hj]))
theorem pS_u6 (v : Int32) : up2 (pS D n a sg cr kd nu) 311 6 v = pS D n a sg v kd nu := wr_at (upd_ex rfl (fun j hj => by unfold pF; simp only [if_neg hj]))
theorem pS_u7 (v : Int32) : up2 (pS D n a sg cr kd nu) 311 7 v = pS D n a sg cr v nu := wr_at (upd_ex rfl (fun j hj => by unfold pF; simp only [if_neg hj]))
theorem pS_un (i : Nat) (v : Int32) : up2 (pS D n a sg cr kd nu) 313 i v = pS D n a sg cr kd (upd nu i v) := by
  funext x
  by_cases e : x = 313
  · subst e
    rw [pS_n, wr_up, wr_s, pS_n]
  · rw [up2_o _ _ _ e]
    by_cases e2 : x = 311
    · subst e2
      funext k
      rw [pS_f, pS_f]
    · rw [pS_o e2 e, pS_o e2 e]
end PS
section CC
variable {D : dT} {ch : Nat → Nat} {L : Nat} {n a : Nat} {sg cr kd : Int32} {nu : Nat → Int32}
theorem ch_le (h : PD D ch L) (a : Nat) : ch a ≤ 126 := by
  by_cases e : a < L
  · exact (h.2.2.1 a e).2.2
  · rw [h.2.2.2 a (by omega)]; omega
theorem ch_lt (h : PD D ch L) {a : Nat} (e : 0 < ch a) : a < L := by
  refine Nat.not_le.mp (fun z => ?_)
  rw [h.2.2.2 a z] at e
  omega
theorem che_le (h : PE D ch L) (a : Nat) : ch a ≤ 126 := by
  by_cases e : a < L
  · exact (h.2.2.1 a e).2.2
  · rw [h.2.2.2 a (by omega)]; omega
theorem che_lt (h : PE D ch L) {a : Nat} (e : 0 < ch a) : a < L := by
  refine Nat.not_le.mp (fun z => ?_)
  rw [h.2.2.2 a z] at e
  omega
theorem c_sH (h : PD D ch L) (ha : a ≤ L) : F_X3_signHere (pS D n a sg cr kd nu) = some (nI (ch a), pS D n a sg cr kd nu) := by
  obtain ⟨h1, h2, h3, h4⟩ := h
  unfold F_X3_signHere
  rw [pS_3, pS_4, h2, if_neg (nI_pos (by omega))]
  by_cases e : L ≤ a
  · rw [if_pos (nI_le e (by omega)), h4 a e]; rfl
  · rw [if_neg (nI_ge (by omega) (by omega)), if_pos (inRn (by omega) (by omega)), nI_clamp (by omega), pS_o (by omega) (by omega), (h3 a (by omega)).1]
theorem dg_i {c : Nat} (hc : c ≤ 126) : (48 ≤ nI c ∧ nI c ≤ 57) ↔ isDg c := by
  rw [show (48 : Int32) = nI 48 from rfl, show (57 : Int32) = nI 57 from rfl, nI_leI (by omega) (by omega), nI_leI (by omega) (by omega)]
theorem c_dH (h : PD D ch L) (ha : a ≤ L) : F_X3_isDigitHere (pS D n a sg cr kd nu) = some (if isDg (ch a) then 1 else 0, pS D n a sg cr kd nu) := by
  unfold F_X3_isDigitHere
  rw [c_sH h ha, bd_some, c_isWithin, bd_some]
  by_cases e : isDg (ch a)
  · rw [if_pos ((dg_i (ch_le h a)).mpr e), if_pos e, if_pos (Or.inr rfl)]
  · rw [if_neg (fun z => e ((dg_i (ch_le h a)).mp z)), if_neg e, if_pos (Or.inl rfl)]
theorem c_tD (h : PD D ch L) (ha : a ≤ L) (hd : isDg (ch a)) : F_X3_takeDigit (pS D n a sg cr kd nu) = some (nI (ch a - 48), pS D n (a + 1) sg cr kd nu) := by
  unfold F_X3_takeDigit
  rw [c_sH h ha, bd_some, pS_3, nI_1, pS_u3, show (48 : Int32) = nI 48 from rfl, nI_sub hd.1]
theorem c_sk (h : PD D ch L) (ha : a ≤ L) {s : Nat} (hs : s < 128) : F_X3_skip (nI s) (pS D n a sg cr kd nu) = some (if ch a = s then 1 else 0, pS D n (if ch a = s then a + 1 else a) sg cr kd nu) := by
  have hc := ch_le h a
  unfold F_X3_skip
  rw [c_sH h ha, bd_some, pS_3, nI_1, pS_u3]
  by_cases e : ch a = s
  · rw [if_pos (by rw [e]), if_pos e, if_pos e]
  · rw [if_neg (fun z => e ((nI_eq (by omega) (by omega)).mp z)), if_neg e, if_neg e]
theorem numL_le (hL : ∀ i, L ≤ i → ch i = 0) : ∀ f v a, a ≤ L → (numL ch f v a).2 ≤ L ∧ a ≤ (numL ch f v a).2 := by
  intro f
  induction f with
  | zero => intro v a ha; exact ⟨ha, Nat.le_refl _⟩
  | succ f ih =>
    intro v a ha
    unfold numL
    by_cases e : 0 < v ∧ isDg (ch a)
    · rw [if_pos e]
      have : a < L := Nat.not_le.mp (fun z => by have := hL a z; have := e.2.1; omega)
      have := ih (10 * v + (ch a - 48)) (a + 1) (by omega)
      omega
    · rw [if_neg e]
      exact ⟨ha, Nat.le_refl _⟩
theorem numL_lt : ∀ f v a, f ≤ 2 → v < 10 ^ (3 - f) → (numL ch f v a).1 < 1000 := by
  intro f
  induction f with
  | zero => intro v a _ h; exact h
  | succ f ih =>
    intro v a hf h
    unfold numL
    have hp : 10 ^ (3 - f) = 10 * 10 ^ (3 - (f + 1)) := by
      rw [show 3 - f = (3 - (f + 1)) + 1 by omega, Nat.pow_succ, Nat.mul_comm]
    by_cases e : 0 < v ∧ isDg (ch a)
    · rw [if_pos e]
      exact ih _ _ (by omega) (by rw [hp]; have := e.2.2; have := e.2.1; omega)
    · rw [if_neg e]
      have : 10 ^ (3 - (f + 1)) ≤ 10 ^ 3 := Nat.pow_le_pow_right (by decide) (by omega)
      show v < 1000
      omega
theorem c_n48 {m v : Nat} (hn : n < 5) (x : Int32) : F_X3_readNumber_48 x (nI v) (pS D n a sg cr kd nu) = some (1, pS D (n + 1) a sg cr kd (upd nu n (nI v))) := by
  unfold F_X3_readNumber_48
  rw [pS_2, if_neg (show ¬ (5 : Int32) ≤ nI n from nI_ge (b := 5) (by omega) (by omega)), if_pos (inRn (by omega) (by omega)), nI_clamp (by omega), pS_un, pS_2, nI_1, pS_u2]
theorem c_nL (h : PD D ch L) (hn : n < 5) {m : Nat} (hm : m ≤ 3) : ∀ f fu v a, f < fu → f + 1 ≤ m → v < 10 ^ (3 - f) → a ≤ L →
    F_X3_readNumber_16 fu (nI m) (nI v) (nI (m - f)) (pS D n a sg cr kd nu) = some (1, pS D (n + 1) (numL ch f v a).2 sg cr kd (upd nu n (nI (numL ch f v a).1))) := by
  intro f
  induction f with
  | zero =>
    intro fu v a h1 h2 h3 h4
    obtain ⟨fu, rfl⟩ : ∃ f, fu = f + 1 := ⟨fu - 1, by omega⟩
    unfold F_X3_readNumber_16
    rw [if_pos (nI_le (by omega) (by omega)), c_n48 (m := m) hn]
    rfl
  | succ f ih =>
    intro fu v a h1 h2 h3 h4
    obtain ⟨fu, rfl⟩ : ∃ f, fu = f + 1 := ⟨fu - 1, by omega⟩
    have hp : 10 ^ (3 - f) = 10 * 10 ^ (3 - (f + 1)) := by
      rw [show 3 - f = (3 - (f + 1)) + 1 by omega, Nat.pow_succ, Nat.mul_comm]
    have hq : 10 ^ (3 - (f + 1)) ≤ 10 ^ 3 := Nat.pow_le_pow_right (by decide) (by omega)
    unfold F_X3_readNumber_16 numL
    rw [if_neg (nI_ge (by omega) (by omega))]
    by_cases v0 : v = 0
    · subst v0
      rw [if_pos (show nI 0 ≤ (0 : Int32) by decide), c_n48 (m := m) hn, if_neg (by omega)]
    · rw [if_neg (nI_nle (by omega) (by omega)), c_dH h h4, bd_some]
      by_cases e : isDg (ch a)
      · have : a < L := ch_lt h (by have := e.1; omega)
        have he := e
        rw [if_pos e, if_neg o10, c_tD h h4 e, bd_some, if_pos ⟨by omega, e⟩, show (10 : Int32) * nI v = nI (10 * v) from nI_mul 10 v, nI_add, nI_1, show m - (f + 1) + 1 = m - f by omega]
        exact ih fu _ _ (by omega) (by omega) (by rw [hp]; have := he.1; have := he.2; omega) (by omega)
      · rw [if_neg e, if_pos rfl, c_n48 (m := m) hn, if_neg (fun z => e z.2)]
theorem c_rN (h : PD D ch L) (ha : a ≤ L) (hn : n < 5) {m : Nat} (hm : m = 1 ∨ m = 3) : F_X3_readNumber (nI m) (pS D n a sg cr kd nu) = if isDg (ch a) then some (1, pS D (n + 1) (numL ch (m - 1) (ch a - 48) (a + 1)).2 sg cr kd (upd nu n (nI (numL ch (m - 1) (ch a - 48) (a + 1)).1))) else some (0, pS D n a sg cr kd nu) := by
  unfold F_X3_readNumber
  rw [c_dH h ha, bd_some]
  by_cases e : isDg (ch a)
  · have : a < L := ch_lt h (by have := e.1; omega)
    rw [if_pos e, if_pos e, if_neg o10, c_tD h ha e, bd_some]
    have hv : ch a - 48 < 10 ^ (3 - (m - 1)) := by
      have h10 : 10 ^ 1 ≤ 10 ^ (3 - (m - 1)) := Nat.pow_le_pow_right (by decide) (by omega)
      have := e.2
      omega
    have := c_nL (sg := sg) (cr := cr) (kd := kd) (nu := nu) h hn (m := m) (by omega) (m - 1) lim (ch a - 48) (a + 1) (lim_lt (by omega)) (by omega) hv (by omega)
    rw [show m - (m - 1) = 1 by omega] at this
    exact this
  · rw [if_neg e, if_neg e, if_pos rfl]
end CC
