/-! the reference's reading, step by step -/
section RS
variable {E : dT} {ch : Nat → Nat} {L : Nat} {a k : Nat} {w : Int32} {rd : Nat → Int32}
theorem rS_f (j : Nat) : rS9 E a w k rd 378 j = rF E a w k j := by unfold rS9; rw [wr_s]
theorem rS_8 : rS9 E a w k rd 378 8 = E 378 8 := rS_f 8
theorem rS_9 : rS9 E a w k rd 378 9 = nI a := rS_f 9
theorem rS_10 : rS9 E a w k rd 378 10 = w := rS_f 10
theorem rS_12 : rS9 E a w k rd 378 12 = nI k := rS_f 12
theorem rS_n : rS9 E a w k rd 385 = rd := by unfold rS9; rw [wr_o _ _ (by omega), wr_s]
theorem rS_o {i : Nat} (h1 : i ≠ 378) (h2 : i ≠ 385) : rS9 E a w k rd i = E i := by unfold rS9; rw [wr_o _ _ h1, wr_o _ _ h2]
theorem rS_u9 (b : Nat) : up2 (rS9 E a w k rd) 378 9 (nI b) = rS9 E b w k rd := wr_at (upd_ex rfl (fun j hj => by unfold rF; rw [if_neg hj, if_neg hj]))
theorem rS_u10 (v : Int32) : up2 (rS9 E a w k rd) 378 10 v = rS9 E a v k rd := wr_at (upd_ex rfl (fun j hj => by unfold rF; simp only [if_neg hj]))
theorem rS_u12 (m : Nat) : up2 (rS9 E a w k rd) 378 12 (nI m) = rS9 E a w m rd := wr_at (upd_ex rfl (fun j hj => by unfold rF; simp only [if_neg hj]))
theorem rS_un (i : Nat) (v : Int32) : up2 (rS9 E a w k rd) 385 i v = rS9 E a w k (upd rd i v) := by
  funext x
  by_cases e : x = 385
  · subst e
    rw [rS_n, wr_up, wr_s, rS_n]
  · rw [up2_o _ _ _ e]
    by_cases e2 : x = 378
    · subst e2
      funext k
      rw [rS_f, rS_f]
    · rw [rS_o e2 e, rS_o e2 e]
theorem nI_z (a : Nat) : nI a + (0 : Int32) = nI a := nI_add a 0
theorem e_let (h : PE E ch L) (ha : a ≤ L) : F_X6_letter (rS9 E a w k rd) = some (nI (ch a), rS9 E a w k rd) := by
  obtain ⟨h1, h2, h3, h4⟩ := h
  unfold F_X6_letter
  rw [rS_8, rS_9, h2]
  by_cases e : L ≤ a
  · rw [if_pos (nI_le e (by omega)), h4 a e]; rfl
  · rw [if_neg (nI_ge (by omega) (by omega)), if_pos (inRn (by omega) (by omega)), nI_clamp (by omega), rS_o (by omega) (by omega), (h3 a (by omega)).1]
theorem e_dig0 (h : PE E ch L) (ha : a ≤ L) : F_X6_digit (rS9 E a 0 k rd) = some (nI (ch a) - 48, rS9 E a 0 k rd) := by
  unfold F_X6_digit F_X6_digit_26 F_X6_digit_27
  rw [rS_10, if_pos rfl, if_pos (Or.inl rfl), rS_u10, e_let h ha, bd_some, rS_10, if_pos rfl, rS_9, nI_z, rS_u9]
theorem e_dig (h : PE E ch L) (ha : a ≤ L) : F_X6_digit (rS9 E a 1 k rd) = if isDg (ch a) then some (nI (ch a - 48), rS9 E (a + 1) 1 k rd) else some (nI (ch a) - 48, rS9 E a 0 k rd) := by
  unfold F_X6_digit F_X6_digit_26 F_X6_digit_27
  rw [rS_10, if_neg o10, e_let h ha, bd_some, r_in, bd_some]
  by_cases e : isDg (ch a)
  · rw [if_pos ((dg_i (che_le h a)).mpr e), if_neg o10, if_pos (Or.inr rfl), rS_u10, e_let h ha, bd_some, rS_10, if_neg o10, rS_9, nI_1, rS_u9, if_pos e, show (48 : Int32) = nI 48 from rfl, nI_sub e.1]
  · rw [if_neg (fun z => e ((dg_i (che_le h a)).mp z)), if_pos rfl, if_pos (Or.inl rfl), rS_u10, e_let h ha, bd_some, rS_10, if_pos rfl, rS_9, nI_z, rS_u9, if_neg e]
theorem e_wan0 (s : Int32) : F_X6_wants s (rS9 E a 0 k rd) = some (0, rS9 E a 0 k rd) := by
  unfold F_X6_wants F_X6_wants_20 F_X6_wants_21
  rw [rS_10, if_pos rfl, if_pos (Or.inl rfl), rS_u10, rS_10, if_pos rfl, rS_9, nI_z, rS_u9]
theorem e_wan (h : PE E ch L) (ha : a ≤ L) {s : Nat} (hs : s < 128) : F_X6_wants (nI s) (rS9 E a 1 k rd) = if ch a = s then some (0, rS9 E (a + 1) 1 k rd) else some (0, rS9 E a 0 k rd) := by
  have hc := che_le h a
  unfold F_X6_wants F_X6_wants_20 F_X6_wants_21
  rw [rS_10, if_neg o10, e_let h ha, bd_some]
  by_cases e : ch a = s
  · rw [if_pos (by rw [e]), if_pos (Or.inr rfl), rS_u10, rS_10, if_neg o10, rS_9, nI_1, rS_u9, if_pos e]
  · rw [if_neg (fun z => e ((nI_eq (by omega) (by omega)).mp z)), if_pos (Or.inl rfl), rS_u10, rS_10, if_pos rfl, rS_9, nI_z, rS_u9, if_neg e]
theorem e_num0 (h : PE E ch L) (ha : a ≤ L) : F_X6_number (rS9 E a 0 k rd) = some (nI (ch a) - 48, rS9 E a 0 k rd) := by
  unfold F_X6_number
  rw [e_dig0 h ha, bd_some, show lim = 99999 + 1 from rfl]
  unfold F_X6_number_5
  rw [rS_10, if_pos rfl]
theorem e_nL (h : PE E ch L) : ∀ f fu v a, f < fu → (v = 0 ∨ f = 2 ∧ v < 10 ∨ f = 1 ∧ 10 ≤ v ∧ v < 100 ∨ f = 0 ∧ 100 ≤ v ∧ v < 1000) → a ≤ L →
    F_X6_number_5 fu (nI v) (rS9 E a 1 k rd) = some (nI (numL ch f v a).1, rS9 E (numL ch f v a).2 1 k rd) := by
  have hin : ∀ v, v < 1000 → (1 ≤ nI v ∧ nI v ≤ 99 ↔ 1 ≤ v ∧ v ≤ 99) := fun v hv => by
    rw [show (1 : Int32) = nI 1 from rfl, show (99 : Int32) = nI 99 from rfl, nI_leI (by omega) (by omega), nI_leI (by omega) (by omega)]
  intro f
  induction f with
  | zero =>
    intro fu v a h1 h2 h3
    obtain ⟨fu, rfl⟩ : ∃ f, fu = f + 1 := ⟨fu - 1, by omega⟩
    unfold F_X6_number_5
    rw [rS_10, if_neg o10, r_in, bd_some, if_neg (show ¬ (1 ≤ nI v ∧ nI v ≤ 99) from fun z => by have := (hin v (by omega)).mp z; omega), if_pos rfl]
    rfl
  | succ f ih =>
    intro fu v a h1 h2 h3
    obtain ⟨fu, rfl⟩ : ∃ f, fu = f + 1 := ⟨fu - 1, by omega⟩
    unfold F_X6_number_5 numL
    rw [rS_10, if_neg o10, r_in, bd_some]
    by_cases v0 : v = 0
    · subst v0
      rw [if_neg (show ¬ (1 ≤ nI 0 ∧ nI 0 ≤ 99) by decide), if_pos rfl, if_neg (by omega)]
    · rw [if_pos ((hin v (by omega)).mpr (by omega)), if_neg o10, e_let h h3, bd_some, r_in, bd_some]
      by_cases e : isDg (ch a)
      · have : a < L := che_lt h (by have := e.1; omega)
        have hd := e
        rw [if_pos ((dg_i (che_le h a)).mpr e), if_neg o10, e_let h h3, bd_some, rS_9, nI_1, rS_u9, if_pos ⟨by omega, e⟩, show (10 : Int32) * nI v = nI (10 * v) from nI_mul 10 v, nI_add, show (48 : Int32) = nI 48 from rfl, nI_sub (by have := hd.1; omega), show 10 * v + ch a - 48 = 10 * v + (ch a - 48) by have := hd.1; omega]
        exact ih fu _ _ (by omega) (by have := hd.1; have := hd.2; omega) (by omega)
      · rw [if_neg (fun z => e ((dg_i (che_le h a)).mp z)), if_pos rfl, if_neg (fun z => e z.2)]
theorem e_num (h : PE E ch L) (ha : a ≤ L) : F_X6_number (rS9 E a 1 k rd) = if isDg (ch a) then some (nI (numL ch 2 (ch a - 48) (a + 1)).1, rS9 E (numL ch 2 (ch a - 48) (a + 1)).2 1 k rd) else some (nI (ch a) - 48, rS9 E a 0 k rd) := by
  unfold F_X6_number
  rw [e_dig h ha]
  by_cases e : isDg (ch a)
  · have : a < L := che_lt h (by have := e.1; omega)
    rw [if_pos e, if_pos e, bd_some]
    exact e_nL h 2 lim _ _ (lim_lt (by omega)) (by have := e.2; omega) (by omega)
  · rw [if_neg e, if_neg e, bd_some, show lim = 99999 + 1 from rfl]
    unfold F_X6_number_5
    rw [rS_10, if_pos rfl]
end RS
