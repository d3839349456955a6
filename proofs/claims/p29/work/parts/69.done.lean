/-! doneIn: the job alone beside whole hours -/
def EQ9 (P j : Nat) (t u : Nat → Int32) : Prop := t 1 = u 1 ∧ t 2 = u 2 ∧ (∀ k, k < 11 → t (52 + 12 * j + k) = u (52 + 12 * j + k)) ∧ ∀ p, p < P → bt (CRW t j) p = true → t (12 + 4 * p) = u (12 + 4 * p) ∧ t (12 + 4 * p + 1) = u (12 + 4 * p + 1)
theorem EQ9_r (P j : Nat) (t : Nat → Int32) : EQ9 P j t t := ⟨rfl, rfl, fun _ _ => rfl, fun _ _ _ => ⟨rfl, rfl⟩⟩
theorem strU_eq {t u : Nat → Int32} {c : Int32} : ∀ n, (∀ p, p < n → bt c p = true → t (12 + 4 * p + 1) = u (12 + 4 * p + 1)) → strU t c n = strU u c n := by
  intro n
  induction n with
  | zero => intro _; rfl
  | succ n ih =>
    intro h
    rw [strU_s, strU_s, ih (fun p hp => h p (by omega))]
    cases hb : bt c n
    · rfl
    · simp only [hb, if_true]
      rw [h n (by omega) hb]
/-- what an hour of job i does to a place -/
theorem wv_o (v : Nat → Int32) {P i x : Nat} (h10 : P ≤ 10) (h7 : x ≠ 7) (h8 : x ≠ 8) (hp : ∀ p, p < 10 → x ≠ 12 + 4 * p + 1 ∧ x ≠ 12 + 4 * p + 2 ∧ x ≠ 12 + 4 * p + 3) (hr : x ≠ 52 + 12 * i + 2 ∧ x ≠ 52 + 12 * i + 5 ∧ x ≠ 52 + 12 * i + 9 ∧ x ≠ 52 + 12 * i + 10 ∧ x ≠ 52 + 12 * i + 11) : (wrkV v P i).2 x = v x := by
  obtain ⟨r2, r5, r9, r10, r11⟩ := hr
  have hw : wrkS v P i x = v x := by
    unfold wrkS carV
    rw [carU_o _ _ (fun p q => ⟨(hp p q).1, (hp p q).2.1⟩) P h10, upd_n _ _ h7, upd_n _ _ r2]
  unfold wrkV
  split
  · show rstV _ _ _ x = _
    rw [rstV_o _ h10 _ (fun p q => (hp p q).1), upd_n _ _ r9]
  · split
    · show rstV _ _ _ x = _
      rw [rstV_o _ h10 _ (fun p q => (hp p q).1), upd_n _ _ h8, upd_n _ _ r10]
    · split
      · show endV _ _ _ x = _
        rw [endV_o _ h10 (fun p q => (hp p q).2.2) r5 r11, hw]
      · exact hw
theorem wv_p (v : Nat → Int32) {P i p : Nat} (h10 : P ≤ 10) (hp : p < 10) (hb : bt (CRW v i) p = false) : (wrkV v P i).2 (12 + 4 * p + 1) = v (12 + 4 * p + 1) := by
  have hn : ∀ c : Int32, bt c p = false → ¬ (p < P ∧ bt c p = true) := fun c h z => by rw [h] at z; exact absurd z.2 (by decide)
  have hw : wrkS v P i (12 + 4 * p + 1) = v (12 + 4 * p + 1) := by
    unfold wrkS carV
    rw [carU_a1 _ _ P h10 hp, if_neg (hn _ hb), upd_n _ _ (by omega), upd_n _ _ (by omega)]
  unfold wrkV
  split
  · show rstU _ _ P _ = _
    rw [rstU_pt _ _ P h10 hp, if_neg (hn _ hb), upd_n _ _ (by omega)]
  · split
    · show rstU _ _ P _ = _
      rw [rstU_pt _ _ P h10 hp, if_neg (hn _ hb), upd_n _ _ (by omega), upd_n _ _ (by omega)]
    · split
      · show endV _ _ _ _ = _
        rw [endV_o _ h10 (by omega) (by omega) (by omega), hw]
      · exact hw
/-- another job's hour -/
theorem EQ9_o {P j i : Nat} {t v : Nat → Int32} (h10 : P ≤ 10) (h : EQ9 P j t v) (hij : i ≠ j) (hd : ∀ p, bt (CRW t j) p = true → bt (CRW v i) p = false) : EQ9 P j t (wrkV v P i).2 := by
  obtain ⟨h1, h2, h3, h4⟩ := h
  refine ⟨?_, ?_, fun k hk => ?_, fun p hp hb => ⟨?_, ?_⟩⟩
  · rw [wv_o v h10 (by omega) (by omega) (by omega) (by omega)]; exact h1
  · rw [wv_o v h10 (by omega) (by omega) (by omega) (by omega)]; exact h2
  · rw [wv_o v h10 (by omega) (by omega) (by omega) (by omega)]; exact h3 k hk
  · rw [wv_o v h10 (by omega) (by omega) (by omega) (by omega)]; exact (h4 p hp hb).1
  · rw [wv_p v h10 (by omega) (hd p hb)]; exact (h4 p hp hb).2
theorem EQ9_rst {P j : Nat} {t v : Nat → Int32} (h10 : P ≤ 10) (h : EQ9 P j t v) {c : Int32} (hd : ∀ p, p < P → bt (CRW t j) p = true → bt c p = false) : EQ9 P j t (rstV v P c) := by
  obtain ⟨h1, h2, h3, h4⟩ := h
  refine ⟨?_, ?_, fun k hk => ?_, fun p hp hb => ⟨?_, ?_⟩⟩
  · rw [rstV_o v h10 c (by omega)]; exact h1
  · rw [rstV_o v h10 c (by omega)]; exact h2
  · rw [rstV_o v h10 c (by omega)]; exact h3 k hk
  · rw [rstV_o v h10 c (by omega)]; exact (h4 p hp hb).1
  · show _ = rstU v c P _
    rw [rstU_pt v c P h10 (by omega), if_neg (fun z => by rw [hd p hp hb] at z; exact absurd z.2 (by decide))]
    exact (h4 p hp hb).2
theorem EQ9_4 {P j : Nat} {t v : Nat → Int32} (h : EQ9 P j t v) (x : Int32) : EQ9 P j t (upd v 4 x) := by
  obtain ⟨h1, h2, h3, h4⟩ := h
  refine ⟨?_, ?_, fun k hk => ?_, fun p hp hb => ⟨?_, ?_⟩⟩
  · rw [upd_n _ _ (by omega)]; exact h1
  · rw [upd_n _ _ (by omega)]; exact h2
  · rw [upd_n _ _ (by omega)]; exact h3 k hk
  · rw [upd_n _ _ (by omega)]; exact (h4 p hp hb).1
  · rw [upd_n _ _ (by omega)]; exact (h4 p hp hb).2
/-- the job's own hour, on both -/
theorem EQ9_w {P j : Nat} {t u : Nat → Int32} (h10 : P ≤ 10) (h : EQ9 P j t u) : (wrkV t P j).1 = (wrkV u P j).1 ∧ EQ9 P j (wrkV t P j).2 (wrkV u P j).2 := by
  obtain ⟨h1, h2, h3, h4⟩ := id h
  have hc : CRW t j = CRW u j := h3 7 (by omega)
  have cw : CRW (wrkV t P j).2 j = CRW t j := wv_o t h10 (by omega) (by omega) (by omega) (by omega)
  have hs : strV t P (CRW t j) = strV u P (CRW t j) := strU_eq P (fun p hp hb => (h4 p hp hb).2)
  have n1 : (wrkV t P j).2 1 = (wrkV u P j).2 1 := by rw [wv_o t h10 (by omega) (by omega) (by omega) (by omega), wv_o u h10 (by omega) (by omega) (by omega) (by omega), h1]
  have n2 : (wrkV t P j).2 2 = (wrkV u P j).2 2 := by rw [wv_o t h10 (by omega) (by omega) (by omega) (by omega), wv_o u h10 (by omega) (by omega) (by omega) (by omega), h2]
  have n3 : ∀ p, p < P → bt (CRW (wrkV t P j).2 j) p = true → (wrkV t P j).2 (12 + 4 * p) = (wrkV u P j).2 (12 + 4 * p) := fun p hp hb => by
    rw [cw] at hb
    rw [wv_o t h10 (by omega) (by omega) (by omega) (by omega), wv_o u h10 (by omega) (by omega) (by omega) (by omega), (h4 p hp hb).1]
  have key : (wrkV t P j).1 = (wrkV u P j).1 ∧ (∀ k, k < 11 → (wrkV t P j).2 (52 + 12 * j + k) = (wrkV u P j).2 (52 + 12 * j + k)) ∧ ∀ p, p < P → bt (CRW t j) p = true → (wrkV t P j).2 (12 + 4 * p + 1) = (wrkV u P j).2 (12 + 4 * p + 1) := by
    have e9 := h3 9 (by omega)
    have e6 := h3 6 (by omega)
    have e2 := h3 2 (by omega)
    have e10 := h3 10 (by omega)
    unfold wrkV
    rw [← e9, ← e6, ← e2, ← e10, ← hc, ← hs]
    by_cases c9 : ¬ t (52 + 12 * j + 9) ≤ 0
    · rw [if_pos c9, if_pos c9]
      refine ⟨rfl, fun k hk => ?_, fun p hp hb => ?_⟩
      · show rstV _ P _ _ = rstV _ P _ _
        rw [rstV_o _ h10 _ (by omega), rstV_o _ h10 _ (by omega)]
        by_cases e : k = 9
        · subst e; rw [upd_s, upd_s]
        · rw [upd_n _ _ (by omega), upd_n _ _ (by omega)]; exact h3 k hk
      · show rstU _ _ P _ = rstU _ _ P _
        rw [rstU_pt _ _ P h10 (by omega), rstU_pt _ _ P h10 (by omega), if_pos ⟨hp, hb⟩, if_pos ⟨hp, hb⟩, upd_n _ _ (by omega), upd_n _ _ (by omega), upd_n _ _ (by omega), upd_n _ _ (by omega), upd_n _ _ (by omega), upd_n _ _ (by omega), (h4 p hp hb).1, (h4 p hp hb).2, h1]
    rw [if_neg c9, if_neg c9]
    by_cases c6 : ¬ t (52 + 12 * j + 6) ≤ strV t P (CRW t j)
    · rw [if_pos c6, if_pos c6]
      refine ⟨rfl, fun k hk => ?_, fun p hp hb => ?_⟩
      · show rstV _ P _ _ = rstV _ P _ _
        rw [rstV_o _ h10 _ (by omega), rstV_o _ h10 _ (by omega), upd_n _ _ (by omega), upd_n (j := 52 + 12 * j + k) (k := 8) _ _ (by omega)]
        by_cases e : k = 10
        · subst e; rw [upd_s, upd_s]
        · rw [upd_n _ _ (by omega), upd_n _ _ (by omega)]; exact h3 k hk
      · show rstU _ _ P _ = rstU _ _ P _
        rw [rstU_pt _ _ P h10 (by omega), rstU_pt _ _ P h10 (by omega), if_pos ⟨hp, hb⟩, if_pos ⟨hp, hb⟩]
        rw [upd_n _ _ (by omega), upd_n _ _ (by omega), upd_n _ _ (by omega), upd_n _ _ (by omega), upd_n _ _ (by omega), upd_n _ _ (by omega), upd_n _ _ (by omega), upd_n _ _ (by omega), upd_n _ _ (by omega), upd_n _ _ (by omega), upd_n _ _ (by omega), upd_n _ _ (by omega), (h4 p hp hb).1, (h4 p hp hb).2, h1]
    rw [if_neg c6, if_neg c6]
    have w1 : ∀ k, k < 11 → wrkS t P j (52 + 12 * j + k) = wrkS u P j (52 + 12 * j + k) := fun k hk => by
      unfold wrkS carV
      rw [carU_o _ _ (by omega) P h10, carU_o _ _ (by omega) P h10, upd_n _ _ (by omega), upd_n (j := 52 + 12 * j + k) (k := 7) _ _ (by omega)]
      by_cases e : k = 2
      · subst e; rw [upd_s, upd_s, e2]
      · rw [upd_n _ _ (by omega), upd_n _ _ (by omega)]; exact h3 k hk
    have w2 : ∀ p, p < P → bt (CRW t j) p = true → wrkS t P j (12 + 4 * p + 1) = wrkS u P j (12 + 4 * p + 1) := fun p hp hb => by
      unfold wrkS carV
      rw [carU_a1 _ _ P h10 (by omega), carU_a1 _ _ P h10 (by omega), ← hc, if_pos ⟨hp, hb⟩, if_pos ⟨hp, hb⟩]
      rw [upd_n _ _ (by omega), upd_n _ _ (by omega), upd_n _ _ (by omega), upd_n _ _ (by omega), upd_n _ _ (by omega), upd_n _ _ (by omega), upd_n _ _ (by omega), upd_n _ _ (by omega), (h4 p hp hb).2, h2]
    by_cases c2 : t (52 + 12 * j + 2) - 1 = 0
    · rw [if_pos c2, if_pos c2]
      refine ⟨rfl, fun k hk => ?_, fun p hp hb => ?_⟩
      · show endV _ P j _ = endV _ P j _
        by_cases e : k = 5
        · subst e
          unfold endV
          rw [endU_o _ _ (by omega) P h10, endU_o _ _ (by omega) P h10, upd_n _ _ (by omega), upd_s, upd_n _ _ (by omega), upd_s]
        · rw [endV_o _ h10 (by omega) (by omega) (by omega), endV_o _ h10 (by omega) (by omega) (by omega)]
          exact w1 k hk
      · show endV _ P j _ = endV _ P j _
        rw [endV_o _ h10 (by omega) (by omega) (by omega), endV_o _ h10 (by omega) (by omega) (by omega)]
        exact w2 p hp hb
    · rw [if_neg c2, if_neg c2]
      exact ⟨rfl, w1, w2⟩
  exact ⟨key.1, n1, n2, key.2.1, fun p hp hb => ⟨n3 p hp hb, key.2.2 p hp (by rw [cw] at hb; exact hb)⟩⟩
theorem wrk_how {v : Nat → Int32} {P j : Nat} (h10 : P ≤ 10) (h1 : HOW v j = 1) : ((wrkV v P j).1 = 0 ∧ HOW (wrkV v P j).2 j = 1) ∨ ((wrkV v P j).1 = 1 ∧ HOW (wrkV v P j).2 j = 2) := by
  have hw : wrkS v P j (52 + 12 * j + 5) = 1 := by
    unfold wrkS carV
    rw [carU_o _ _ (by omega) P h10, upd_n _ _ (by omega), upd_n _ _ (by omega)]
    exact h1
  unfold wrkV HOW
  split
  · refine Or.inl ⟨rfl, ?_⟩
    show rstV _ P _ _ = _
    rw [rstV_o _ h10 _ (by omega), upd_n _ _ (by omega)]
    exact h1
  · split
    · refine Or.inl ⟨rfl, ?_⟩
      show rstV _ P _ _ = _
      rw [rstV_o _ h10 _ (by omega), upd_n _ _ (by omega), upd_n _ _ (by omega)]
      exact h1
    · split
      · refine Or.inr ⟨rfl, ?_⟩
        show endV _ P j _ = _
        unfold endV
        rw [endU_o _ _ (by omega) P h10, upd_n _ _ (by omega), upd_s]
      · exact Or.inl ⟨rfl, hw⟩
/-- whole hours -/
theorem gob_row (u : Nat → Int32) {P : Nat} (h10 : P ≤ 10) : ∀ k i, k ≤ i → ∀ q, q < 12 → (gobU u P k).2 (52 + 12 * i + q) = u (52 + 12 * i + q) := by
  intro k
  induction k with
  | zero => intro i _ q _; rfl
  | succ k ih =>
    intro i hi q hq
    rw [gobU_s]
    split
    · show (wrkV _ P k).2 _ = _
      rw [wv_o _ h10 (by omega) (by omega) (by omega) (by omega)]
      exact ih i (by omega) q hq
    · exact ih i (by omega) q hq
theorem EQ9_gobU {t u : Nat → Int32} {P J j : Nat} (hS : SI u P J) (hj : j < J) (h1 : HOW u j = 1) (h : EQ9 P j t u) : ∀ k, k ≤ J → EQ9 P j (if k ≤ j then t else (wrkV t P j).2) (gobU u P k).2 := by
  have h10 := SI_P hS
  have hc : CRW t j = CRW u j := h.2.2.1 7 (by omega)
  have cw : CRW (wrkV t P j).2 j = CRW t j := wv_o t h10 (by omega) (by omega) (by omega) (by omega)
  intro k
  induction k with
  | zero => intro _; rw [if_pos (by omega)]; exact h
  | succ k ih =>
    intro hk
    have ih := ih (by omega)
    have e5 : HOW (gobU u P k).2 k = HOW u k := gob_row u h10 k k (Nat.le_refl _) 5 (by omega)
    have e7 : CRW (gobU u P k).2 k = CRW u k := gob_row u h10 k k (Nat.le_refl _) 7 (by omega)
    rw [gobU_s]
    by_cases c : HOW (gobU u P k).2 k = 1
    · rw [if_pos c]
      show EQ9 P j _ (wrkV (gobU u P k).2 P k).2
      rw [e5] at c
      by_cases e : k = j
      · subst e
        rw [if_pos (Nat.le_refl _)] at ih
        rw [if_neg (by omega)]
        exact (EQ9_w h10 ih).2
      · have hd : ∀ p, bt (CRW u j) p = true → bt (CRW (gobU u P k).2 k) p = false := fun p hb => by
          rw [e7]
          exact hS.2.2.2.2.1 j k hj (by omega) (fun z => e z.symm) h1 c p hb
        by_cases e2 : k + 1 ≤ j
        · rw [if_pos (by omega)] at ih
          rw [if_pos e2]
          exact EQ9_o h10 ih e (fun p hb => hd p (by rw [← hc]; exact hb))
        · rw [if_neg (by omega)] at ih
          rw [if_neg e2]
          exact EQ9_o h10 ih e (fun p hb => hd p (by rw [← hc, ← cw]; exact hb))
    · rw [if_neg c]
      show EQ9 P j _ (gobU u P k).2
      by_cases e : k = j
      · subst e
        rw [e5] at c
        exact absurd h1 c
      · by_cases e2 : k + 1 ≤ j
        · rw [if_pos (by omega)] at ih
          rw [if_pos e2]; exact ih
        · rw [if_neg (by omega)] at ih
          rw [if_neg e2]; exact ih
theorem EQ9_gob {t u : Nat → Int32} {P J j : Nat} (hS : SI u P J) (hj : j < J) (h1 : HOW u j = 1) (h : EQ9 P j t u) : EQ9 P j (wrkV t P j).2 (gobV u P J).2 := by
  have h10 := SI_P hS
  have hc : CRW t j = CRW u j := h.2.2.1 7 (by omega)
  have cw : CRW (wrkV t P j).2 j = CRW t j := wv_o t h10 (by omega) (by omega) (by omega) (by omega)
  have hg := EQ9_gobU hS hj h1 h J (Nat.le_refl _)
  rw [if_neg (by omega)] at hg
  refine EQ9_4 (EQ9_rst h10 hg (fun p hp hb => ?_)) _
  rw [cw, hc] at hb
  unfold idlV
  have hbz : bt (busyV u J) p = true := by
    cases hz : bt (busyV u J) p
    · have := (busyU_iff u p J).mp hz j hj h1
      rw [hb] at this; cases this
    · rfl
  rw [b_and, b_xor, hbz, b_m1 p (by omega), bt_1023 p (by omega)]
  rfl