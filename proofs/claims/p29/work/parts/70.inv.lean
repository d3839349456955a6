/-! what holds besides SI: crews, endings, straps, hours -/
def XIj (s : Nat → Int32) (j : Nat) : Prop :=
  (HOW s j = 0 → CRW s j = 0) ∧ (HOW s j = 1 → ¬ CRW s j = 0) ∧ (HOW s j = 2 → s (52 + 12 * j + 2) = 0 ∧ 0 ≤ s (52 + 12 * j + 11)) ∧ (¬ HOW s j = 2 → s (52 + 12 * j + 11) = -6)
def XI (s : Nat → Int32) (J : Nat) : Prop := (∀ j, j < J → XIj s j) ∧ ∀ k, k < 3 → 0 ≤ (freeV s J k).toInt
theorem i_sub1 {x : Int32} (h1 : -1000 ≤ x.toInt) (h2 : x.toInt ≤ 100000) : (x - 1).toInt = x.toInt - 1 := by
  rw [Int32.toInt_sub, show (1 : Int32).toInt = 1 from rfl, Int.bmod_eq_of_le] <;> omega
theorem i_add1 {x : Int32} (h1 : -1000 ≤ x.toInt) (h2 : x.toInt ≤ 100000) : (x + 1).toInt = x.toInt + 1 := by
  rw [Int32.toInt_add, show (1 : Int32).toInt = 1 from rfl, Int.bmod_eq_of_le] <;> omega
theorem free_cnt (s : Nat → Int32) (k : Int32) {m : Nat} (hm : m ≤ 20) : ∀ n, n ≤ 16 → ∃ c, c ≤ n ∧ (freeU s k (nI m) n).toInt = (m : Int) - (c : Int) := by
  intro n
  induction n with
  | zero =>
    intro _
    refine ⟨0, by omega, ?_⟩
    rw [show freeU s k (nI m) 0 = nI m from rfl, nI_toInt (by omega)]
    omega
  | succ n ih =>
    intro hn
    obtain ⟨c, hc, e⟩ := ih (by omega)
    rw [freeU_s]
    by_cases h : s (52 + 12 * n + 5) = 1 ∧ s (52 + 12 * n + 8) = k
    · refine ⟨c + 1, by omega, ?_⟩
      rw [if_pos h, i_sub1 (by omega) (by omega), e]
      omega
    · refine ⟨c, by omega, ?_⟩
      rw [if_neg h, Int32.sub_zero, e]
theorem free_bd {s : Nat → Int32} {P J : Nat} (hS : SI s P J) {k : Nat} (hk : k < 3) : ∃ m c : Nat, m ≤ 9 ∧ c ≤ 16 ∧ s (9 + k) = nI m ∧ (freeV s J k).toInt = (m : Int) - (c : Int) := by
  obtain ⟨m, _, hm, e⟩ := hS.2.1.2.2.2.2.2 k hk
  obtain ⟨c, hc, e2⟩ := free_cnt s (nI k) (m := m) (by omega) J (SI_J hS)
  have := SI_J hS
  refine ⟨m, c, hm, by omega, e, ?_⟩
  unfold freeV
  rw [e, e2]
/-- only these count -/
theorem XI_cg {s s' : Nat → Int32} {J : Nat} (h : XI s J) (e : ∀ j, j < J → HOW s' j = HOW s j ∧ CRW s' j = CRW s j ∧ s' (52 + 12 * j + 2) = s (52 + 12 * j + 2) ∧ s' (52 + 12 * j + 11) = s (52 + 12 * j + 11) ∧ s' (52 + 12 * j + 8) = s (52 + 12 * j + 8)) (e9 : ∀ k, k < 3 → s' (9 + k) = s (9 + k)) : XI s' J := by
  refine ⟨fun j hj => ?_, fun k hk => ?_⟩
  · obtain ⟨a, b, c, d, _⟩ := e j hj
    have hx := h.1 j hj
    unfold XIj at hx ⊢
    rw [a, b, c, d]
    exact hx
  · rw [freeV_congr (s := s) (e9 k hk) (fun i hi => ⟨(e i hi).1, (e i hi).2.2.2.2⟩)]
    exact h.2 k hk
theorem XI_c {s s' : Nat → Int32} {J : Nat} (h : XI s J) (e : ∀ i, (9 ≤ i ∧ i < 12) ∨ 52 ≤ i → s' i = s i) : XI s' J :=
  XI_cg h (fun j _ => ⟨e _ (by omega), e _ (by omega), e _ (by omega), e _ (by omega), e _ (by omega)⟩) (fun k hk => e _ (by omega))
/-- a change of one row -/
theorem XI_row {s s' : Nat → Int32} {J j : Nat} (h : XI s J) (e : ∀ i, i < J → i ≠ j → ∀ q, q < 12 → s' (52 + 12 * i + q) = s (52 + 12 * i + q)) (hr : XIj s' j) (hf : ∀ k, k < 3 → 0 ≤ (freeV s' J k).toInt) : XI s' J := by
  refine ⟨fun i hi => ?_, hf⟩
  by_cases c : i = j
  · subst c; exact hr
  · have hx := h.1 i hi
    have o := e i hi c
    unfold XIj HOW CRW at hx ⊢
    rw [o 5 (by omega), o 7 (by omega), o 2 (by omega), o 11 (by omega)]
    exact hx
theorem free_c {s s' : Nat → Int32} {J j q : Nat} (e9 : s' (9 + q) = s (9 + q)) (h : ∀ i, i < J → i ≠ j → HOW s' i = HOW s i ∧ s' (52 + 12 * i + 8) = s (52 + 12 * i + 8)) :
    freeV s' J q + (if j < J ∧ HOW s' j = 1 ∧ s' (52 + 12 * j + 8) = nI q then 1 else 0) = freeV s J q + (if j < J ∧ HOW s j = 1 ∧ s (52 + 12 * j + 8) = nI q then 1 else 0) := by
  unfold freeV
  rw [e9]
  exact freeU_c (nI q) (s (9 + q)) J h
/-- a job that is done no more gives its straps back -/
theorem free_up {s s' : Nat → Int32} {P J j : Nat} (hS : SI s P J) (hX : XI s J) (e9 : ∀ k, k < 3 → s' (9 + k) = s (9 + k)) (h : ∀ i, i < J → i ≠ j → HOW s' i = HOW s i ∧ s' (52 + 12 * i + 8) = s (52 + 12 * i + 8)) (hn : ¬ HOW s' j = 1) : ∀ k, k < 3 → 0 ≤ (freeV s' J k).toInt := by
  intro k hk
  have f := free_c (j := j) (e9 k hk) h
  rw [if_neg (show ¬ (j < J ∧ HOW s' j = 1 ∧ s' (52 + 12 * j + 8) = nI k) from fun z => hn z.2.1), Int32.add_zero] at f
  rw [f]
  obtain ⟨m, c, hm, hc, _, e⟩ := free_bd hS hk
  have h0 := hX.2 k hk
  by_cases z : j < J ∧ HOW s j = 1 ∧ s (52 + 12 * j + 8) = nI k
  · rw [if_pos z, i_add1 (by omega) (by omega)]; omega
  · rw [if_neg z, Int32.add_zero]; exact h0
theorem n12 : ¬ (1 : Int32) = 2 := by decide
theorem n10 : ¬ (1 : Int32) = 0 := by decide
theorem n21 : ¬ (2 : Int32) = 1 := by decide
theorem n20 : ¬ (2 : Int32) = 0 := by decide
theorem n02 : ¬ (0 : Int32) = 2 := by decide
/-! set, person, buy, job, begin, delay, callOff -/
theorem XI_set {s : Nat → Int32} {J k : Nat} (h : XI s J) (hk : k < 4) (v : Int32) : XI (upd s k v) J := XI_c h (fun i hi => upd_n _ _ (by omega))
theorem XI_per {s : Nat → Int32} {P J : Nat} (h : XI s J) (hP : P < 10) (x : Int32) : XI (perV s P x) J := XI_c h (fun i hi => perV_o s x (by omega) (by omega) (by omega))
theorem XI_buy {s : Nat → Int32} {P J k : Nat} (hS : SI s P J) (h : XI s J) (hk : k < 3) : XI (buyV s k) J := by
  have ho : ∀ i, i ≠ 9 + k → buyV s k i = s i := fun i hi => upd_n _ _ hi
  refine ⟨fun j hj => ?_, fun q hq => ?_⟩
  · have hx := h.1 j hj
    unfold XIj HOW CRW at hx ⊢
    rw [ho (52 + 12 * j + 5) (by omega), ho (52 + 12 * j + 7) (by omega), ho (52 + 12 * j + 2) (by omega), ho (52 + 12 * j + 11) (by omega)]
    exact hx
  · obtain ⟨m, c, hm, hc, _, e⟩ := free_bd hS hq
    have h0 := h.2 q hq
    unfold freeV at h0 e ⊢
    rw [freeU_congr (s := s) (s' := buyV s k) (nI q) _ J (fun i hi => ⟨ho _ (by omega), ho _ (by omega)⟩)]
    by_cases c : q = k
    · subst c
      rw [show buyV s q (9 + q) = s (9 + q) + 1 from upd_s _ _ _, freeU_w, i_add1 (by omega) (by omega)]
      omega
    · rw [ho (9 + q) (by omega)]
      exact h0
theorem XI_job {s : Nat → Int32} {P J : Nat} {w f h p d : Int32} (hS : SI s P J) (hX : XI s J) (hJ : J < 16) : XI (adjV s J w f h p d) (J + 1) := by
  have ar := adj_row hS hJ w f h p d
  have r5 : HOW (adjV s J w f h p d) J = 0 := ar 5 (by omega)
  have ho : ∀ i, i < 52 + 12 * J → i ≠ 6 → adjV s J w f h p d i = s i := fun i hi h6 => adjV_o s w f h p d (by omega) h6
  refine ⟨fun j hj => ?_, fun q hq => ?_⟩
  · by_cases c : j = J
    · subst c
      refine ⟨fun _ => ar 7 (by omega), fun z => ?_, fun z => ?_, fun _ => ar 11 (by omega)⟩
      · rw [r5] at z; exact absurd z (by decide)
      · rw [r5] at z; exact absurd z (by decide)
    · have hx := hX.1 j (by omega)
      unfold XIj HOW CRW at hx ⊢
      rw [ho (52 + 12 * j + 5) (by omega) (by omega), ho (52 + 12 * j + 7) (by omega) (by omega), ho (52 + 12 * j + 2) (by omega) (by omega), ho (52 + 12 * j + 11) (by omega) (by omega)]
      exact hx
  · have h0 := hX.2 q hq
    unfold freeV at h0 ⊢
    rw [freeU_s, if_neg (fun z => by have := z.1; rw [show adjV s J w f h p d (52 + 12 * J + 5) = 0 from r5] at this; exact absurd this (by decide)), Int32.sub_zero, freeU_congr (s := s) (nI q) _ J (fun i hi => ⟨ho _ (by omega) (by omega), ho _ (by omega) (by omega)⟩), ho (9 + q) (by omega) (by omega)]
    exact h0
theorem XI_beg {s : Nat → Int32} {P J j : Nat} {c k : Int32} (hS : SI s P J) (hX : XI s J) (hj : j < J) (h : reasonV s P J j c k = 0) : XI (begV s j c k) J := by
  obtain ⟨h0, ⟨n, n0, n1, ec⟩, _, hcan⟩ := reason_0 (SI_P hS) h
  have e5 : HOW (begV s j c k) j = 1 := begV_5 s j c k
  have := pw_le (SI_P hS)
  refine XI_row (j := j) hX (fun i hi hij q hq => begV_o s j c k (by omega) (by omega) (by omega) (by omega)) ⟨fun z => ?_, fun _ => ?_, fun z => ?_, fun _ => ?_⟩ (fun q hq => ?_)
  · rw [e5] at z; exact absurd z (by decide)
  · rw [show CRW (begV s j c k) j = c from begV_7 s j c k, ec]
    exact nI_ne0 n0 (by omega)
  · rw [e5] at z; exact absurd z (by decide)
  · rw [begV_o s j c k (by omega) (by omega) (by omega) (by omega)]
    exact (hX.1 j hj).2.2.2 (by rw [h0]; decide)
  · rw [free_beg hj hq h0]
    obtain ⟨m, c', hm, hc, _, e⟩ := free_bd hS hq
    have h1 := hX.2 q hq
    by_cases z : k = nI q
    · rw [if_pos z]
      have hp : ¬ freeV s J q ≤ 0 := by
        rcases hcan with z2 | z2
        · exact absurd (z.symm.trans z2) (nI_n6 (by omega))
        · have := z2.1
          rw [z, nI_clamp (by omega)] at this
          exact this
      rw [le_toInt, show (0 : Int32).toInt = 0 from rfl] at hp
      rw [i_sub1 (by omega) (by omega)]
      omega
    · rw [if_neg z, Int32.sub_zero]; exact h1
theorem XI_del {s : Nat → Int32} {J j : Nat} (hX : XI s J) (x : Int32) : XI (delV s j x) J := by
  have ho : ∀ i, i ≠ 52 + 12 * j + 9 → delV s j x i = s i := fun i hi => upd_n _ _ hi
  exact XI_cg hX (fun i hi => ⟨ho _ (by omega), ho _ (by omega), ho _ (by omega), ho _ (by omega), ho _ (by omega)⟩) (fun k hk => ho _ (by omega))
theorem XI_off {s : Nat → Int32} {P J j : Nat} (hS : SI s P J) (hX : XI s J) (hj : j < J) (h1 : HOW s j = 0 ∨ HOW s j = 1) : XI (offV s j) J := by
  have ho : ∀ i, i ≠ 52 + 12 * j + 5 → offV s j i = s i := fun i hi => upd_n _ _ hi
  have e5 : HOW (offV s j) j = 3 := upd_s _ _ _
  refine XI_row (j := j) hX (fun i hi hij q hq => ho _ (by omega)) ⟨fun z => ?_, fun z => ?_, fun z => ?_, fun _ => ?_⟩ (free_up (j := j) hS hX (fun k hk => ho _ (by omega)) (fun i hi hij => ⟨ho _ (by omega), ho _ (by omega)⟩) (by rw [e5]; decide))
  · rw [e5] at z; exact absurd z (by decide)
  · rw [e5] at z; exact absurd z (by decide)
  · rw [e5] at z; exact absurd z (by decide)
  · rw [ho _ (by omega)]
    refine (hX.1 j hj).2.2.2 (fun z => ?_)
    rcases h1 with e | e <;> rw [e] at z <;> exact absurd z (by decide)
/-! hours -/
theorem wrk_row (s : Nat → Int32) {P j : Nat} (h10 : P ≤ 10) (h1 : HOW s j = 1) :
    (¬ s (52 + 12 * j + 9) ≤ 0 ∧ HOW (wrkV s P j).2 j = 1 ∧ (wrkV s P j).2 (52 + 12 * j + 2) = s (52 + 12 * j + 2) ∧ (wrkV s P j).2 (52 + 12 * j + 10) = s (52 + 12 * j + 10) ∧ (wrkV s P j).2 (52 + 12 * j + 11) = s (52 + 12 * j + 11)) ∨
    (s (52 + 12 * j + 9) ≤ 0 ∧ ¬ s (52 + 12 * j + 6) ≤ strV s P (CRW s j) ∧ HOW (wrkV s P j).2 j = 1 ∧ (wrkV s P j).2 (52 + 12 * j + 2) = s (52 + 12 * j + 2) ∧ (wrkV s P j).2 (52 + 12 * j + 10) = s (52 + 12 * j + 10) + 1 ∧ (wrkV s P j).2 (52 + 12 * j + 11) = s (52 + 12 * j + 11)) ∨
    (s (52 + 12 * j + 9) ≤ 0 ∧ s (52 + 12 * j + 6) ≤ strV s P (CRW s j) ∧ ¬ s (52 + 12 * j + 2) - 1 = 0 ∧ HOW (wrkV s P j).2 j = 1 ∧ (wrkV s P j).2 (52 + 12 * j + 2) = s (52 + 12 * j + 2) - 1 ∧ (wrkV s P j).2 (52 + 12 * j + 10) = s (52 + 12 * j + 10) ∧ (wrkV s P j).2 (52 + 12 * j + 11) = s (52 + 12 * j + 11)) ∨
    (s (52 + 12 * j + 9) ≤ 0 ∧ s (52 + 12 * j + 6) ≤ strV s P (CRW s j) ∧ s (52 + 12 * j + 2) - 1 = 0 ∧ HOW (wrkV s P j).2 j = 2 ∧ (wrkV s P j).2 (52 + 12 * j + 2) = s (52 + 12 * j + 2) - 1 ∧ (wrkV s P j).2 (52 + 12 * j + 10) = s (52 + 12 * j + 10) ∧ (wrkV s P j).2 (52 + 12 * j + 11) = s 4) := by
  by_cases c9 : s (52 + 12 * j + 9) ≤ 0
  · by_cases c6 : s (52 + 12 * j + 6) ≤ strV s P (CRW s j)
    · by_cases c2 : s (52 + 12 * j + 2) - 1 = 0
      · have hw : (wrkV s P j).2 = endV (wrkS s P j) P j := by
          unfold wrkV
          rw [if_neg (show ¬ ¬ s (52 + 12 * j + 9) ≤ 0 from fun z => z c9), if_neg (show ¬ ¬ s (52 + 12 * j + 6) ≤ strV s P (CRW s j) from fun z => z c6), if_pos c2]
        have e := endV_e s (j := j) h10
        have eo : ∀ i, i ≠ 52 + 12 * j + 5 → i ≠ 52 + 12 * j + 11 → (∀ p, p < 10 → i ≠ 12 + 4 * p + 3) → endV (wrkS s P j) P j i = wrkS s P j i := fun i a b c => endV_o _ h10 c a b
        rw [hw]
        refine Or.inr (Or.inr (Or.inr ⟨c9, c6, c2, ?_, ?_, ?_, ?_⟩))
        · rw [e]; exact upd_s _ _ _
        · rw [eo _ (by omega) (by omega) (by omega), wrkS_l s h10]
        · rw [eo _ (by omega) (by omega) (by omega), wrkS_o s h10 j (by omega) (by omega) (by omega)]
        · rw [e, upd_n _ _ (by omega), upd_s]
      · have hw : (wrkV s P j).2 = wrkS s P j := by
          unfold wrkV
          rw [if_neg (show ¬ ¬ s (52 + 12 * j + 9) ≤ 0 from fun z => z c9), if_neg (show ¬ ¬ s (52 + 12 * j + 6) ≤ strV s P (CRW s j) from fun z => z c6), if_neg c2]
        rw [hw]
        refine Or.inr (Or.inr (Or.inl ⟨c9, c6, c2, ?_, ?_, ?_, ?_⟩))
        · exact (wrkS_o s h10 j (by omega) (by omega) (by omega)).trans h1
        · rw [wrkS_l s h10]
        · rw [wrkS_o s h10 j (by omega) (by omega) (by omega)]
        · rw [wrkS_o s h10 j (by omega) (by omega) (by omega)]
    · have hw : (wrkV s P j).2 = rstV (upd (upd s (52 + 12 * j + 10) (s (52 + 12 * j + 10) + 1)) 8 (s 8 + 1)) P (CRW s j) := by
        unfold wrkV
        rw [if_neg (show ¬ ¬ s (52 + 12 * j + 9) ≤ 0 from fun z => z c9), if_pos c6]
      rw [hw]
      refine Or.inr (Or.inl ⟨c9, c6, ?_, ?_, ?_, ?_⟩)
      · exact ((rstV_o _ h10 _ (by omega)).trans ((upd_n _ _ (by omega)).trans (upd_n _ _ (by omega)))).trans h1
      · rw [rstV_o _ h10 _ (by omega), upd_n _ _ (by omega), upd_n _ _ (by omega)]
      · rw [rstV_o _ h10 _ (by omega), upd_n _ _ (by omega), upd_s]
      · rw [rstV_o _ h10 _ (by omega), upd_n _ _ (by omega), upd_n _ _ (by omega)]
  · have hw : (wrkV s P j).2 = rstV (upd s (52 + 12 * j + 9) (s (52 + 12 * j + 9) - 1)) P (CRW s j) := by
      unfold wrkV
      rw [if_pos c9]
    rw [hw]
    refine Or.inl ⟨c9, ?_, ?_, ?_, ?_⟩
    · exact ((rstV_o _ h10 _ (by omega)).trans (upd_n _ _ (by omega))).trans h1
    · rw [rstV_o _ h10 _ (by omega), upd_n _ _ (by omega)]
    · rw [rstV_o _ h10 _ (by omega), upd_n _ _ (by omega)]
    · rw [rstV_o _ h10 _ (by omega), upd_n _ _ (by omega)]
theorem XI_wrk {s : Nat → Int32} {P J j : Nat} (hS : SI s P J) (hX : XI s J) (h4 : 0 ≤ s 4) (hj : j < J) (h1 : HOW s j = 1) : XI (wrkV s P j).2 J := by
  have h10 := SI_P hS
  have h16 := SI_J hS
  have hxj := hX.1 j hj
  have ho : ∀ i, i < J → i ≠ j → ∀ q, q < 12 → (wrkV s P j).2 (52 + 12 * i + q) = s (52 + 12 * i + q) := fun i hi hij q hq => wv_o s h10 (by omega) (by omega) (by omega) (by omega)
  have e7 : CRW (wrkV s P j).2 j = CRW s j := wv_o s h10 (by omega) (by omega) (by omega) (by omega)
  have e8 : (wrkV s P j).2 (52 + 12 * j + 8) = s (52 + 12 * j + 8) := wv_o s h10 (by omega) (by omega) (by omega) (by omega)
  have e9 : ∀ k, k < 3 → (wrkV s P j).2 (9 + k) = s (9 + k) := fun k hk => wv_o s h10 (by omega) (by omega) (by omega) (by omega)
  have same : HOW (wrkV s P j).2 j = 1 → (wrkV s P j).2 (52 + 12 * j + 11) = s (52 + 12 * j + 11) → XI (wrkV s P j).2 J := by
    intro hh h11
    refine XI_row hX ho ⟨fun z => ?_, fun _ => ?_, fun z => ?_, fun _ => ?_⟩ (fun k hk => ?_)
    · rw [hh] at z; exact absurd z n10
    · rw [e7]; exact hxj.2.1 h1
    · rw [hh] at z; exact absurd z n12
    · rw [h11]; exact hxj.2.2.2 (by rw [h1]; decide)
    · rw [freeV_congr (s := s) (e9 k hk) (fun i hi => ?_)]
      · exact hX.2 k hk
      · by_cases e : i = j
        · subst e; exact ⟨by rw [hh, h1], e8⟩
        · exact ⟨ho i hi e 5 (by omega), ho i hi e 8 (by omega)⟩
  rcases wrk_row s h10 h1 with ⟨_, hh, _, _, h11⟩ | ⟨_, _, hh, _, _, h11⟩ | ⟨_, _, _, hh, _, _, h11⟩ | ⟨_, _, c2, hh, e2, _, e11⟩
  · exact same hh h11
  · exact same hh h11
  · exact same hh h11
  · refine XI_row hX ho ⟨fun z => ?_, fun z => ?_, fun _ => ⟨?_, ?_⟩, fun z => absurd hh z⟩ (free_up (j := j) hS hX e9 (fun i hi hij => ⟨ho i hi hij 5 (by omega), ho i hi hij 8 (by omega)⟩) (by rw [hh]; decide))
    · rw [hh] at z; exact absurd z n20
    · rw [hh] at z; exact absurd z n21
    · rw [e2]; exact c2
    · rw [e11]; exact h4
theorem XI_gobU {s : Nat → Int32} {P J : Nat} (hS : SI s P J) (hX : XI s J) (h4 : 0 ≤ s 4) : ∀ k, k ≤ J → XI (gobU s P k).2 J := by
  intro k
  induction k with
  | zero => intro _; exact hX
  | succ k ih =>
    intro hk
    rw [gobU_s]
    by_cases c : HOW (gobU s P k).2 k = 1
    · rw [if_pos c]
      exact XI_wrk (SI_gobU hS k (by omega)) (ih (by omega)) (by rw [gobU_o s (SI_P hS) (by omega) (by omega) (by omega)]; exact h4) (by omega) c
    · rw [if_neg c]
      exact ih (by omega)
theorem XI_rst {s : Nat → Int32} {P J : Nat} (h10 : P ≤ 10) (hX : XI s J) (c : Int32) : XI (rstV s P c) J := XI_c hX (fun i hi => rstV_o s h10 c (by omega))
theorem XI_gobV {s : Nat → Int32} {P J : Nat} (hS : SI s P J) (hX : XI s J) (h4 : 0 ≤ s 4) : XI (gobV s P J).2 J := by
  unfold gobV gobS
  exact XI_c (XI_rst (SI_P hS) (XI_gobU hS hX h4 J (Nat.le_refl _)) _) (fun i hi => upd_n _ _ (by omega))
theorem gobV_4 (s : Nat → Int32) {P : Nat} (h10 : P ≤ 10) (J : Nat) : (gobV s P J).2 4 = s 4 + 1 := by
  show upd (gobS s P J) 4 (gobS s P J 4 + 1) 4 = _
  unfold gobS
  rw [upd_s, rstV_o _ h10 _ (by omega), gobU_o s h10 (by omega) (by omega) (by omega)]
theorem XI_pas {s : Nat → Int32} {P J h : Nat} (hS : SI s P J) (hX : XI s J) (h4 : s 4 = nI h) (hh : h ≤ 10000) : ∀ n, n ≤ 100 → XI (pasU s P J n).2 J ∧ (pasU s P J n).2 4 = nI (h + n) := by
  intro n
  induction n with
  | zero => intro _; exact ⟨hX, h4⟩
  | succ n ih =>
    intro hn
    obtain ⟨a, b⟩ := ih (by omega)
    rw [pasU_s]
    refine ⟨XI_gobV (SI_pas hS n) a (by rw [b]; exact nI_pos' (by omega)), ?_⟩
    show (gobV (pasU s P J n).2 P J).2 4 = _
    rw [gobV_4 _ (SI_P hS), b, nI_1, show h + n + 1 = h + (n + 1) by omega]
/-! assign -/
theorem XI_asgU {P J : Nat} : ∀ f (s : Nat → Int32) (b se : Int32), SI s P J → XI s J → XI (asgU P J f s b se).2 J ∧ (asgU P J f s b se).2 4 = s 4 := by
  intro f
  induction f with
  | zero => intro s b se _ hX; exact ⟨hX, rfl⟩
  | succ f ih =>
    intro s b se hS hX
    rw [asgU_s]
    by_cases w6 : wtV s J 0 se = -6
    · rw [if_pos w6]; exact ⟨hX, rfl⟩
    · rw [if_neg w6]
      obtain ⟨j, hj, e, h0, _⟩ := (wtF_in s J 0 se J (by omega)).resolve_left w6
      have e : wtV s J 0 se = nI j := e
      have := SI_J hS
      rw [e, nI_clamp (by omega)]
      by_cases c : stpV s P J j = -6
      · rw [if_pos c]; exact ih _ _ _ hS hX
      · rw [if_neg c]
        have go : ∀ k : Int32, (k = -6 ∨ inR k 3) → ¬ crewV s P J j k = -6 → ∀ b2 se2 : Int32, XI (asgU P J f (begV s j (crewV s P J j k) k) b2 se2).2 J ∧ (asgU P J f (begV s j (crewV s P J j k) k) b2 se2).2 4 = s 4 := by
          intro k hk hc b2 se2
          have hw := crew_why hS j k h0 hc
          obtain ⟨x, y⟩ := ih (begV s j (crewV s P J j k) k) b2 se2 (SI_beg hS hj hk hw) (XI_beg hS hX hj hw)
          exact ⟨x, by rw [y]; exact begV_o s j _ _ (by omega) (by omega) (by omega) (by omega)⟩
        have hs := stp_crew s P J j 4 (by omega)
        change (stpV s P J j = -6 ∨ (stpV s P J j = 3 ∧ ¬ crewV s P J j (-6) = -6) ∨ ∃ q, q < 3 ∧ stpV s P J j = nI q ∧ ¬ crewV s P J j (nI q) = -6) at hs
        rcases hs with z | ⟨z, hc⟩ | ⟨q, hq, z, hc⟩
        · exact absurd z c
        · rw [z, if_pos rfl]
          exact go (-6) (Or.inl rfl) hc _ _
        · rw [z, if_neg (show ¬ nI q = 3 from fun y => by have := (nI_eq (a := q) (b := 3) (by omega) (by omega)).mp y; omega)]
          exact go (nI q) (Or.inr (inRn hq (by omega))) hc _ _
theorem XI_asg {s : Nat → Int32} {P J : Nat} (hS : SI s P J) (hX : XI s J) : XI (asgV s P J).2 J ∧ (asgV s P J).2 4 = s 4 := XI_asgU 17 s 0 0 hS hX
/-- all that holds, with at most n hours so far -/
def KK (s : Nat → Int32) (n : Nat) : Prop := ∃ P J h, SI s P J ∧ XI s J ∧ s 4 = nI h ∧ h ≤ n
