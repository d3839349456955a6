/-! a crew by itself can begin -/
theorem grd_ok (s : Nat → Int32) {P h0 : Nat} (h10 : P ≤ 10) (b load : Int32) : ∀ m c, (∀ i, P ≤ i → i < 32 → bt c i = false) → (∀ i, bt b i = true → bt c i = false) → cntB c 31 + m = h0 → ¬ grd s P b load m c = -6 →
    (∀ i, P ≤ i → i < 32 → bt (grd s P b load m c) i = false) ∧ (∀ i, bt b i = true → bt (grd s P b load m c) i = false) ∧ cntB (grd s P b load m c) 31 ≤ h0 ∧ load ≤ strV s P (grd s P b load m c) ∧ ∃ q, q < P ∧ bt (grd s P b load m c) q = true := by
  intro m
  induction m with
  | zero => intro c _ _ _ h; exact absurd rfl h
  | succ m ih =>
    intro c h1 h2 h3 h4
    rw [grd_s] at h4 ⊢
    cases stgV_in s h10 (b ||| c) with
    | inl e => exact absurd (if_pos e) h4
    | inr e =>
      obtain ⟨q, hq, e, hb⟩ := e
      have hbc := (or_f (by rw [← b_or]; exact hb) : bt b q = false ∧ bt c q = false)
      have k1 : ∀ i, P ≤ i → i < 32 → bt (c ||| ((1 : Int32) <<< (nI q &&& 31))) i = false := by
        intro i hi h32
        rw [b_or, sh_one (by omega) h32, h1 i hi h32, decide_eq_false (by omega)]; rfl
      have k2 : ∀ i, bt b i = true → bt (c ||| ((1 : Int32) <<< (nI q &&& 31))) i = false := by
        intro i hi
        by_cases h32 : i < 32
        · rw [b_or, sh_one (by omega) h32, h2 i hi, decide_eq_false (fun z => by subst z; rw [hbc.1] at hi; cases hi)]; rfl
        · exact b_big (by omega)
      have k3 : cntB (c ||| ((1 : Int32) <<< (nI q &&& 31))) 31 = cntB c 31 + 1 := by rw [cnt_or c (by omega) hbc.2 31 (by omega), if_pos (by omega)]
      rw [e, if_neg (nI_n6 (by omega))] at h4 ⊢
      by_cases hl : load ≤ strV s P (c ||| ((1 : Int32) <<< (nI q &&& 31)))
      · rw [if_pos hl]
        refine ⟨k1, k2, by omega, hl, q, hq, ?_⟩
        rw [b_or, sh_one (by omega) (by omega), decide_eq_true rfl, Bool.or_true]
      · rw [if_neg hl] at h4 ⊢
        exact ih _ k1 k2 (by omega) h4
theorem crew_ok {s : Nat → Int32} {P J : Nat} (hS : SI s P J) (j : Nat) (k : Int32) (h : ¬ crewV s P J j k = -6) : canV s J j k ∧ (∀ i, P ≤ i → i < 32 → bt (crewV s P J j k) i = false) ∧ (∀ i, bt (busyV s J) i = true → bt (crewV s P J j k) i = false) ∧ onesV (crewV s P J j k) ≤ s 3 ∧ loadV s j k ≤ strV s P (crewV s P J j k) ∧ ∃ q, q < P ∧ bt (crewV s P J j k) q = true := by
  obtain ⟨h0, h1, h6, hH⟩ := hS.2.1.2.2.2.1
  have hc : canV s J j k := by
    refine Decidable.byContradiction fun z => h ?_
    exact if_neg z
  have e : crewV s P J j k = grd s P (busyV s J) (loadV s j k) h0 0 := by
    unfold crewV
    rw [if_pos hc, hH, nI_clamp (by omega)]
  rw [e] at h ⊢
  obtain ⟨a, b, c, d, f⟩ := grd_ok s (h0 := h0) (SI_P hS) (busyV s J) (loadV s j k) h0 0 (fun i _ _ => b_0 i) (fun i _ => b_0 i) (by rw [cnt_0, Nat.zero_add]) h
  exact ⟨hc, a, b, by rw [hH]; exact nI_le c (by omega), d, f⟩
theorem crew_why {s : Nat → Int32} {P J : Nat} (hS : SI s P J) (j : Nat) (k : Int32) (h0 : HOW s j = 0) (h : ¬ crewV s P J j k = -6) : reasonV s P J j (crewV s P J j k) k = 0 := by
  obtain ⟨a, b, c, d, e, q, hq, f⟩ := crew_ok hS j k h
  have h10 := SI_P hS
  unfold reasonV
  generalize crewV s P J j k = x at b c d e f ⊢
  have hx := (crew_n h10 x).mpr (by
    obtain ⟨n, hn, hxn⟩ := c_small h10 b
    refine ⟨n, ?_, hn, hxn⟩
    by_cases z : n = 0
    · subst z; rw [hxn] at f; rw [show nI 0 = 0 from rfl, b_0] at f; cases f
    · omega)
  rw [if_neg (show ¬ ¬ HOW s j = 0 from fun z => z h0), if_neg (fun z => z.elim (fun z => hx (Or.inl z)) (fun z => z.elim (fun z => hx (Or.inr z)) (fun z => Int32.not_le.mpr z d)))]
  rw [if_neg (show ¬ ¬ x &&& busyV s J = 0 from fun z => z (by
    apply b_ext
    intro i hi
    rw [b_and, b_0]
    cases hb : bt (busyV s J) i
    · rw [Bool.and_false]
    · rw [c i hb]; rfl)), if_neg (show ¬ ¬ canV s J j k from fun z => z a), if_neg (Int32.not_lt.mpr e)]
/-! the fewest people -/
theorem kdV_s (k : Nat) : kdV (k + 1) = nI k := by
  unfold kdV
  rw [if_neg (by omega), Nat.add_sub_cancel]
theorem ones_10 {c : Int32} {P : Nat} (h10 : P ≤ 10) (h : ∀ i, P ≤ i → i < 32 → bt c i = false) : cntB c 31 ≤ 10 := by
  have : ∀ m, cntB c (10 + m) ≤ 10 ∨ 32 < 10 + m := by
    intro m
    induction m with
    | zero => exact Or.inl (cnt_le c 10)
    | succ m ih =>
      by_cases h32 : 10 + m < 32
      · refine Or.inl ?_
        rw [show 10 + (m + 1) = 10 + m + 1 by omega, cntB_s, h _ (by omega) h32]
        cases ih with
        | inl z => simpa using z
        | inr z => omega
      · omega
  cases this 21 with
  | inl z => exact z
  | inr z => omega
theorem c_few_l {D : dT} {B : Nat} {s : Nat → Int32} {P J : Nat} (h : FR D B s P J) (hS : SI s P J) {j : Nat} (hj : j < J) : ∀ m k fuel, k + m = 3 → m < fuel → F_X0_fewestPeopleStraps_33 fuel B (B + 16 + j) (stpU s P J j (k + 1)).1 (if (stpU s P J j (k + 1)).1 = -6 then 11 else (stpU s P J j (k + 1)).2) (nI k) D = some (stpV s P J j, D) := by
  intro m
  induction m with
  | zero =>
    intro k fuel hk hf
    obtain ⟨f, rfl⟩ := Nat.exists_eq_add_of_lt hf
    rw [show 0 + f + 1 = f + 1 by omega, F_X0_fewestPeopleStraps_33, show k = 3 by omega, if_pos (by decide)]
    rfl
  | succ m ih =>
    intro k fuel hk hf
    obtain ⟨f, rfl⟩ := Nat.exists_eq_add_of_lt hf
    have hi := ih (k + 1) (m + 1 + f) (by omega) (by omega)
    have hk3 : inR (nI k) 3 := inRn (by omega) (by omega)
    rw [F_X0_fewestPeopleStraps_33, if_neg (by rw [show (3 : Int32) = nI 3 from rfl]; exact nI_ge (by omega) (by omega)), c_crew h hS hj (Or.inr hk3), bd_some, nI_1]
    have hb := crew_ok hS j (nI k)
    by_cases c0 : crewV s P J j (nI k) = -6
    · rw [if_pos c0]
      rw [stpU_n s P J j (k + 1) (fun z => z.1 (by rw [kdV_s]; exact c0))] at hi
      exact hi
    · rw [if_neg c0]
      obtain ⟨_, hb1, _⟩ := hb c0
      obtain ⟨n, hn, en⟩ := c_small (SI_P hS) hb1
      have hp := pw_le (SI_P hS)
      have ho := ones_10 (SI_P hS) hb1
      rw [en, c_bitCount D (by omega), bd_some, ← en]
      by_cases c1 : (stpU s P J j (k + 1)).1 = -6
      · rw [if_pos c1, if_neg (by rw [show (11 : Int32) = nI 11 from rfl]; exact nI_ge (by omega) (by omega)), en, c_bitCount D (by omega), bd_some, ← en]
        rw [stpU_p s P J j (k + 1) (by rw [kdV_s]; exact ⟨c0, Or.inl c1⟩), kdV_s, if_neg (show ¬ k + 1 = 0 by omega), Nat.add_sub_cancel, if_neg (nI_n6 (by omega))] at hi
        exact hi
      · rw [if_neg c1]
        by_cases c2 : (stpU s P J j (k + 1)).2 ≤ onesV (crewV s P J j (nI k))
        · rw [if_pos c2]
          rw [stpU_n s P J j (k + 1) (by rw [kdV_s]; exact fun z => z.2.elim c1 (fun z => Int32.not_le.mpr z c2)), if_neg c1] at hi
          exact hi
        · rw [if_neg c2, en, c_bitCount D (by omega), bd_some, ← en]
          rw [stpU_p s P J j (k + 1) (by rw [kdV_s]; exact ⟨c0, Or.inr (Int32.not_le.mp c2)⟩), kdV_s, if_neg (show ¬ k + 1 = 0 by omega), Nat.add_sub_cancel, if_neg (nI_n6 (by omega))] at hi
          exact hi
theorem c_few {D : dT} {B : Nat} {s : Nat → Int32} {P J : Nat} (h : FR D B s P J) (hS : SI s P J) {j : Nat} (hj : j < J) : F_X0_fewestPeopleStraps B (B + 16 + j) D = some (stpV s P J j, D) := by
  unfold F_X0_fewestPeopleStraps
  rw [c_crew h hS hj (Or.inl rfl), bd_some]
  have hi := c_few_l h hS hj 3 0 lim (by omega) (lim_lt (by omega))
  by_cases c0 : crewV s P J j (-6) = -6
  · rw [if_pos c0]
    rw [stpU_n s P J j 0 (fun z => z.1 c0)] at hi
    exact hi
  · rw [if_neg c0]
    obtain ⟨_, hb1, _⟩ := crew_ok hS j (-6) c0
    obtain ⟨n, hn, en⟩ := c_small (SI_P hS) hb1
    have hp := pw_le (SI_P hS)
    rw [stpU_p s P J j 0 ⟨c0, Or.inl rfl⟩, if_pos rfl, if_neg (show ¬ (3 : Int32) = -6 by decide)] at hi
    rw [en, c_bitCount D (by omega), bd_some, ← en]
    exact hi
