/-! assign -/
theorem stp_crew (s : Nat → Int32) (P J j : Nat) : ∀ k, k ≤ 4 → (stpU s P J j k).1 = -6 ∨ ((stpU s P J j k).1 = 3 ∧ ¬ crewV s P J j (-6) = -6) ∨ ∃ q, q < 3 ∧ (stpU s P J j k).1 = nI q ∧ ¬ crewV s P J j (nI q) = -6 := by
  intro k
  induction k with
  | zero => intro _; exact Or.inl rfl
  | succ k ih =>
    intro hk
    by_cases c : ¬ crewV s P J j (kdV k) = -6 ∧ ((stpU s P J j k).1 = -6 ∨ onesV (crewV s P J j (kdV k)) < (stpU s P J j k).2)
    · rw [stpU_p s P J j k c]
      by_cases k0 : k = 0
      · subst k0
        exact Or.inr (Or.inl ⟨rfl, c.1⟩)
      · obtain ⟨q, rfl⟩ := Nat.exists_eq_succ_of_ne_zero k0
        refine Or.inr (Or.inr ⟨q, by omega, if_neg (t := (3 : Int32)) k0, ?_⟩)
        rw [← kdV_s]
        exact c.1
    · rw [stpU_n s P J j k c]
      exact ih (by omega)
theorem keyV_beg (s : Nat → Int32) (j : Nat) (c k : Int32) (i : Nat) : keyV (begV s j c k) i = keyV s i := by
  unfold keyV
  rw [begV_o s j c k (by omega) (by omega) (by omega) (by omega), begV_o s j c k (by omega) (by omega) (by omega) (by omega)]
theorem cnt_f {c : Int32} {i : Nat} (h : bt c i = false) : ∀ n, i < n → cntB c n < n := by
  intro n
  induction n with
  | zero => intro h; omega
  | succ n ih =>
    intro hi
    rw [cntB_s]
    by_cases e : i = n
    · subst e
      rw [h, if_neg (by decide)]
      have := cnt_le c i
      omega
    · have := ih (by omega)
      split <;> omega
theorem c_asg_l {B P J : Nat} (hJ : J ≤ 16) : ∀ m fuel (D : dT) (s : Nat → Int32) (b se : Int32) (th : Nat), m ≤ 16 → m + 1 < fuel → FR D B s P J → SI s P J → cntB se J = 16 - m → (∀ j, j < J → HOW s j = 0 → (bt se j = false ↔ th ≤ keyV s j)) →
    ∃ D', F_X0_assignJobs_10 fuel B b (nxU s (wbW s se) J) (nI (16 - m)) D = some ((asgU P J (m + 1) s b se).1, D') ∧ FR D' B (asgU P J (m + 1) s b se).2 P J ∧ SI (asgU P J (m + 1) s b se).2 P J ∧ off B D D' := by
  intro m
  induction m with
  | zero =>
    intro fuel D s b se th hm hf h hS hc hq
    obtain ⟨f, rfl⟩ := Nat.exists_eq_add_of_lt hf
    rw [F_X0_assignJobs_10, if_pos (by decide)]
    cases wt_first hS se with
    | inl w =>
      rw [asgU_s, if_pos w.2.1]
      exact ⟨D, rfl, h, hS, off_r B D⟩
    | inr w =>
      obtain ⟨j, hj, _, _, hw, _⟩ := w
      have := cnt_f (wbW_t.mp hw).2 J hj
      omega
  | succ m ih =>
    intro fuel D s b se th hm hf h hS hc hq
    obtain ⟨f, rfl⟩ := Nat.exists_eq_add_of_lt hf
    rw [F_X0_assignJobs_10, if_neg (by rw [show (16 : Int32) = nI 16 from rfl]; exact nI_ge (by omega) (by omega)), c_hasJob (FR_J h) hJ, bd_some]
    cases wt_first hS se with
    | inl w =>
      rw [w.1, if_neg (show ¬ inR (-1) J from fun z => absurd z.1 (by decide)), if_pos rfl, asgU_s, if_pos w.2.1]
      exact ⟨D, rfl, h, hS, off_r B D⟩
    | inr w =>
      obtain ⟨j, hj, e1, e2, hw, hmin⟩ := w
      have hw2 := wbW_t.mp hw
      rw [e1, if_pos (inRn hj (by omega)), if_neg (by decide), if_pos (inRn (by omega) (by omega)), nI_clamp (by omega), c_few h hS hj, bd_some, c_isKind, bd_some, asgU_s, e2, if_neg (nI_n6 (by omega)), nI_clamp (by omega)]
      have nxt : ∀ (D1 : dT) (s1 : Nat → Int32) (b1 : Int32), FR D1 B s1 P J → SI s1 P J → (∀ i, keyV s1 i = keyV s i) → (∀ i, i ≠ j → HOW s1 i = HOW s i) → off B D D1 →
          ∃ D', F_X0_assignJobs_88 B (fun (v1_ : Int32) (v2_ : Int32) (v3_ : Int32) (D_ : dT) => F_X0_assignJobs_10 (m + 1 + 1 + f) B v1_ v2_ v3_ D_) b1 (nI j) (nI (16 - (m + 1))) D1 = some ((asgU P J (m + 1) s1 b1 (se ||| ((1 : Int32) <<< (nI j &&& 31)))).1, D') ∧ FR D' B (asgU P J (m + 1) s1 b1 (se ||| ((1 : Int32) <<< (nI j &&& 31)))).2 P J ∧ SI (asgU P J (m + 1) s1 b1 (se ||| ((1 : Int32) <<< (nI j &&& 31)))).2 P J ∧ off B D D' := by
        intro D1 s1 b1 h1 hS1 hk hh ho
        unfold F_X0_assignJobs_88
        rw [c_next h1 hS1 (Or.inr ⟨j, hj, rfl, rfl⟩), bd_some, nI_1]
        have hq' : ∀ i, i < J → HOW s1 i = 0 → (bt (se ||| ((1 : Int32) <<< (nI j &&& 31))) i = false ↔ keyV s1 j + 1 ≤ keyV s1 i) := by
          intro i hi h0
          rw [hk, hk, b_or, sh_one (by omega) (by omega)]
          by_cases e : i = j
          · subst e
            rw [decide_eq_true (show i = i from rfl), Bool.or_true]
            exact ⟨fun z => absurd z (by decide), fun z => by omega⟩
          · rw [decide_eq_false e, Bool.or_false]
            rw [hh i e] at h0
            have kne : ¬ keyV s i = keyV s j := fun z => e (key_inj (s := s) (i := i) (j := j) (by omega) (by omega) z)
            constructor
            · intro z
              have := hmin i hi (wbW_t.mpr ⟨h0, z⟩)
              omega
            · intro z
              have := (hq j hj hw2.1).mp hw2.2
              exact (hq i hi h0).mpr (by omega)
        have hc' : cntB (se ||| ((1 : Int32) <<< (nI j &&& 31))) J = 16 - m := by
          rw [cnt_or se (by omega) hw2.2 J (by omega), if_pos hj]
          omega
        obtain ⟨D', a1, a2, a3, a4⟩ := ih (m + 1 + 1 + f) D1 s1 b1 (se ||| ((1 : Int32) <<< (nI j &&& 31))) (keyV s1 j + 1) (by omega) (by omega) h1 hS1 hc' hq'
        refine ⟨D', ?_, a2, a3, off_t ho a4⟩
        rw [← a1, show 16 - (m + 1) + 1 = 16 - m by omega]
        congr 1
        refine nxU_congr J (fun i hi => ?_)
        unfold wtW wbW
        refine decide_eq_decide.mpr ⟨fun z => ⟨z.1, (hq' i hi z.1).mpr z.2⟩, fun z => ⟨z.1, (hq' i hi z.1).mp z.2⟩⟩
      have fin : ∀ k : Int32, (k = -6 ∨ inR k 3) → ¬ crewV s P J j k = -6 → ∀ r : Int32, ¬ r = -6 →
          ∃ D', F_X0_assignJobs_51 B (fun (v1_ : Int32) (v2_ : Int32) (v3_ : Int32) (D_ : dT) => F_X0_assignJobs_10 (m + 1 + 1 + f) B v1_ v2_ v3_ D_) b (nI j) (nI (16 - (m + 1))) r k D = some ((asgU P J (m + 1) (begV s j (crewV s P J j k) k) (b ||| ((1 : Int32) <<< (nI j &&& 31))) (se ||| ((1 : Int32) <<< (nI j &&& 31)))).1, D') ∧ FR D' B (asgU P J (m + 1) (begV s j (crewV s P J j k) k) (b ||| ((1 : Int32) <<< (nI j &&& 31))) (se ||| ((1 : Int32) <<< (nI j &&& 31)))).2 P J ∧ SI (asgU P J (m + 1) (begV s j (crewV s P J j k) k) (b ||| ((1 : Int32) <<< (nI j &&& 31))) (se ||| ((1 : Int32) <<< (nI j &&& 31)))).2 P J ∧ off B D D' := by
        intro k hk hcr r hr
        have hwhy := crew_why hS j k hw2.1 hcr
        obtain ⟨D1, a1, a2, a3⟩ := c_begin0 h hS hj hk hwhy
        unfold F_X0_assignJobs_51
        rw [if_neg hr, if_pos (inRn (by omega) (by omega)), nI_clamp (by omega), c_crew h hS hj hk, bd_some, a1, bd_some, if_neg (by
          have := SI_lPos hS j hj k hk
          rw [lt_toInt] at this ⊢; omega)]
        exact nxt D1 _ _ a2 (SI_beg hS hj hk hwhy) (keyV_beg s j _ _) (fun i hi => begV_o s j _ _ (by omega) (by omega) (by omega) (by omega)) a3
      have hs := stp_crew s P J j 4 (by omega)
      change (stpV s P J j = -6 ∨ (stpV s P J j = 3 ∧ ¬ crewV s P J j (-6) = -6) ∨ ∃ q, q < 3 ∧ stpV s P J j = nI q ∧ ¬ crewV s P J j (nI q) = -6) at hs
      generalize stpV s P J j = r at hs ⊢
      cases hs with
      | inl e =>
        subst e
        rw [if_neg (show ¬ inR (-6) 3 by decide), if_pos rfl, if_pos rfl]
        unfold F_X0_assignJobs_51
        rw [if_pos rfl]
        exact nxt D s b h hS (fun _ => rfl) (fun _ _ => rfl) (off_r B D)
      | inr hs =>
        cases hs with
        | inl e =>
          obtain ⟨rfl, e⟩ := e
          rw [if_neg (show ¬ inR 3 3 by decide), if_pos rfl, if_neg (show ¬ (3 : Int32) = -6 by decide), if_pos rfl]
          exact fin (-6) (Or.inl rfl) e 3 (by decide)
        | inr e =>
          obtain ⟨q, hq3, rfl, e⟩ := e
          rw [if_pos (inRn hq3 (by omega)), if_neg (show ¬ (1 : Int32) = 0 by decide), if_neg (show ¬ nI q = -6 from nI_n6 (by omega)), if_neg (show ¬ nI q = 3 from fun z => by have := (nI_eq (a := q) (b := 3) (by omega) (by omega)).mp z; omega)]
          exact fin (nI q) (Or.inr (inRn hq3 (by omega))) e (nI q) (nI_n6 (by omega))
theorem c_asg {D : dT} {B : Nat} {s : Nat → Int32} {P J : Nat} (h : FR D B s P J) (hS : SI s P J) : ∃ D', F_X0_assignJobs B D = some ((asgV s P J).1, D') ∧ FR D' B (asgV s P J).2 P J ∧ SI (asgV s P J).2 P J ∧ off B D D' := by
  unfold F_X0_assignJobs
  rw [c_next h hS (Or.inl ⟨rfl, rfl⟩), bd_some]
  have := c_asg_l (B := B) (P := P) (SI_J hS) 16 lim D s 0 0 0 (by omega) (lim_lt (by omega)) h hS (by rw [cnt_0]) (fun j _ _ => ⟨fun _ => by omega, fun _ => b_0 j⟩)
  rw [show nxU s (wtW s 0) J = nxU s (wbW s 0) J from nxU_congr J (fun i hi => by
    unfold wtW wbW
    exact decide_eq_decide.mpr ⟨fun z => ⟨z.1, b_0 i⟩, fun z => ⟨z.1, by omega⟩⟩)]
  exact this
/-- what assign answers is a set of jobs -/
theorem asg_bits {P J : Nat} (hJ : J ≤ 16) : ∀ f (s : Nat → Int32) (b se : Int32), (∀ i, J ≤ i → i < 32 → bt b i = false) → ∀ i, J ≤ i → i < 32 → bt (asgU P J f s b se).1 i = false := by
  intro f
  induction f with
  | zero => intro s b se h; exact h
  | succ f ih =>
    intro s b se h
    rw [asgU_s]
    by_cases c : wtV s J 0 se = -6
    · rw [if_pos c]; exact h
    · rw [if_neg c]
      have hb : ∀ i, J ≤ i → i < 32 → bt (b ||| ((1 : Int32) <<< (wtV s J 0 se &&& 31))) i = false := by
        cases wtF_in s J 0 se J (by omega) with
        | inl z => exact absurd z c
        | inr z =>
          obtain ⟨j, hj, e, _⟩ := z
          intro i hi h32
          rw [show wtV s J 0 se = nI j from e, b_or, h i hi h32, sh_one (by omega) h32, decide_eq_false (by omega)]; rfl
      by_cases c2 : stpV s P J (wtV s J 0 se).toNatClampNeg = -6
      · rw [if_pos c2]; exact ih _ _ _ h
      · rw [if_neg c2]; exact ih _ _ _ hb
theorem asg_nn {s : Nat → Int32} {P J : Nat} (hJ : J ≤ 16) : ¬ (asgV s P J).1 < 0 := by
  have h := asg_bits (P := P) hJ 17 s 0 0 (fun i _ _ => b_0 i)
  change ∀ i, J ≤ i → i < 32 → bt (asgV s P J).1 i = false at h
  generalize (asgV s P J).1 = x at h ⊢
  obtain ⟨n, hn, rfl⟩ := wb_of32 x
  have : n < 2 ^ 16 := by
    refine Nat.lt_pow_two_of_testBit n (fun i hi => ?_)
    by_cases h32 : i < 32
    · rw [← b_nI n i h32]; exact h i (by omega) h32
    · exact Nat.testBit_lt_two_pow (Nat.lt_of_lt_of_le hn (Nat.pow_le_pow_right (by decide) (by omega)))
  exact nI_pos (by omega)
