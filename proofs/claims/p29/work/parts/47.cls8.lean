/-! counting -/
def cN (f : Nat → Bool) : Nat → Nat
  | 0 => 0
  | n + 1 => cN f n + (if f n then 1 else 0)
theorem cN_s (f : Nat → Bool) (n : Nat) : cN f (n + 1) = cN f n + (if f n then 1 else 0) := rfl
theorem cN_n (f : Nat → Bool) : ∀ n, cN f n ≤ n := by
  intro n
  induction n with
  | zero => exact Nat.le_refl _
  | succ n ih => rw [cN_s]; split <;> omega
theorem cN_le {f g : Nat → Bool} : ∀ n, (∀ o, o < n → f o = true → g o = true) → cN f n ≤ cN g n := by
  intro n
  induction n with
  | zero => intro _; exact Nat.le_refl _
  | succ n ih =>
    intro h
    have hi := ih (fun o ho => h o (by omega))
    rw [cN_s, cN_s]
    cases hf : f n
    · rw [if_neg (by decide)]; omega
    · rw [h n (by omega) hf]
      omega
theorem cN_lt {f g : Nat → Bool} {i : Nat} (hg : g i = true) (hf : f i = false) : ∀ n, i < n → (∀ o, o < n → f o = true → g o = true) → cN f n < cN g n := by
  intro n
  induction n with
  | zero => intro h; omega
  | succ n ih =>
    intro h1 h
    rw [cN_s, cN_s]
    by_cases e : i = n
    · subst e
      rw [hg, hf, if_neg (by decide), if_pos rfl]
      have := cN_le i (fun o ho => h o (by omega))
      omega
    · have hi := ih (by omega) (fun o ho => h o (by omega))
      cases hf : f n
      · rw [if_neg (by decide)]; omega
      · rw [h n (by omega) hf]; omega
theorem cN_add {f g : Nat → Bool} {i : Nat} (hg : g i = true) (hf : f i = false) : ∀ n, (∀ o, o < n → o ≠ i → f o = g o) → cN g n = cN f n + (if i < n then 1 else 0) := by
  intro n
  induction n with
  | zero => intro _; rfl
  | succ n ih =>
    intro h
    rw [cN_s, cN_s, ih (fun o ho => h o (by omega))]
    by_cases e : n = i
    · subst e
      rw [hg, hf, if_neg (by omega), if_pos rfl, if_neg (by decide), if_pos (by omega)]
    · rw [h n (by omega) e]
      by_cases l : i < n
      · rw [if_pos l, if_pos (show i < n + 1 by omega)]; omega
      · rw [if_neg l, if_neg (show ¬ i < n + 1 by omega)]; omega
/-- how many of a set are ahead -/
def lowF (s : Nat → Int32) (W : Nat → Bool) (j o : Nat) : Bool := W o && decide (keyV s o < keyV s j)
def lowN (s : Nat → Int32) (W : Nat → Bool) (j n : Nat) : Nat := cN (lowF s W j) n
def wbW (s : Nat → Int32) (but : Int32) (o : Nat) : Bool := decide (HOW s o = 0 ∧ bt but o = false)
theorem wbW_t {s : Nat → Int32} {but : Int32} {o : Nat} : wbW s but o = true ↔ HOW s o = 0 ∧ bt but o = false := decide_eq_true_iff
theorem wtC_low {s : Nat → Int32} {P J : Nat} (hS : SI s P J) (but : Int32) {j : Nat} (hj : j < J) : ∀ n, n ≤ J → wtC s but j n = nI (lowN s (wbW s but) j n) := by
  intro n
  induction n with
  | zero => intro _; rfl
  | succ n ih =>
    intro hn
    show _ = nI (cN _ (n + 1))
    rw [wtC_s, ih (by omega), cN_s]
    have e : (HOW s n = 0 ∧ bt but n = false ∧ ¬ n = j ∧ ¬ ahV s n j = 0) ↔ lowF s (wbW s but) j n = true := by
      unfold lowF
      rw [Bool.and_eq_true, wbW_t, decide_eq_true_iff, ah_key hS (by omega) hj]
      constructor
      · intro z; exact ⟨⟨z.1, z.2.1⟩, z.2.2.2⟩
      · intro z; exact ⟨z.1.1, z.1.2, fun w => by have := z.2; rw [w] at this; omega, z.2⟩
    by_cases c : lowF s (wbW s but) j n = true
    · rw [if_pos (e.mpr c), c, if_pos rfl, nI_1]; rfl
    · rw [if_neg (fun z => c (e.mp z)), if_neg c, Int32.add_zero]; rfl
theorem wtF_none (s : Nat → Int32) {J : Nat} (h16 : J ≤ 16) (rank but : Int32) : ∀ m, m ≤ J → wtF s J rank but m = -6 → ∀ j, J - m ≤ j → j < J → ¬ (HOW s j = 0 ∧ bt but j = false ∧ wtC s but j J = rank) := by
  intro m
  induction m with
  | zero => intro _ _ j h1 h2; omega
  | succ m ih =>
    intro hm h j h1 h2
    rw [wtF_s] at h
    by_cases c : HOW s (J - (m + 1)) = 0 ∧ bt but (J - (m + 1)) = false ∧ wtC s but (J - (m + 1)) J = rank
    · rw [if_pos c] at h
      exact absurd h (nI_n6 (by omega))
    · rw [if_neg c] at h
      by_cases e : j = J - (m + 1)
      · subst e; exact c
      · exact ih (by omega) h j (by omega) h2
theorem low_lt {s : Nat → Int32} {W : Nat → Bool} {i j n : Nat} (hi : i < n) (hw : W i = true) (h : keyV s i < keyV s j) : lowN s W i n < lowN s W j n := by
  refine cN_lt (i := i) ?_ ?_ n hi (fun o _ ho => ?_)
  · unfold lowF; rw [hw, decide_eq_true h]; rfl
  · unfold lowF; rw [decide_eq_false (Nat.lt_irrefl _), Bool.and_false]
  · unfold lowF at ho ⊢
    rw [Bool.and_eq_true, decide_eq_true_iff] at ho
    rw [ho.1, decide_eq_true (by omega)]; rfl
theorem wt_some {s : Nat → Int32} {P J : Nat} (hS : SI s P J) {but : Int32} {j r : Nat} (hj : j < J) (hw : wbW s but j = true) (hr : lowN s (wbW s but) j J = r) : wtV s J (nI r) but = nI j := by
  have h16 := SI_J hS
  have hc : wtC s but j J = nI r := by rw [wtC_low hS but hj J (by omega), hr]
  have hw2 := wbW_t.mp hw
  cases wtF_in s J (nI r) but J (by omega) with
  | inl h => exact absurd ⟨hw2.1, hw2.2, hc⟩ (wtF_none s h16 (nI r) but J (by omega) h j (by omega) hj)
  | inr h =>
    obtain ⟨i, hi, e, a, b, c⟩ := h
    show wtF s J (nI r) but J = nI j
    rw [e]
    rw [wtC_low hS but hi J (by omega)] at c
    have hn1 : lowN s (wbW s but) i J ≤ J := cN_n _ _
    have hn2 : lowN s (wbW s but) j J ≤ J := cN_n _ _
    have c' := (nI_eq (by omega) (by omega)).mp c
    by_cases k1 : keyV s i < keyV s j
    · have := low_lt (n := J) hi (wbW_t.mpr ⟨a, b⟩) k1
      omega
    · by_cases k2 : keyV s j < keyV s i
      · have := low_lt (n := J) hj hw k2
        omega
      · rw [key_inj (s := s) (i := i) (j := j) (by omega) (by omega) (by omega)]
theorem wt_none {s : Nat → Int32} {P J : Nat} (hS : SI s P J) {but : Int32} {r : Nat} (h31 : r < 2 ^ 31) (h : ∀ j, j < J → wbW s but j = true → ¬ lowN s (wbW s but) j J = r) : wtV s J (nI r) but = -6 := by
  have h16 := SI_J hS
  cases wtF_in s J (nI r) but J (by omega) with
  | inl h => exact h
  | inr h' =>
    obtain ⟨i, hi, e, a, b, c⟩ := h'
    rw [wtC_low hS but hi J (by omega)] at c
    have hn1 : lowN s (wbW s but) i J ≤ J := cN_n _ _
    exact absurd ((nI_eq (by omega) h31).mp c) (h i hi (wbW_t.mpr ⟨a, b⟩))
theorem low_0 {s : Nat → Int32} {W : Nat → Bool} {j : Nat} : ∀ n, (∀ i, i < n → W i = true → keyV s j ≤ keyV s i) → lowN s W j n = 0 := by
  intro n
  induction n with
  | zero => intro _; rfl
  | succ n ih =>
    intro h
    show cN _ (n + 1) = 0
    rw [cN_s]
    have : lowF s W j n = false := by
      unfold lowF
      cases hw : W n
      · rfl
      · rw [decide_eq_false (by have := h n (by omega) hw; omega)]; rfl
    rw [this, if_neg (by decide)]
    exact ih (fun i hi => h i (by omega))
/-- the first of a set -/
theorem wt_first {s : Nat → Int32} {P J : Nat} (hS : SI s P J) (but : Int32) : (nxU s (wbW s but) J = -1 ∧ wtV s J 0 but = -6 ∧ ∀ j, j < J → wbW s but j = false) ∨ ∃ j, j < J ∧ nxU s (wbW s but) J = nI j ∧ wtV s J 0 but = nI j ∧ wbW s but j = true ∧ ∀ i, i < J → wbW s but i = true → keyV s j ≤ keyV s i := by
  cases nxU_in s (wbW s but) J (SI_J hS) with
  | inl h => exact Or.inl ⟨h.1, wt_none hS (r := 0) (by omega) (fun j hj hw => by rw [h.2 j hj] at hw; cases hw), h.2⟩
  | inr h =>
    obtain ⟨j, hj, e, hw, hm⟩ := h
    exact Or.inr ⟨j, hj, e, wt_some hS (r := 0) hj hw (low_0 J hm), hw, hm⟩
/-! waiting -/
def wtP (s : Nat → Int32) (J : Nat) (x : Int32) (r : Nat) : Prop := (∃ j, j < J ∧ x = nI j ∧ wbW s 0 j = true ∧ lowN s (wbW s 0) j J = r) ∨ (x = -1 ∧ ∀ j, j < J → wbW s 0 j = true → lowN s (wbW s 0) j J < r)
theorem wtW_0 (s : Nat → Int32) (th o : Nat) : wtW s th o = true ↔ wbW s 0 o = true ∧ th ≤ keyV s o := by
  unfold wtW
  rw [wbW_t, decide_eq_true_iff, b_0]
  exact ⟨fun z => ⟨⟨z.1, rfl⟩, z.2⟩, fun z => ⟨z.1.1, z.2⟩⟩
theorem wtP_0 {s : Nat → Int32} {P J : Nat} (hS : SI s P J) : wtP s J (nxU s (wtW s 0) J) 0 := by
  cases nxU_in s (wtW s 0) J (SI_J hS) with
  | inl h => exact Or.inr ⟨h.1, fun j hj hw => by have := (wtW_0 s 0 j).mpr ⟨hw, by omega⟩; rw [h.2 j hj] at this; cases this⟩
  | inr h =>
    obtain ⟨j, hj, e, hw, hm⟩ := h
    exact Or.inl ⟨j, hj, e, ((wtW_0 s 0 j).mp hw).1, low_0 J (fun i hi hwi => hm i hi ((wtW_0 s 0 i).mpr ⟨hwi, by omega⟩))⟩
theorem wtP_s {s : Nat → Int32} {P J : Nat} (hS : SI s P J) {j r : Nat} (hj : j < J) (hwj : wbW s 0 j = true) (hr : lowN s (wbW s 0) j J = r) : wtP s J (nxU s (wtW s (keyV s j + 1)) J) (r + 1) := by
  have h16 := SI_J hS
  cases nxU_in s (wtW s (keyV s j + 1)) J (SI_J hS) with
  | inl h =>
    refine Or.inr ⟨h.1, fun i hi hw => ?_⟩
    have hle : ¬ keyV s j < keyV s i := fun z => by
      have := (wtW_0 s (keyV s j + 1) i).mpr ⟨hw, by omega⟩; rw [h.2 i hi] at this; cases this
    by_cases e : i = j
    · subst e; omega
    · have : ¬ keyV s i = keyV s j := fun z => e (key_inj (s := s) (i := i) (j := j) (by omega) (by omega) z)
      have := low_lt (n := J) hi hw (show keyV s i < keyV s j by omega)
      omega
  | inr h =>
    obtain ⟨i, hi, e, hw, hm⟩ := h
    have hw' := (wtW_0 s _ i).mp hw
    refine Or.inl ⟨i, hi, e, hw'.1, ?_⟩
    unfold lowN at hr ⊢
    rw [cN_add (f := lowF s (wbW s 0) j) (i := j), hr, if_pos hj]
    · unfold lowF; rw [hwj, decide_eq_true (show keyV s j < keyV s i by omega)]; rfl
    · unfold lowF; rw [decide_eq_false (Nat.lt_irrefl _), Bool.and_false]
    · intro o ho hoj
      unfold lowF
      cases hwo : wbW s 0 o
      · rw [Bool.false_and, Bool.false_and]
      · rw [Bool.true_and, Bool.true_and]
        have k1 : ¬ keyV s o = keyV s j := fun z => hoj (key_inj (s := s) (i := o) (j := j) (by omega) (by omega) z)
        by_cases k2 : keyV s o < keyV s j
        · rw [decide_eq_true k2, decide_eq_true (by omega)]
        · have := hm o ho ((wtW_0 s _ o).mpr ⟨hwo, by omega⟩)
          rw [decide_eq_false k2, decide_eq_false (by omega)]
def waitV (s : Nat → Int32) (J : Nat) (x : Int32) : Int32 := if x < 0 then -1 else if wtV s J x 0 = -6 then -1 else wtV s J x 0