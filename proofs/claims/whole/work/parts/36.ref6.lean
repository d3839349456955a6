/-! the reference: copies of its array, lists of jobs -/
/-- n places of f laid into g from off on -/
def cpR (g f : Nat → Int32) (off n : Nat) : Nat → Int32 := fun j => if off ≤ j ∧ j < off + n then f (j - off) else g j
theorem cpR_0 (g f : Nat → Int32) (off : Nat) : cpR g f off 0 = g := by
  funext j
  exact if_neg (by omega)
theorem cpR_s (g f : Nat → Int32) (off n : Nat) : upd (cpR g f off n) (off + n) (f n) = cpR g f off (n + 1) := by
  funext j
  unfold upd cpR
  by_cases h : j = off + n
  · subst h
    rw [if_pos rfl, if_pos (by omega)]
    congr 1; omega
  · rw [if_neg h]
    by_cases h2 : off ≤ j ∧ j < off + n
    · rw [if_pos h2, if_pos (by omega)]
    · rw [if_neg h2, if_neg (by omega)]
theorem cpR_in (g f : Nat → Int32) {off n j : Nat} (h : j < n) : cpR g f off n (off + j) = f j := by
  unfold cpR
  rw [if_pos (by omega)]
  congr 1; omega
theorem cpR_out (g f : Nat → Int32) {off n j : Nat} (h : j < off ∨ off + n ≤ j) : cpR g f off n j = g j := if_neg (by omega)
/-- a row of D -/
def wr (D : dT) (q : Nat) (f : Nat → Int32) : dT := va_up D q f
theorem wr_s (D : dT) (q : Nat) (f : Nat → Int32) : wr D q f q = f := up_self _ _ _
theorem wr_o (D : dT) {q i : Nat} (f : Nat → Int32) (h : i ≠ q) : wr D q f i = D i := up_ne _ _ h
theorem wr_wr (D : dT) (q : Nat) (f g : Nat → Int32) : wr (wr D q f) q g = wr D q g := by
  funext i
  by_cases h : i = q
  · subst h; rw [wr_s, wr_s]
  · rw [wr_o _ _ h, wr_o _ _ h, wr_o _ _ h]
theorem wr_id (D : dT) (q : Nat) : wr D q (D q) = D := by
  funext i
  by_cases h : i = q
  · subst h; rw [wr_s]
  · rw [wr_o _ _ h]
theorem wr_up (D : dT) (q k : Nat) (v : Int32) : up2 D q k v = wr D q (upd (D q) k v) := by
  funext i j
  by_cases h : i = q
  · subst h
    rw [wr_s]
    unfold up2 upd
    by_cases h2 : j = k
    · rw [if_pos ⟨rfl, h2⟩, if_pos h2]
    · rw [if_neg (fun z => h2 z.2), if_neg h2]
  · rw [wr_o _ _ h]
    exact up2_ne D v (fun z => h z.1)
theorem ws_wr (D : dT) (f : Nat → Int32) : ws D f = wr D 379 f := rfl
theorem wr_eq {D : dT} {q : Nat} {f : Nat → Int32} (h : D q = f) : wr D q f = D := by rw [← h]; exact wr_id D q
theorem r_rec1_l (u s : Nat → Int32) {c : Nat} (hc : c < 6) : ∀ m k fuel (D : dT), D 381 = cpR u s (244 * c) k → D 379 = s → D 378 4 = nI c → k + m = 244 → m < fuel → F_X6_records_52 fuel (nI k) D = some (0, wr (wr D 381 (cpR u s (244 * c) 244)) 378 (upd (D 378) 4 (nI (c + 1)))) := by
  intro m
  induction m with
  | zero =>
    intro k fuel D h1 h2 h3 hk hf
    obtain ⟨f, rfl⟩ := Nat.exists_eq_add_of_lt hf
    have e : k = 244 := by omega
    subst e
    rw [show 0 + f + 1 = f + 1 by omega, F_X6_records_52, if_pos (by decide), wr_eq h1, wr_up, h3, nI_1]
  | succ m ih =>
    intro k fuel D h1 h2 h3 hk hf
    obtain ⟨f, rfl⟩ := Nat.exists_eq_add_of_lt hf
    have e : (244 : Int32) * nI c + nI k = nI (244 * c + k) := by rw [show (244 : Int32) = nI 244 from rfl, pk_mul, nI_add]
    rw [F_X6_records_52, if_neg (by rw [show (244 : Int32) = nI 244 from rfl]; exact nI_ge (by omega) (by omega)), if_pos (inRn (by omega) (by omega)), h3, e, if_pos (inRn (by omega) (by omega)), nI_clamp (by omega), nI_clamp (by omega), nI_1, wr_up, h1, h2, cpR_s]
    rw [ih (k + 1) _ _ (wr_s _ _ _) (by rw [wr_o _ _ (by omega)]; exact h2) (by rw [wr_o _ _ (by omega)]; exact h3) (by omega) (by omega), wr_wr, wr_o _ _ (by omega)]
def shU (u : Nat → Int32) (k : Nat) : Nat → Int32 := fun j => if j < k then u (j + 244) else u j
theorem shU_s (u : Nat → Int32) (k : Nat) : upd (shU u k) k (shU u k (k + 244)) = shU u (k + 1) := by
  funext j
  unfold upd shU
  by_cases h : j = k
  · subst h
    rw [if_pos rfl, if_neg (by omega), if_pos (by omega)]
  · rw [if_neg h]
    by_cases h2 : j < k
    · rw [if_pos h2, if_pos (by omega)]
    · rw [if_neg h2, if_neg (by omega)]
theorem r_rec2_l (u : Nat → Int32) : ∀ m k fuel (D : dT), D 381 = shU u k → k + m = 1220 → m < fuel → F_X6_records_11 fuel (nI k) D = F_X6_records_52 lim 0 (up2 (wr D 381 (shU u 1220)) 378 4 (D 378 4 - 1)) := by
  intro m
  induction m with
  | zero =>
    intro k fuel D h1 hk hf
    obtain ⟨f, rfl⟩ := Nat.exists_eq_add_of_lt hf
    have e : k = 1220 := by omega
    subst e
    rw [show 0 + f + 1 = f + 1 by omega, F_X6_records_11, if_pos (by decide), wr_eq h1]
  | succ m ih =>
    intro k fuel D h1 hk hf
    obtain ⟨f, rfl⟩ := Nat.exists_eq_add_of_lt hf
    rw [F_X6_records_11, if_neg (by rw [show (1220 : Int32) = nI 1220 from rfl]; exact nI_ge (by omega) (by omega)), show nI k + 244 = nI (k + 244) from nI_add k 244, if_pos (inRn (by omega) (by omega)), if_pos (inRn (by omega) (by omega)), nI_clamp (by omega), nI_clamp (by omega), nI_1, wr_up, h1, shU_s]
    rw [ih (k + 1) _ _ (wr_s _ _ _) (by omega) (by omega), wr_wr, wr_o _ _ (by omega)]
/-- the kept states behind a recording -/
def recU (u s : Nat → Int32) (c : Nat) : Nat → Int32 := if c = 6 then cpR (shU u 1220) s 1220 244 else cpR u s (244 * c) 244
def recN (c : Nat) : Nat := if c = 6 then 6 else c + 1
def recD (D : dT) (c : Nat) : dT := wr (wr D 381 (recU (D 381) (D 379) c)) 378 (upd (D 378) 4 (nI (recN c)))
theorem r_records (D : dT) {c : Nat} (hc : D 378 4 = nI c) (hc6 : c ≤ 6) : F_X6_records D = some (0, recD D c) := by
  unfold F_X6_records recD recU recN
  by_cases h : c = 6
  · subst h
    rw [if_pos (by rw [hc]; rfl), if_pos rfl, if_pos rfl]
    rw [show (0 : Int32) = nI 0 from rfl, r_rec2_l (D 381) 1220 0 lim D (by funext j; rfl) (by omega) (by decide), hc, show nI 6 - 1 = nI 5 from rfl]
    rw [show (0 : Int32) = nI 0 from rfl, r_rec1_l (shU (D 381) 1220) (D 379) (c := 5) (by omega) 244 0 lim _ (by rw [wr_up, wr_o _ _ (by omega), wr_s, cpR_0]) (by rw [wr_up, wr_o _ _ (by omega), wr_o _ _ (by omega)]) (by rw [wr_up, wr_s, upd_s]) (by omega) (by decide)]
    congr 2
    funext i
    by_cases h1 : i = 378
    · subst h1
      rw [wr_s, wr_s, wr_up, wr_s]
      funext j
      by_cases h2 : j = 4
      · subst h2; rw [upd_s, upd_s]
      · rw [upd_n _ _ h2, upd_n _ _ h2, upd_n _ _ h2, wr_o _ _ (by omega)]
    · rw [wr_o _ _ h1, wr_o _ _ h1]
      by_cases h3 : i = 381
      · subst h3; rw [wr_s, wr_s]
      · rw [wr_o _ _ h3, wr_o _ _ h3, wr_up, wr_o _ _ h1, wr_o _ _ h3]
  · rw [if_neg (by rw [hc]; exact fun z => h ((nI_eq (b := 6) (by omega) (by omega)).mp z)), if_neg h, if_neg h]
    exact r_rec1_l (D 381) (D 379) (c := c) (by omega) 244 0 lim D (by rw [cpR_0]) rfl hc (by omega) (by decide)
theorem r_aside_l (u s : Nat → Int32) : ∀ m k fuel (D : dT), D 380 = cpR u s 0 k → D 379 = s → k + m = 244 → m < fuel → F_X6_putAside_2 fuel (nI k) D = some (0, wr D 380 (cpR u s 0 244)) := by
  intro m
  induction m with
  | zero =>
    intro k fuel D h1 h2 hk hf
    obtain ⟨f, rfl⟩ := Nat.exists_eq_add_of_lt hf
    have e : k = 244 := by omega
    subst e
    rw [show 0 + f + 1 = f + 1 by omega, F_X6_putAside_2, if_pos (by decide), wr_eq h1]
  | succ m ih =>
    intro k fuel D h1 h2 hk hf
    obtain ⟨f, rfl⟩ := Nat.exists_eq_add_of_lt hf
    have e := cpR_s u s 0 k
    rw [Nat.zero_add] at e
    rw [F_X6_putAside_2, if_neg (by rw [show (244 : Int32) = nI 244 from rfl]; exact nI_ge (by omega) (by omega)), if_pos (inRn (by omega) (by omega)), if_pos (inRn (by omega) (by omega)), nI_clamp (by omega), nI_1, wr_up, h1, h2, e]
    rw [ih (k + 1) _ _ (wr_s _ _ _) (by rw [wr_o _ _ (by omega)]; exact h2) (by omega) (by omega), wr_wr]
theorem r_aside (D : dT) : F_X6_putAside D = some (0, wr D 380 (cpR (D 380) (D 379) 0 244)) :=
  r_aside_l (D 380) (D 379) 244 0 lim D (by rw [cpR_0]) rfl (by omega) (by decide)
theorem r_back_l (u s : Nat → Int32) : ∀ m k fuel (D : dT), D 379 = cpR u s 0 k → D 380 = s → k + m = 244 → m < fuel → F_X6_takeBack_2 fuel (nI k) D = some (0, wr D 379 (cpR u s 0 244)) := by
  intro m
  induction m with
  | zero =>
    intro k fuel D h1 h2 hk hf
    obtain ⟨f, rfl⟩ := Nat.exists_eq_add_of_lt hf
    have e : k = 244 := by omega
    subst e
    rw [show 0 + f + 1 = f + 1 by omega, F_X6_takeBack_2, if_pos (by decide), wr_eq h1]
  | succ m ih =>
    intro k fuel D h1 h2 hk hf
    obtain ⟨f, rfl⟩ := Nat.exists_eq_add_of_lt hf
    have e := cpR_s u s 0 k
    rw [Nat.zero_add] at e
    rw [F_X6_takeBack_2, if_neg (by rw [show (244 : Int32) = nI 244 from rfl]; exact nI_ge (by omega) (by omega)), if_pos (inRn (by omega) (by omega)), if_pos (inRn (by omega) (by omega)), nI_clamp (by omega), nI_1, wr_up, h1, h2, e]
    rw [ih (k + 1) _ _ (wr_s _ _ _) (by rw [wr_o _ _ (by omega)]; exact h2) (by omega) (by omega), wr_wr]
theorem r_back (D : dT) : F_X6_takeBack D = some (0, wr D 379 (cpR (D 379) (D 380) 0 244)) :=
  r_back_l (D 379) (D 380) 244 0 lim D (by rw [cpR_0]) rfl (by omega) (by decide)
theorem r_undo_l (s u : Nat → Int32) {c : Nat} (hc : c < 6) : ∀ m k fuel (D : dT), D 379 = cpR s (fun j => u (244 * c + j)) 0 k → D 381 = u → D 378 4 = nI c → k + m = 244 → m < fuel → F_X6_undo_27 fuel (nI k) D = some (nI c, wr D 379 (cpR s (fun j => u (244 * c + j)) 0 244)) := by
  intro m
  induction m with
  | zero =>
    intro k fuel D h1 h2 h3 hk hf
    obtain ⟨f, rfl⟩ := Nat.exists_eq_add_of_lt hf
    have e : k = 244 := by omega
    subst e
    rw [show 0 + f + 1 = f + 1 by omega, F_X6_undo_27, if_pos (by decide), wr_eq h1, h3]
  | succ m ih =>
    intro k fuel D h1 h2 h3 hk hf
    obtain ⟨f, rfl⟩ := Nat.exists_eq_add_of_lt hf
    have e2 : (244 : Int32) * nI c + nI k = nI (244 * c + k) := by rw [show (244 : Int32) = nI 244 from rfl, pk_mul, nI_add]
    have e := cpR_s s (fun j => u (244 * c + j)) 0 k
    rw [Nat.zero_add] at e
    rw [F_X6_undo_27, if_neg (by rw [show (244 : Int32) = nI 244 from rfl]; exact nI_ge (by omega) (by omega)), h3, e2, if_pos (inRn (by omega) (by omega)), if_pos (inRn (by omega) (by omega)), nI_clamp (by omega), nI_clamp (by omega), nI_1, wr_up, h1, h2, e]
    rw [ih (k + 1) _ _ (wr_s _ _ _) (by rw [wr_o _ _ (by omega)]; exact h2) (by rw [wr_o _ _ (by omega)]; exact h3) (by omega) (by omega), wr_wr]
theorem r_save_l (w s : Nat → Int32) {x : Int32} {t : Nat} (hx : x = nI t) (ht : t < 2) : ∀ m k fuel (D : dT), D 382 = cpR w s (244 * t) k → D 379 = s → k + m = 244 → m < fuel → F_X6_save_19 fuel x (nI k) D = some (s 6, up2 (wr D 382 (cpR w s (244 * t) 244)) 383 t 1) := by
  intro m
  induction m with
  | zero =>
    intro k fuel D h1 h2 hk hf
    obtain ⟨f, rfl⟩ := Nat.exists_eq_add_of_lt hf
    have e : k = 244 := by omega
    subst e
    rw [show 0 + f + 1 = f + 1 by omega, F_X6_save_19, if_pos (by decide), hx, if_pos (inRn ht (by omega)), if_pos c6, nI_clamp (by omega), t6, wr_eq h1, up2_o D _ _ (by omega), h2]
  | succ m ih =>
    intro k fuel D h1 h2 hk hf
    obtain ⟨f, rfl⟩ := Nat.exists_eq_add_of_lt hf
    have e : (244 : Int32) * nI t + nI k = nI (244 * t + k) := by rw [show (244 : Int32) = nI 244 from rfl, pk_mul, nI_add]
    rw [F_X6_save_19, if_neg (by rw [show (244 : Int32) = nI 244 from rfl]; exact nI_ge (by omega) (by omega)), if_pos (inRn (by omega) (by omega)), hx, e, if_pos (inRn (by omega) (by omega)), nI_clamp (by omega), nI_clamp (by omega), nI_1, wr_up, h1, h2, cpR_s, ← hx]
    rw [ih (k + 1) _ _ (wr_s _ _ _) (by rw [wr_o _ _ (by omega)]; exact h2) (by omega) (by omega), wr_wr]
theorem r_rest9_l (s w : Nat → Int32) {x : Int32} {t : Nat} (hx : x = nI t) (ht : t < 2) : ∀ m k fuel (D : dT), D 379 = cpR s (fun j => w (244 * t + j)) 0 k → D 382 = w → k + m = 244 → m < fuel → F_X6_restore_35 fuel x (nI k) D = some (w (244 * t + 6), wr D 379 (cpR s (fun j => w (244 * t + j)) 0 244)) := by
  intro m
  induction m with
  | zero =>
    intro k fuel D h1 h2 hk hf
    obtain ⟨f, rfl⟩ := Nat.exists_eq_add_of_lt hf
    have e : k = 244 := by omega
    subst e
    rw [show 0 + f + 1 = f + 1 by omega, F_X6_restore_35, if_pos (by decide), if_pos c6, t6, wr_eq h1, h1]
    rfl
  | succ m ih =>
    intro k fuel D h1 h2 hk hf
    obtain ⟨f, rfl⟩ := Nat.exists_eq_add_of_lt hf
    have e2 : (244 : Int32) * nI t + nI k = nI (244 * t + k) := by rw [show (244 : Int32) = nI 244 from rfl, pk_mul, nI_add]
    have e := cpR_s s (fun j => w (244 * t + j)) 0 k
    rw [Nat.zero_add] at e
    rw [F_X6_restore_35, if_neg (by rw [show (244 : Int32) = nI 244 from rfl]; exact nI_ge (by omega) (by omega)), hx, e2, if_pos (inRn (by omega) (by omega)), if_pos (inRn (by omega) (by omega)), nI_clamp (by omega), nI_clamp (by omega), nI_1, wr_up, h1, h2, e, ← hx]
    rw [ih (k + 1) _ _ (wr_s _ _ _) (by rw [wr_o _ _ (by omega)]; exact h2) (by omega) (by omega), wr_wr]
/-- the job that somebody is at -/
def jobU (s : Nat → Int32) (p : Nat) : Nat → Int32
  | 0 => -6
  | j + 1 => if HOW s j = 1 ∧ bt (CRW s j) p = true then nI j else jobU s p j
theorem jobU_s (s : Nat → Int32) (p j : Nat) : jobU s p (j + 1) = if HOW s j = 1 ∧ bt (CRW s j) p = true then nI j else jobU s p j := rfl
theorem r_jobOf_l (D : dT) {J : Nat} (hJ : D 379 6 = nI J) (h16 : J ≤ 16) (p : Nat) (hp : p < 32) : ∀ m k fuel, k + m = J → m < fuel → F_X6_jobOf_5 fuel (nI p) (jobU (D 379) p k) (nI k) D = some (jobU (D 379) p J, D) := by
  intro m
  induction m with
  | zero =>
    intro k fuel hk hf
    obtain ⟨f, rfl⟩ := Nat.exists_eq_add_of_lt hf
    rw [show 0 + f + 1 = f + 1 by omega, F_X6_jobOf_5, if_pos c6, t6, hJ, if_pos (nI_le (by omega) (by omega)), show k = J by omega]
  | succ m ih =>
    intro k fuel hk hf
    obtain ⟨f, rfl⟩ := Nat.exists_eq_add_of_lt hf
    have hi := ih (k + 1) (m + 1 + f) (by omega) (by omega)
    rw [F_X6_jobOf_5, if_pos c6, t6, hJ, if_neg (nI_ge (by omega) (by omega)), r_ofJobs D 5 k 5 rfl rfl (by omega) (by omega), bd_some]
    unfold F_X6_jobOf_45 F_X6_jobOf_46
    rw [nI_1]
    rw [jobU_s] at hi
    by_cases h : HOW (D 379) k = 1
    · rw [if_pos (show D 379 (52 + 12 * k + 5) = 1 from h), r_ofJobs D 7 k 7 rfl rfl (by omega) (by omega), bd_some, sh_bit _ p hp]
      cases hb : bt (CRW (D 379) k) p
      · rw [if_neg (by decide)]
        rw [if_neg (fun z => by rw [hb] at z; cases z.2)] at hi
        exact hi
      · rw [if_pos (by decide)]
        rw [if_pos ⟨h, hb⟩] at hi
        exact hi
    · rw [if_neg (show ¬ D 379 (52 + 12 * k + 5) = 1 from h)]
      rw [if_neg (fun z => h z.1)] at hi
      exact hi
def jobV (s : Nat → Int32) (J p : Nat) : Int32 := jobU s p J
theorem r_jobOf (D : dT) {J : Nat} (hJ : D 379 6 = nI J) (h16 : J ≤ 16) {x : Int32} (p : Nat) (hx : x = nI p) (hp : p < 32) : F_X6_jobOf x D = some (jobV (D 379) J p, D) := by
  subst hx
  exact r_jobOf_l D hJ h16 p hp J 0 lim (by omega) (lim_lt (by omega))
/-- late -/
def latV (s : Nat → Int32) (j : Nat) : Int32 := if HOW s j = 2 then (if s (52 + 12 * j + 11) ≤ s (52 + 12 * j + 4) then 0 else 1) else if 2 ≤ HOW s j then 0 else if s 4 ≤ s (52 + 12 * j + 4) then 0 else 1
theorem r_late (D : dT) {x : Int32} (j : Nat) (hx : x = nI j) (hj : j < 16) : F_X6_isLate x D = some (latV (D 379) j, D) := by
  unfold F_X6_isLate latV
  rw [r_ofJobs D 5 j 5 hx rfl hj (by omega), bd_some]
  by_cases h : HOW (D 379) j = 2
  · rw [if_pos (show D 379 (52 + 12 * j + 5) = 2 from h), if_pos h, r_ofJobs D 11 j 11 hx rfl hj (by omega), bd_some, r_ofJobs D 4 j 4 hx rfl hj (by omega), bd_some]
    split <;> rfl
  · rw [if_neg (show ¬ D 379 (52 + 12 * j + 5) = 2 from h), if_neg h]
    by_cases h2 : 2 ≤ HOW (D 379) j
    · rw [if_pos (show 2 ≤ D 379 (52 + 12 * j + 5) from h2), if_pos h2]
    · rw [if_neg (show ¬ 2 ≤ D 379 (52 + 12 * j + 5) from h2), if_neg h2, if_pos c4, t4, r_ofJobs D 4 j 4 hx rfl hj (by omega), bd_some]
      split <;> rfl
/-- sets of jobs -/
def thtU (s : Nat → Int32) (h : Int32) : Nat → Int32
  | 0 => 0
  | j + 1 => thtU s h j ||| (if (if h = 3 then ¬ latV s j = 0 else HOW s j = h) then (1 : Int32) <<< (nI j &&& 31) else 0)
theorem thtU_s (s : Nat → Int32) (h : Int32) (j : Nat) : thtU s h (j + 1) = thtU s h j ||| (if (if h = 3 then ¬ latV s j = 0 else HOW s j = h) then (1 : Int32) <<< (nI j &&& 31) else 0) := rfl
theorem r_tht_l (D : dT) {J : Nat} (hJ : D 379 6 = nI J) (h16 : J ≤ 16) (x : Int32) : ∀ m k fuel, k + m = J → m < fuel → F_X6_jobsThat_4 fuel x (thtU (D 379) x k) (nI k) D = some (thtU (D 379) x J, D) := by
  intro m
  induction m with
  | zero =>
    intro k fuel hk hf
    obtain ⟨f, rfl⟩ := Nat.exists_eq_add_of_lt hf
    rw [show 0 + f + 1 = f + 1 by omega, F_X6_jobsThat_4, if_pos c6, t6, hJ, if_pos (nI_le (by omega) (by omega)), show k = J by omega]
  | succ m ih =>
    intro k fuel hk hf
    obtain ⟨f, rfl⟩ := Nat.exists_eq_add_of_lt hf
    have hi := ih (k + 1) (m + 1 + f) (by omega) (by omega)
    rw [F_X6_jobsThat_4, if_pos c6, t6, hJ, if_neg (nI_ge (by omega) (by omega))]
    unfold F_X6_jobsThat_43 F_X6_jobsThat_58
    rw [nI_1]
    rw [thtU_s] at hi
    have z1 : ¬ (1 : Int32) = 0 := by decide
    by_cases h3 : x = 3
    · rw [if_pos h3, r_late D k rfl (by omega), bd_some]
      by_cases h4 : latV (D 379) k = 0
      · rw [if_pos h4]
        rw [if_neg (by rw [if_pos h3]; exact fun z => z h4)] at hi
        exact hi
      · rw [if_neg h4]
        rw [if_pos (by rw [if_pos h3]; exact h4)] at hi
        exact hi
    · rw [if_neg h3, r_ofJobs D 5 k 5 rfl rfl (by omega) (by omega), bd_some]
      by_cases h4 : HOW (D 379) k = x
      · rw [if_pos (show D 379 (52 + 12 * k + 5) = x from h4), if_neg z1]
        rw [if_pos (by rw [if_neg h3]; exact h4)] at hi
        exact hi
      · rw [if_neg (show ¬ D 379 (52 + 12 * k + 5) = x from h4), if_pos rfl]
        rw [if_neg (by rw [if_neg h3]; exact h4)] at hi
        exact hi
def thtV (s : Nat → Int32) (J : Nat) (h : Int32) : Int32 := thtU s h J
theorem r_tht (D : dT) {J : Nat} (hJ : D 379 6 = nI J) (h16 : J ≤ 16) (x : Int32) : F_X6_jobsThat x D = some (thtV (D 379) J x, D) := r_tht_l D hJ h16 x J 0 lim (by omega) (lim_lt (by omega))
