/-! the reference: copies of its array, lists of jobs -/
/-- n places of f laid into g from off on -/
def cpR (g f : Nat → Int32) (off n : Nat) : Nat → Int32 := fun j => if off ≤ j ∧ j < off + n then f (j - off) else g j
theorem cpR_0 (g f : Nat → Int32) (off : Nat) : cpR g f off 0 = g := by
  funext j
  exact if_neg (by omega)
theorem cpR_s (g f : Nat → Int32) (off n : Nat) : upd (cpR g f off n) (off + n) (f n) = cpR g f off (n + 1) := by
  funext j
  unfold upd cpR
  by_cases h : j = off + n
  · subst h
    rw [if_pos rfl, if_pos (by omega)]
    congr 1; omega
  · rw [if_neg h]
    by_cases h2 : off ≤ j ∧ j < off + n
    · rw [if_pos h2, if_pos (by omega)]
    · rw [if_neg h2, if_neg (by omega)]
theorem cpR_in (g f : Nat → Int32) {off n j : Nat} (h : j < n) : cpR g f off n (off + j) = f j := by
  unfold cpR
  rw [if_pos (by omega)]
  congr 1; omega
theorem cpR_out (g f : Nat → Int32) {off n j : Nat} (h : j < off ∨ off + n ≤ j) : cpR g f off n j = g j := if_neg (by omega)
/-- a row of D -/
def wr (D : dT) (q : Nat) (f : Nat → Int32) : dT := va_up D q f
theorem wr_s (D : dT) (q : Nat) (f : Nat → Int32) : wr D q f q = f := up_self _ _ _
theorem wr_o (D : dT) {q i : Nat} (f : Nat → Int32) (h : i ≠ q) : wr D q f i = D i := up_ne _ _ h
theorem wr_wr (D : dT) (q : Nat) (f g : Nat → Int32) : wr (wr D q f) q g = wr D q g := by
  funext i
  by_cases h : i = q
  · subst h; rw [wr_s, wr_s]
  · rw [wr_o _ _ h, wr_o _ _ h, wr_o _ _ h]
theorem wr_id (D : dT) (q : Nat) : wr D q (D q) = D := by
  funext i
  by_cases h : i = q
  · subst h; rw [wr_s]
  · rw [wr_o _ _ h]
theorem wr_up (D : dT) (q k : Nat) (v : Int32) : up2 D q k v = wr D q (upd (D q) k v) := by
  funext i j
  by_cases h : i = q
  · subst h
    rw [wr_s]
    unfold up2 upd
    by_cases h2 : j = k
    · rw [if_pos ⟨rfl, h2⟩, if_pos h2]
    · rw [if_neg (fun z => h2 z.2), if_neg h2]
  · rw [wr_o _ _ h]
    exact up2_ne D v (fun z => h z.1)
theorem ws_wr (D : dT) (f : Nat → Int32) : ws D f = wr D 379 f := rfl
theorem wr_eq {D : dT} {q : Nat} {f : Nat → Int32} (h : D q = f) : wr D q f = D := by rw [← h]; exact wr_id D q
def shU (u : Nat → Int32) (k : Nat) : Nat → Int32 := fun j => if j < k then u (j + 244) else u j
theorem shU_s (u : Nat → Int32) (k : Nat) : upd (shU u k) k (shU u k (k + 244)) = shU u (k + 1) := by
  funext j
  unfold upd shU
  by_cases h : j = k
  · subst h
    rw [if_pos rfl, if_neg (by omega), if_pos (by omega)]
  · rw [if_neg h]
    by_cases h2 : j < k
    · rw [if_pos h2, if_pos (by omega)]
    · rw [if_neg h2, if_neg (by omega)]
/-- the kept states behind a recording -/
def recU (u s : Nat → Int32) (c : Nat) : Nat → Int32 := if c = 6 then cpR (shU u 1220) s 1220 244 else cpR u s (244 * c) 244
def recN (c : Nat) : Nat := if c = 6 then 6 else c + 1
def recD (D : dT) (c : Nat) : dT := wr (wr D 381 (recU (D 381) (D 379) c)) 378 (upd (D 378) 4 (nI (recN c)))
/-- the job that somebody is at -/
def jobU (s : Nat → Int32) (p : Nat) : Nat → Int32
  | 0 => -6
  | j + 1 => if HOW s j = 1 ∧ bt (CRW s j) p = true then nI j else jobU s p j
theorem jobU_s (s : Nat → Int32) (p j : Nat) : jobU s p (j + 1) = if HOW s j = 1 ∧ bt (CRW s j) p = true then nI j else jobU s p j := rfl
def jobV (s : Nat → Int32) (J p : Nat) : Int32 := jobU s p J
/-- late -/
def latV (s : Nat → Int32) (j : Nat) : Int32 := if HOW s j = 2 then (if s (52 + 12 * j + 11) ≤ s (52 + 12 * j + 4) then 0 else 1) else if 2 ≤ HOW s j then 0 else if s 4 ≤ s (52 + 12 * j + 4) then 0 else 1
/-- sets of jobs -/
def thtU (s : Nat → Int32) (h : Int32) : Nat → Int32
  | 0 => 0
  | j + 1 => thtU s h j ||| (if (if h = 3 then ¬ latV s j = 0 else HOW s j = h) then (1 : Int32) <<< (nI j &&& 31) else 0)
theorem thtU_s (s : Nat → Int32) (h : Int32) (j : Nat) : thtU s h (j + 1) = thtU s h j ||| (if (if h = 3 then ¬ latV s j = 0 else HOW s j = h) then (1 : Int32) <<< (nI j &&& 31) else 0) := rfl
def thtV (s : Nat → Int32) (J : Nat) (h : Int32) : Int32 := thtU s h J