/-! the reference: reasons, crews, straps, beginnings -/
def ws (D : dT) (s : Nat → Int32) : dT := va_up D 379 s
theorem ws_s (D : dT) (s : Nat → Int32) : ws D s 379 = s := up_self _ _ _
theorem ws_o (D : dT) (s : Nat → Int32) {i : Nat} (h : i ≠ 379) : ws D s i = D i := up_ne _ _ h
theorem ws_ws (D : dT) (s s' : Nat → Int32) : ws (ws D s) s' = ws D s' := by
  funext i
  by_cases h : i = 379
  · subst h; rw [ws_s, ws_s]
  · rw [ws_o _ _ h, ws_o _ _ h, ws_o _ _ h]
theorem ws_id (D : dT) : ws D (D 379) = D := by
  funext i
  by_cases h : i = 379
  · subst h; rw [ws_s]
  · rw [ws_o _ _ h]
theorem ws_up (D : dT) (k : Nat) (v : Int32) : up2 D 379 k v = ws D (upd (D 379) k v) := by
  funext i j
  by_cases h : i = 379
  · subst h
    rw [ws_s]
    unfold up2 upd
    by_cases h2 : j = k
    · rw [if_pos ⟨rfl, h2⟩, if_pos h2]
    · rw [if_neg (fun z => h2 z.2), if_neg h2]
  · rw [ws_o _ _ h]
    exact up2_ne D v (fun z => h z.1)
abbrev HOW (s : Nat → Int32) (j : Nat) : Int32 := s (52 + 12 * j + 5)
abbrev CRW (s : Nat → Int32) (j : Nat) : Int32 := s (52 + 12 * j + 7)
def reasonV (s : Nat → Int32) (P J j : Nat) (c k : Int32) : Int32 :=
  if ¬ HOW s j = 0 then 1 else if c ≤ 0 ∨ (1 : Int32) <<< (nI P &&& 31) ≤ c ∨ s 3 < onesV c then 2 else if ¬ c &&& busyV s J = 0 then 3 else if ¬ canV s J j k then 4 else if strV s P c < loadV s j k then 5 else 0
/-- the crew by itself: h more people at most -/
def grd (s : Nat → Int32) (P : Nat) (b load : Int32) : Nat → Int32 → Int32
  | 0, _ => -6
  | h + 1, c => if stgV s P (b ||| c) = -6 then -6 else if load ≤ strV s P (c ||| ((1 : Int32) <<< (stgV s P (b ||| c) &&& 31))) then c ||| ((1 : Int32) <<< (stgV s P (b ||| c) &&& 31)) else grd s P b load h (c ||| ((1 : Int32) <<< (stgV s P (b ||| c) &&& 31)))
theorem grd_s (s : Nat → Int32) (P : Nat) (b load : Int32) (h : Nat) (c : Int32) : grd s P b load (h + 1) c = if stgV s P (b ||| c) = -6 then -6 else if load ≤ strV s P (c ||| ((1 : Int32) <<< (stgV s P (b ||| c) &&& 31))) then c ||| ((1 : Int32) <<< (stgV s P (b ||| c) &&& 31)) else grd s P b load h (c ||| ((1 : Int32) <<< (stgV s P (b ||| c) &&& 31))) := rfl
theorem cnt_or (c : Int32) {q : Nat} (hq : q < 32) (hb : bt c q = false) : ∀ n, n ≤ 32 → cntB (c ||| ((1 : Int32) <<< (nI q &&& 31))) n = cntB c n + (if q < n then 1 else 0) := by
  intro n
  induction n with
  | zero => intro _; rfl
  | succ n ih =>
    intro hn
    rw [cntB_s, cntB_s, ih (by omega), b_or, sh_one hq (by omega)]
    by_cases h : n = q
    · subst h
      rw [hb]
      simp
    · by_cases h2 : q < n
      · rw [if_pos h2, if_pos (by omega : q < n + 1)]
        simp [h]; omega
      · rw [if_neg h2, if_neg (by omega : ¬ q < n + 1)]
        simp [h]
theorem cnt_le (c : Int32) : ∀ n, cntB c n ≤ n := by
  intro n
  induction n with
  | zero => exact Nat.le_refl _
  | succ n ih =>
    rw [cntB_s]
    split <;> omega
theorem or_f {x y : Bool} (h : (x || y) = false) : x = false ∧ y = false := by cases x <;> cases y <;> simp_all
def crewV (s : Nat → Int32) (P J j : Nat) (k : Int32) : Int32 :=
  if canV s J j k then grd s P (busyV s J) (loadV s j k) (s 3).toNatClampNeg 0 else -6
theorem bt_z (i : Nat) : bt 0 i = false := b_0 i
theorem strV_0 (s : Nat → Int32) : ∀ n, strU s 0 n = 0 := by
  intro n
  induction n with
  | zero => rfl
  | succ n ih =>
    rw [strU_s, ih, bt_z, if_neg (by decide)]
    rfl
theorem cnt_0 : ∀ n, cntB 0 n = 0 := by
  intro n
  induction n with
  | zero => rfl
  | succ n ih => rw [cntB_s, ih, bt_z]; rfl
/-- the straps with the fewest people: after k tries -/
def kdV (k : Nat) : Int32 := if k = 0 then -6 else nI (k - 1)
def stpU (s : Nat → Int32) (P J j : Nat) : Nat → Int32 × Int32
  | 0 => (-6, 0)
  | k + 1 => if ¬ crewV s P J j (kdV k) = -6 ∧ ((stpU s P J j k).1 = -6 ∨ onesV (crewV s P J j (kdV k)) < (stpU s P J j k).2) then ((if k = 0 then 3 else nI (k - 1)), onesV (crewV s P J j (kdV k))) else stpU s P J j k
theorem stpU_p (s : Nat → Int32) (P J j k : Nat) (h : ¬ crewV s P J j (kdV k) = -6 ∧ ((stpU s P J j k).1 = -6 ∨ onesV (crewV s P J j (kdV k)) < (stpU s P J j k).2)) : stpU s P J j (k + 1) = ((if k = 0 then 3 else nI (k - 1)), onesV (crewV s P J j (kdV k))) := if_pos h
theorem stpU_n (s : Nat → Int32) (P J j k : Nat) (h : ¬ (¬ crewV s P J j (kdV k) = -6 ∧ ((stpU s P J j k).1 = -6 ∨ onesV (crewV s P J j (kdV k)) < (stpU s P J j k).2))) : stpU s P J j (k + 1) = stpU s P J j k := if_neg h
def stpV (s : Nat → Int32) (P J j : Nat) : Int32 := (stpU s P J j 4).1
/-- a beginning -/
def begV (s : Nat → Int32) (j : Nat) (c k : Int32) : Nat → Int32 := upd (upd (upd (upd s (52 + 12 * j + 6) (loadV s j k)) (52 + 12 * j + 7) c) (52 + 12 * j + 8) k) (52 + 12 * j + 5) 1