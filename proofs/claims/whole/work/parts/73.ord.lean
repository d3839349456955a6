/-! an order's text as a value: where the reading stands behind it, and the order itself -/
def rw6 (v0 v1 v2 v3 v4 v5 : Int32) : Nat → Int32 := fun k => if k = 0 then v0 else if k = 1 then v1 else if k = 2 then v2 else if k = 3 then v3 else if k = 4 then v4 else v5
def sNum (ch : Nat → Nat) (f a : Nat) (k : Nat → Nat → R8) : R8 := if isDg (ch a) then k (numL ch f (ch a - 48) (a + 1)).1 (numL ch f (ch a - 48) (a + 1)).2 else (a, none)
def sChr (ch : Nat → Nat) (s a : Nat) (k : Nat → R8) : R8 := if ch a = s then k (a + 1) else (a, none)
def crL (ch : Nat → Nat) : Nat → Int32 → Nat → Int32 × Nat
  | 0, c, a => (c, a)
  | f + 1, c, a => if isDg (ch a) then crL ch f (c ||| ((1 : Int32) <<< (nI (ch a - 48) &&& 31))) (a + 1) else (c, a)
def sKnd (ch : Nat → Nat) (v : Nat) (c : Int32) (p : Nat) : R8 := if ch p = 43 then (if isDg (ch (p + 1)) then (p + 2, some (rw6 103 (nI v) c (nI (ch (p + 1) - 48)) 0 0)) else (p + 1, none)) else (p, some (rw6 103 (nI v) c (-6) 0 0))
def sCrw (ch : Nat → Nat) (v p : Nat) : R8 := if isDg (ch p) then sKnd ch v (crL ch 80 0 p).1 (crL ch 80 0 p).2 else (p, none)
def ord (ch : Nat → Nat) (a : Nat) : R8 :=
  if ch a = 97 then (a + 1, some (rw6 97 0 0 0 0 0))
  else if ch a = 100 then sNum ch 2 (a + 1) fun v p => sChr ch 43 p fun p => sNum ch 2 p fun v2 p => (p, some (rw6 100 (nI v) (nI v2) 0 0 0))
  else if ch a = 103 then sNum ch 2 (a + 1) fun v p => sChr ch 58 p fun p => sCrw ch v p
  else if ch a = 106 then sNum ch 2 (a + 1) fun v p => sChr ch 44 p fun p => sNum ch 0 p fun v2 p => sChr ch 44 p fun p => sNum ch 0 p fun v3 p => sChr ch 44 p fun p => sNum ch 0 p fun v4 p => sChr ch 44 p fun p => sNum ch 2 p fun v5 p => (p, some (rw6 106 (nI v) (nI v2) (nI v3) (nI v4) (nI v5)))
  else if ch a = 110 ∨ ch a = 119 ∨ ch a = 120 then sNum ch 2 (a + 1) fun v p => (p, some (rw6 (nI (ch a)) (nI v) 0 0 0 0))
  else (a, none)
/-- the row q holds the order o -/
def relO (q o : Nat → Int32) : Prop := q 0 = o 0 ∧ (o 0 = 97 ∨ (o 0 = 110 ∨ o 0 = 119 ∨ o 0 = 120) ∧ q 1 = o 1 ∨ o 0 = 100 ∧ q 1 = o 1 ∧ q 2 = o 2 ∨ o 0 = 103 ∧ q 1 = o 1 ∧ q 2 = o 2 ∧ q 3 = o 3 ∨ o 0 = 106 ∧ q 1 = o 1 ∧ q 2 = o 2 ∧ q 3 = o 3 ∧ q 4 = o 4 ∧ q 5 = o 5)
/-- the class's fields hold the order o -/
def hO (n : Nat) (sg cr kd : Int32) (nu o : Nat → Int32) : Prop := sg = o 0 ∧ n ≤ 5 ∧ (o 0 = 97 ∨ (o 0 = 110 ∨ o 0 = 119 ∨ o 0 = 120) ∧ n = 1 ∧ nu 0 = o 1 ∨ o 0 = 100 ∧ n = 2 ∧ nu 0 = o 1 ∧ nu 1 = o 2 ∨ o 0 = 103 ∧ n = 1 ∧ nu 0 = o 1 ∧ cr = o 2 ∧ kd = o 3 ∨ o 0 = 106 ∧ n = 5 ∧ nu 0 = o 1 ∧ nu 1 = o 2 ∧ nu 2 = o 3 ∧ nu 3 = o 4 ∧ nu 4 = o 5)
theorem rw6_0 (a b c d e f : Int32) : rw6 a b c d e f 0 = a := rfl
theorem rw6_1 (a b c d e f : Int32) : rw6 a b c d e f 1 = b := rfl
theorem rw6_2 (a b c d e f : Int32) : rw6 a b c d e f 2 = c := rfl
theorem rw6_3 (a b c d e f : Int32) : rw6 a b c d e f 3 = d := rfl
theorem rw6_4 (a b c d e f : Int32) : rw6 a b c d e f 4 = e := rfl
theorem rw6_5 (a b c d e f : Int32) : rw6 a b c d e f 5 = f := rfl
/-- the JDK's part: a text's length, its characters, a place of a sign -/
theorem j_len (k : Nat) (D : dT) : F_J0_length_8abf5 k D = some (Int32.ofNat (tLen.getD (k - 4) 0) >>> ((0 : Int32) &&& 31), D) := by
  unfold F_J0_length_8abf5 F_J0_coder_7d493
  rw [if_neg o10, if_pos (by decide), bd_some]
theorem j_len0 (D : dT) : F_J0_length_8abf5 5 D = some (nI 0, D) := (j_len 5 D).trans (congrArg (fun z => some (z, D)) (by decide))
theorem j_len1 (D : dT) : F_J0_length_8abf5 6 D = some (nI 3, D) := (j_len 6 D).trans (congrArg (fun z => some (z, D)) (by decide))
theorem j_len2 (D : dT) : F_J0_length_8abf5 7 D = some (nI 2, D) := (j_len 7 D).trans (congrArg (fun z => some (z, D)) (by decide))
theorem j_len3 (D : dT) : F_J0_length_8abf5 8 D = some (nI 9, D) := (j_len 8 D).trans (congrArg (fun z => some (z, D)) (by decide))
theorem j_len4 (D : dT) : F_J0_length_8abf5 9 D = some (nI 1, D) := (j_len 9 D).trans (congrArg (fun z => some (z, D)) (by decide))
theorem j_d0 (D : dT) : F_J0_charAt_5068e 6 (nI 0) D = some (78, D) := rfl
theorem j_d1 (D : dT) : F_J0_charAt_5068e 6 (nI 1) D = some (nI 43, D) := rfl
theorem j_d2 (D : dT) : F_J0_charAt_5068e 6 (nI 2) D = some (78, D) := rfl
theorem j_g0 (D : dT) : F_J0_charAt_5068e 7 (nI 0) D = some (78, D) := rfl
theorem j_g1 (D : dT) : F_J0_charAt_5068e 7 (nI 1) D = some (nI 58, D) := rfl
theorem j_j0 (D : dT) : F_J0_charAt_5068e 8 (nI 0) D = some (78, D) := rfl
theorem j_j1 (D : dT) : F_J0_charAt_5068e 8 (nI 1) D = some (nI 44, D) := rfl
theorem j_j2 (D : dT) : F_J0_charAt_5068e 8 (nI 2) D = some (68, D) := rfl
theorem j_j3 (D : dT) : F_J0_charAt_5068e 8 (nI 3) D = some (nI 44, D) := rfl
theorem j_j4 (D : dT) : F_J0_charAt_5068e 8 (nI 4) D = some (68, D) := rfl
theorem j_j5 (D : dT) : F_J0_charAt_5068e 8 (nI 5) D = some (nI 44, D) := rfl
theorem j_j6 (D : dT) : F_J0_charAt_5068e 8 (nI 6) D = some (68, D) := rfl
theorem j_j7 (D : dT) : F_J0_charAt_5068e 8 (nI 7) D = some (nI 44, D) := rfl
theorem j_j8 (D : dT) : F_J0_charAt_5068e 8 (nI 8) D = some (78, D) := rfl
theorem j_n0 (D : dT) : F_J0_charAt_5068e 9 (nI 0) D = some (78, D) := rfl
def ixV (x : Int32) : Int32 := if (119 : Int32) = x then 0 else if (106 : Int32) = x then 1 else if (103 : Int32) = x then 2 else if (100 : Int32) = x then 3 else if (120 : Int32) = x then 4 else if (97 : Int32) = x then 5 else if (110 : Int32) = x then 6 else -1
theorem j_ixL (x x2 : Int32) (D : dT) (fu : Nat) : F_J1_indexOfChar_4cfef_7 (fu + 8) 4 x2 0 7 x 0 D = some (ixV x, D) := by
  unfold ixV
  have st : ∀ (i : Nat) (c : Int32) (f : Nat), i < 7 → (tByt.getD (4 + 6 - 10) []).getD i 0 = c → F_J1_indexOfChar_4cfef_7 (f + 1) 4 x2 0 7 x (nI i) D = if c = x then some (nI i, D) else F_J1_indexOfChar_4cfef_7 f 4 x2 0 7 x (nI (i + 1)) D := by
    intro i c f hi hc
    unfold F_J1_indexOfChar_4cfef_7
    rw [if_neg (show ¬ (7 : Int32) ≤ nI i from nI_ge (b := 7) (by omega) (by omega))]
    have h7 : inR (nI i) (tLen.getD (4 - 4) 0) := inRn (show i < 7 from hi) (by decide)
    simp only [if_pos h7, nI_clamp (show i < 2 ^ 31 by omega)]
    rw [hc, nI_1]
    cases f <;> rfl
  have s0 := st 0 119 (fu + 7) (by omega) rfl
  have s1 := st 1 106 (fu + 6) (by omega) rfl
  have s2 := st 2 103 (fu + 5) (by omega) rfl
  have s3 := st 3 100 (fu + 4) (by omega) rfl
  have s4 := st 4 120 (fu + 3) (by omega) rfl
  have s5 := st 5 97 (fu + 2) (by omega) rfl
  have s6 := st 6 110 (fu + 1) (by omega) rfl
  have s7 : F_J1_indexOfChar_4cfef_7 (fu + 1) 4 x2 0 7 x (nI 7) D = some (-1, D) := by
    unfold F_J1_indexOfChar_4cfef_7
    rw [if_pos (by decide)]
  show F_J1_indexOfChar_4cfef_7 (fu + 7 + 1) 4 x2 0 7 x (nI 0) D = _
  rw [s0]
  split
  · rfl
  · rw [s1]
    split
    · rfl
    · rw [s2]
      split
      · rfl
      · rw [s3]
        split
        · rfl
        · rw [s4]
          split
          · rfl
          · rw [s5]
            split
            · rfl
            · rw [s6]
              split
              · rfl
              · rw [s7]
theorem j_can (c : Nat) (hc : c ≤ 126) (D : dT) : F_J1_canEncode_9a6ad (nI c) D = some (1, D) := by
  unfold F_J1_canEncode_9a6ad
  rw [if_neg (nI_pos (by omega)), if_neg (show ¬ (255 : Int32) < nI c from nI_nlt (b := c) (a := 255) (by omega) (by omega))]
theorem j_b8 : ∀ c, c ≤ 126 → (nI c).toInt8.toInt32 = nI c := by decide +kernel
theorem j_c16 : ∀ c, c ≤ 126 → ((nI c).toUInt32 % 65536).toInt32 = nI c := by decide +kernel
theorem j_ix {c : Nat} (hc : c ≤ 126) (D : dT) : F_J0_indexOf_0f7a4 4 (nI c) D = some (ixV (nI c), D) := by
  unfold F_J0_indexOf_0f7a4 F_J0_indexOf_7cf53
  rw [show F_J0_isLatin1_aae02 4 D = some (1, D) from rfl, bd_some, if_neg o10, show F_J0_length_8abf5 4 D = some (7, D) from (j_len 4 D).trans (congrArg (fun z => some (z, D)) (by decide)), bd_some]
  unfold F_J1_indexOf_4cfef
  rw [j_can c hc, bd_some, if_neg o10, if_pos (by decide), show (if (Int32.ofNat (tLen.getD (4 - 4) 0)) < 7 then (Int32.ofNat (tLen.getD (4 - 4) 0)) else (7 : Int32)) = 7 from rfl, show (if (0 : Int32) < (0 : Int32) then (0 : Int32) else 0) = 0 from rfl]
  unfold F_J1_indexOfChar_4cfef
  rw [j_b8 c hc, show lim = 99992 + 8 from rfl, j_ixL, bd_some, bd_some, bd_some]
theorem ixV_ge : ∀ c, c ≤ 126 → (0 ≤ ixV (nI c) ↔ (c = 97 ∨ c = 100 ∨ c = 103 ∨ c = 106 ∨ c = 110 ∨ c = 119 ∨ c = 120)) := by decide +kernel
