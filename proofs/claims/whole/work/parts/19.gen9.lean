def F_X6_strongestBut_61 (x1 : Int32) (k5 : Int32 → Int32 → dT → Option (Int32 × dT)) (v3 : Int32) (s0 : Int32) (D : dT) : Option (Int32 × dT) := k5 s0 (v3 + (1 : Int32)) D
def F_X6_strongestBut_56 (x1 : Int32) (k5 : Int32 → Int32 → dT → Option (Int32 × dT)) (v3 : Int32) (D : dT) : Option (Int32 × dT) := F_X6_strongestBut_61 x1 k5 v3 v3 D
def F_X6_strongestBut_60 (x1 : Int32) (k5 : Int32 → Int32 → dT → Option (Int32 × dT)) (v2 : Int32) (v3 : Int32) (D : dT) : Option (Int32 × dT) := F_X6_strongestBut_61 x1 k5 v3 v2 D
def F_X6_strongestBut_28 (x1 : Int32) (k5 : Int32 → Int32 → dT → Option (Int32 × dT)) (v2 : Int32) (v3 : Int32) (s0 : Int32) (D : dT) : Option (Int32 × dT) := if s0 = 0 then F_X6_strongestBut_60 x1 k5 v2 v3 D else if v2 = (-6 : Int32) then F_X6_strongestBut_56 x1 k5 v3 D else bd (F_X6_ofPerson v3 (1 : Int32) D) (fun (r1 : Int32) (D2 : dT) => bd (F_X6_ofPerson v2 (1 : Int32) D2) (fun (r3 : Int32) (D4 : dT) => if r1 ≤ r3 then F_X6_strongestBut_60 x1 k5 v2 v3 D4 else F_X6_strongestBut_56 x1 k5 v3 D4))
def F_X6_strongestBut_5 (fuel : Nat) (x1 : Int32)  (v2 : Int32) (v3 : Int32) (D : dT) : Option (Int32 × dT) := match fuel with
  | 0 => none
  | fu + 1 => if inR (5 : Int32) 244 then if (D 379 (5 : Int32).toNatClampNeg) ≤ v3 then some (v2, D) else if ((x1 >>> (v3 &&& 31)) &&& (1 : Int32)) = 0 then F_X6_strongestBut_28 x1 (fun (v2_ : Int32) (v3_ : Int32) (D_ : dT) => F_X6_strongestBut_5 fu x1 v2_ v3_ D_) v2 v3 (1 : Int32) D else F_X6_strongestBut_28 x1 (fun (v2_ : Int32) (v3_ : Int32) (D_ : dT) => F_X6_strongestBut_5 fu x1 v2_ v3_ D_) v2 v3 (0 : Int32) D else none
def F_X6_strongestBut (x1 : Int32) (D : dT) : Option (Int32 × dT) := F_X6_strongestBut_5 lim x1 (-6 : Int32) (0 : Int32) D
set_option maxRecDepth 20000 in
theorem e_X6_strongestBut_61 (l : Launch) (E : eE) (d : Nat) (x1 : Int32) (k5 : Int32 → Int32 → dT → Option (Int32 × dT)) (hk5 : ∀ (v2 : Int32) (v3 : Int32) (D : dT), ev l E (d + 1) yX6_strongestBut cX6_strongestBut 5 (some .int) 5 [(0, .inr (.inr 378)), (1, .inl x1), (2, .inl v2), (3, .inl v3)] [] D eI (k5 v2 v3 D)) (v3 : Int32) (s0 : Int32) (D : dT) : ev l E (d + 1) yX6_strongestBut cX6_strongestBut 5 (some .int) 61 [(0, .inr (.inr 378)), (1, .inl x1), (3, .inl v3)] [.inl s0] D eI (F_X6_strongestBut_61 x1 k5 v3 s0 D) := by
  unfold F_X6_strongestBut_61
  refine ev_s (fun Q k => rn_istore_n (j := 2) (ls' := [(2, .inl s0), (0, .inr (.inr 378)), (1, .inl x1), (3, .inl v3)]) rfl (by decide) rfl dX6_strongestBut_61 k) ?_
  refine ev_s (fun Q k => rn_iinc (v := (v3 + (1 : Int32))) (ls' := [(3, .inl (v3 + (1 : Int32))), (2, .inl s0), (0, .inr (.inr 378)), (1, .inl x1)]) 3 rfl rfl (by decide) rfl dX6_strongestBut_62 k) ?_
  refine ev_s (fun Q k => rn_goto (tgt := 5) dX6_strongestBut_65 (by decide) k) ?_
  refine ev_s (fun Q k => rn_sub (ls' := [(0, .inr (.inr 378)), (1, .inl x1), (2, .inl s0), (3, .inl (v3 + (1 : Int32)))]) [2, 3, 1, 0] rfl k) ?_
  exact hk5 s0 (v3 + (1 : Int32)) D

set_option maxRecDepth 20000 in
theorem e_X6_strongestBut_56 (l : Launch) (E : eE) (d : Nat) (x1 : Int32) (k5 : Int32 → Int32 → dT → Option (Int32 × dT)) (hk5 : ∀ (v2 : Int32) (v3 : Int32) (D : dT), ev l E (d + 1) yX6_strongestBut cX6_strongestBut 5 (some .int) 5 [(0, .inr (.inr 378)), (1, .inl x1), (2, .inl v2), (3, .inl v3)] [] D eI (k5 v2 v3 D)) (v3 : Int32) (D : dT) : ev l E (d + 1) yX6_strongestBut cX6_strongestBut 5 (some .int) 56 [(0, .inr (.inr 378)), (1, .inl x1), (3, .inl v3)] [] D eI (F_X6_strongestBut_56 x1 k5 v3 D) := by
  unfold F_X6_strongestBut_56
  refine ev_s (fun Q k => rn_iload_n (j := 3) 2 rfl rfl dX6_strongestBut_56 k) ?_
  refine ev_s (fun Q k => rn_goto (tgt := 61) dX6_strongestBut_57 (by decide) k) ?_
  exact e_X6_strongestBut_61 l E d x1 k5 hk5  v3 v3 D

set_option maxRecDepth 20000 in
theorem e_X6_strongestBut_60 (l : Launch) (E : eE) (d : Nat) (x1 : Int32) (k5 : Int32 → Int32 → dT → Option (Int32 × dT)) (hk5 : ∀ (v2 : Int32) (v3 : Int32) (D : dT), ev l E (d + 1) yX6_strongestBut cX6_strongestBut 5 (some .int) 5 [(0, .inr (.inr 378)), (1, .inl x1), (2, .inl v2), (3, .inl v3)] [] D eI (k5 v2 v3 D)) (v2 : Int32) (v3 : Int32) (D : dT) : ev l E (d + 1) yX6_strongestBut cX6_strongestBut 5 (some .int) 60 [(0, .inr (.inr 378)), (1, .inl x1), (2, .inl v2), (3, .inl v3)] [] D eI (F_X6_strongestBut_60 x1 k5 v2 v3 D) := by
  unfold F_X6_strongestBut_60
  refine ev_s (fun Q k => rn_iload_n (j := 2) 2 rfl rfl dX6_strongestBut_60 k) ?_
  refine ev_s (fun Q k => rn_sub (ls' := [(0, .inr (.inr 378)), (1, .inl x1), (3, .inl v3)]) [0, 1, 3] rfl k) ?_
  exact e_X6_strongestBut_61 l E d x1 k5 hk5  v3 v2 D

set_option maxRecDepth 20000 in
theorem e_X6_strongestBut_28 (l : Launch) (E : eE) (d : Nat) (x1 : Int32) (k5 : Int32 → Int32 → dT → Option (Int32 × dT)) (hk5 : ∀ (v2 : Int32) (v3 : Int32) (D : dT), ev l E (d + 1) yX6_strongestBut cX6_strongestBut 5 (some .int) 5 [(0, .inr (.inr 378)), (1, .inl x1), (2, .inl v2), (3, .inl v3)] [] D eI (k5 v2 v3 D)) (v2 : Int32) (v3 : Int32) (s0 : Int32) (D : dT) : ev l E (d + 1) yX6_strongestBut cX6_strongestBut 5 (some .int) 28 [(0, .inr (.inr 378)), (1, .inl x1), (2, .inl v2), (3, .inl v3)] [.inl s0] D eI (F_X6_strongestBut_28 x1 k5 v2 v3 s0 D) := by
  unfold F_X6_strongestBut_28
  refine ev_s (fun Q k => rn_istore (j := 4) (ls' := [(4, .inl s0), (0, .inr (.inr 378)), (1, .inl x1), (2, .inl v2), (3, .inl v3)]) (by decide) rfl dX6_strongestBut_28 k) ?_
  refine ev_s (fun Q k => rn_iload (j := 4) 0 rfl dX6_strongestBut_30 k) ?_
  refine ev_if (fun Q => rn_if_eq (tgt := 60) dX6_strongestBut_32 (by decide)) (fun c9 => ?_) (fun c10 => ?_)
  · refine ev_s (fun Q k => rn_sub (ls' := [(0, .inr (.inr 378)), (1, .inl x1), (2, .inl v2), (3, .inl v3)]) [1, 2, 3, 4] rfl k) ?_
    exact e_X6_strongestBut_60 l E d x1 k5 hk5  v2 v3 D
  · refine ev_s (fun Q k => rn_iload_n (j := 2) 3 rfl rfl dX6_strongestBut_35 k) ?_
    refine ev_s (fun Q k => rn_bipush (v := -6) (by decide) dX6_strongestBut_36 k) ?_
    refine ev_if (fun Q => rn_icmp_eq (tgt := 56) dX6_strongestBut_38 (by decide)) (fun c7 => ?_) (fun c8 => ?_)
    · refine ev_s (fun Q k => rn_sub (ls' := [(0, .inr (.inr 378)), (1, .inl x1), (3, .inl v3)]) [1, 2, 4] rfl k) ?_
      exact e_X6_strongestBut_56 l E d x1 k5 hk5  v3 D
    · refine ev_s (fun Q k => rn_aload_n (j := 0) 1 rfl rfl (okO_0 ok_378) dX6_strongestBut_41 k) ?_
      refine ev_s (fun Q k => rn_iload_n (j := 3) 4 rfl rfl dX6_strongestBut_42 k) ?_
      refine ev_s (fun Q k => rn_iconst (v := 1) (by decide) dX6_strongestBut_43 k) ?_
      refine ev_bindI (as := [.inr (.inr 378), .inl v3, .inl (1 : Int32)]) (fun Q Q1 => rn_callV (as := [.inl v3, .inl (1 : Int32)]) (rest := []) (o := 378) m_X6_47 dX6_strongestBut_44 (rcv_own ok_378.1 ok_378.2.1 (by decide) (okO_1 ok_378)) rfl rfl (Nat.le_of_ble_eq_true rfl)) pl_X6_ofPerson (Nat.le_of_ble_eq_true rfl) rfl (e_X6_ofPerson l E d v3 (1 : Int32) D) (fun r1 D2 => ?_)
      refine ev_s (fun Q k => rn_aload_n (j := 0) 1 rfl rfl (okO_0 ok_378) dX6_strongestBut_47 k) ?_
      refine ev_s (fun Q k => rn_iload_n (j := 2) 3 rfl rfl dX6_strongestBut_48 k) ?_
      refine ev_s (fun Q k => rn_iconst (v := 1) (by decide) dX6_strongestBut_49 k) ?_
      refine ev_bindI (as := [.inr (.inr 378), .inl v2, .inl (1 : Int32)]) (fun Q Q1 => rn_callV (as := [.inl v2, .inl (1 : Int32)]) (rest := [.inl r1]) (o := 378) m_X6_47 dX6_strongestBut_50 (rcv_own ok_378.1 ok_378.2.1 (by decide) (okO_1 ok_378)) rfl rfl (Nat.le_of_ble_eq_true rfl)) pl_X6_ofPerson (Nat.le_of_ble_eq_true rfl) rfl (e_X6_ofPerson l E d v2 (1 : Int32) D2) (fun r3 D4 => ?_)
      refine ev_if (fun Q => rn_icmp_le (tgt := 60) dX6_strongestBut_53 (by decide)) (fun c5 => ?_) (fun c6 => ?_)
      · refine ev_s (fun Q k => rn_sub (ls' := [(0, .inr (.inr 378)), (1, .inl x1), (2, .inl v2), (3, .inl v3)]) [1, 2, 3, 4] rfl k) ?_
        exact e_X6_strongestBut_60 l E d x1 k5 hk5  v2 v3 D4
      · refine ev_s (fun Q k => rn_sub (ls' := [(0, .inr (.inr 378)), (1, .inl x1), (3, .inl v3)]) [1, 2, 4] rfl k) ?_
        exact e_X6_strongestBut_56 l E d x1 k5 hk5  v3 D4

set_option maxRecDepth 20000 in
theorem e_X6_strongestBut_5 (l : Launch) (E : eE) (d : Nat) (x1 : Int32)  (fuel : Nat) : ∀ (v2 : Int32) (v3 : Int32) (D : dT), ev l E (d + 1) yX6_strongestBut cX6_strongestBut 5 (some .int) 5 [(0, .inr (.inr 378)), (1, .inl x1), (2, .inl v2), (3, .inl v3)] [] D eI (F_X6_strongestBut_5 fuel x1 v2 v3 D) := by
  induction fuel with
  | zero =>
    intro v2 v3 D
    exact ev_none
  | succ fu ih =>
    intro v2 v3 D
    rw [F_X6_strongestBut_5]
    refine ev_s (fun Q k => rn_iload_n (j := 3) 3 rfl rfl dX6_strongestBut_5 k) ?_
    refine ev_s (fun Q k => rn_aload_n (j := 0) 0 rfl rfl (okO_0 ok_378) dX6_strongestBut_6 k) ?_
    refine ev_s (fun Q k => rn_getr (q := 379) f_X6_7 ok_378.1 ok_378.2.1 (okO_1 ok_378) rfl rfl dX6_strongestBut_7 k) ?_
    refine ev_s (fun Q k => rn_iconst (v := 5) (by decide) dX6_strongestBut_10 k) ?_
    refine ev_gd (fun g1 => ?_)
    refine ev_s (fun Q k => rn_iald ok_379.1 ok_379.2.1 ok_379.2.2 (inR_vp g1) dX6_strongestBut_11 k) ?_
    refine ev_if (fun Q => rn_icmp_ge (tgt := 68) dX6_strongestBut_12 (by decide)) (fun c4 => ?_) (fun c5 => ?_)
    · refine ev_s (fun Q k => rn_iload_n (j := 2) 2 rfl rfl dX6_strongestBut_68 k) ?_
      exact ev_ret (fun Q q => rn_ret q .int rfl rfl dX6_strongestBut_69)
    · refine ev_s (fun Q k => rn_iload_n (j := 1) 1 rfl rfl dX6_strongestBut_15 k) ?_
      refine ev_s (fun Q k => rn_iload_n (j := 3) 3 rfl rfl dX6_strongestBut_16 k) ?_
      refine ev_s (fun Q k => rn_ishr dX6_strongestBut_17 k) ?_
      refine ev_s (fun Q k => rn_iconst (v := 1) (by decide) dX6_strongestBut_18 k) ?_
      refine ev_s (fun Q k => rn_iand dX6_strongestBut_19 k) ?_
      refine ev_if (fun Q => rn_if_ne (tgt := 27) dX6_strongestBut_20 (by decide)) (fun c2 => ?_) (fun c3 => ?_)
      · refine ev_s (fun Q k => rn_iconst (v := 1) (by decide) dX6_strongestBut_23 k) ?_
        refine ev_s (fun Q k => rn_goto (tgt := 28) dX6_strongestBut_24 (by decide) k) ?_
        exact e_X6_strongestBut_28 l E d x1 (fun (v2_ : Int32) (v3_ : Int32) (D_ : dT) => F_X6_strongestBut_5 fu x1 v2_ v3_ D_) (fun v2_ v3_ D_ => ih v2_ v3_ D_)  v2 v3 (1 : Int32) D
      · refine ev_s (fun Q k => rn_iconst (v := 0) (by decide) dX6_strongestBut_27 k) ?_
        exact e_X6_strongestBut_28 l E d x1 (fun (v2_ : Int32) (v3_ : Int32) (D_ : dT) => F_X6_strongestBut_5 fu x1 v2_ v3_ D_) (fun v2_ v3_ D_ => ih v2_ v3_ D_)  v2 v3 (0 : Int32) D

set_option maxRecDepth 20000 in
theorem e_X6_strongestBut (l : Launch) (E : eE) (d : Nat) (x1 : Int32) (D : dT) : ev l E (d + 1) yX6_strongestBut cX6_strongestBut 5 (some .int) 0 [(0, .inr (.inr 378)), (1, .inl x1)] [] D eI (F_X6_strongestBut x1 D) := by
  unfold F_X6_strongestBut
  refine ev_s (fun Q k => rn_bipush (v := -6) (by decide) dX6_strongestBut_0 k) ?_
  refine ev_s (fun Q k => rn_istore_n (j := 2) (ls' := [(2, .inl (-6 : Int32)), (0, .inr (.inr 378)), (1, .inl x1)]) rfl (by decide) rfl dX6_strongestBut_2 k) ?_
  refine ev_s (fun Q k => rn_iconst (v := 0) (by decide) dX6_strongestBut_3 k) ?_
  refine ev_s (fun Q k => rn_istore_n (j := 3) (ls' := [(3, .inl (0 : Int32)), (2, .inl (-6 : Int32)), (0, .inr (.inr 378)), (1, .inl x1)]) rfl (by decide) rfl dX6_strongestBut_4 k) ?_
  refine ev_s (fun Q k => rn_sub (ls' := [(0, .inr (.inr 378)), (1, .inl x1), (2, .inl (-6 : Int32)), (3, .inl (0 : Int32))]) [2, 3, 1, 0] rfl k) ?_
  exact e_X6_strongestBut_5 l E d x1  lim (-6 : Int32) (0 : Int32) D

def F_X6_crewFor_28 (fuel : Nat) (x1 : Int32) (x2 : Int32)  (v3 : Int32) (v4 : Int32) (v5 : Int32) (D : dT) : Option (Int32 × dT) := match fuel with
  | 0 => none
  | fu + 1 => bd (F_X6_strength v4 D) (fun (r1 : Int32) (D2 : dT) => if v5 ≤ r1 then some (v4, D2) else bd (F_X6_strongestBut (v3 ||| v4) D2) (fun (r3 : Int32) (D4 : dT) => if r3 = (-6 : Int32) then some ((-6 : Int32), D4) else bd (F_X6_ones v4 D4) (fun (r5 : Int32) (D6 : dT) => if inR (3 : Int32) 244 then if r5 = (D6 379 (3 : Int32).toNatClampNeg) then some ((-6 : Int32), D6) else F_X6_crewFor_28 fu x1 x2 v3 (v4 ||| ((1 : Int32) <<< (r3 &&& 31))) v5 D6 else none)))
def F_X6_crewFor (x1 : Int32) (x2 : Int32) (D : dT) : Option (Int32 × dT) := bd (F_X6_canHave x1 x2 D) (fun (r1 : Int32) (D2 : dT) => if r1 = 0 then some ((-6 : Int32), D2) else bd (F_X6_busy  D2) (fun (r3 : Int32) (D4 : dT) => bd (F_X6_loadBy x1 x2 D4) (fun (r5 : Int32) (D6 : dT) => F_X6_crewFor_28 lim x1 x2 r3 (0 : Int32) r5 D6)))
set_option maxRecDepth 20000 in
theorem e_X6_crewFor_28 (l : Launch) (E : eE) (d : Nat) (x1 : Int32) (x2 : Int32)  (fuel : Nat) : ∀ (v3 : Int32) (v4 : Int32) (v5 : Int32) (D : dT), ev l E (d + 3) yX6_crewFor cX6_crewFor 7 (some .int) 28 [(0, .inr (.inr 378)), (3, .inl v3), (4, .inl v4), (5, .inl v5)] [] D eI (F_X6_crewFor_28 fuel x1 x2 v3 v4 v5 D) := by
  induction fuel with
  | zero =>
    intro v3 v4 v5 D
    exact ev_none
  | succ fu ih =>
    intro v3 v4 v5 D
    rw [F_X6_crewFor_28]
    refine ev_s (fun Q k => rn_aload_n (j := 0) 0 rfl rfl (okO_0 ok_378) dX6_crewFor_28 k) ?_
    refine ev_s (fun Q k => rn_iload (j := 4) 2 rfl dX6_crewFor_29 k) ?_
    refine ev_bindI (as := [.inr (.inr 378), .inl v4]) (fun Q Q1 => rn_callV (as := [.inl v4]) (rest := []) (o := 378) m_X6_65 dX6_crewFor_31 (rcv_own ok_378.1 ok_378.2.1 (by decide) (okO_1 ok_378)) rfl rfl (Nat.le_of_ble_eq_true rfl)) pl_X6_strength (Nat.le_of_ble_eq_true rfl) rfl (e_X6_strength l E (d + 1) v4 D) (fun r1 D2 => ?_)
    refine ev_s (fun Q k => rn_iload (j := 5) 3 rfl dX6_crewFor_34 k) ?_
    refine ev_if (fun Q => rn_icmp_ge (tgt := 85) dX6_crewFor_36 (by decide)) (fun c12 => ?_) (fun c13 => ?_)
    · refine ev_s (fun Q k => rn_iload (j := 4) 2 rfl dX6_crewFor_85 k) ?_
      exact ev_ret (fun Q q => rn_ret q .int rfl rfl dX6_crewFor_87)
    · refine ev_s (fun Q k => rn_aload_n (j := 0) 0 rfl rfl (okO_0 ok_378) dX6_crewFor_39 k) ?_
      refine ev_s (fun Q k => rn_iload_n (j := 3) 1 rfl rfl dX6_crewFor_40 k) ?_
      refine ev_s (fun Q k => rn_iload (j := 4) 2 rfl dX6_crewFor_41 k) ?_
      refine ev_s (fun Q k => rn_ior dX6_crewFor_43 k) ?_
      refine ev_bindI (as := [.inr (.inr 378), .inl (v3 ||| v4)]) (fun Q Q1 => rn_callV (as := [.inl (v3 ||| v4)]) (rest := []) (o := 378) m_X6_71 dX6_crewFor_44 (rcv_own ok_378.1 ok_378.2.1 (by decide) (okO_1 ok_378)) rfl rfl (Nat.le_of_ble_eq_true rfl)) pl_X6_strongestBut (Nat.le_of_ble_eq_true rfl) rfl (e_X6_strongestBut l E (d + 1) (v3 ||| v4) D2) (fun r3 D4 => ?_)
      refine ev_s (fun Q k => rn_istore (j := 6) (ls' := [(6, .inl r3), (0, .inr (.inr 378)), (3, .inl v3), (4, .inl v4), (5, .inl v5)]) (by decide) rfl dX6_crewFor_47 k) ?_
      refine ev_s (fun Q k => rn_iload (j := 6) 0 rfl dX6_crewFor_49 k) ?_
      refine ev_s (fun Q k => rn_bipush (v := -6) (by decide) dX6_crewFor_51 k) ?_
      refine ev_if (fun Q => rn_icmp_eq (tgt := 70) dX6_crewFor_53 (by decide)) (fun c10 => ?_) (fun c11 => ?_)
      · refine ev_s (fun Q k => rn_bipush (v := -6) (by decide) dX6_crewFor_70 k) ?_
        exact ev_ret (fun Q q => rn_ret q .int rfl rfl dX6_crewFor_72)
      · refine ev_s (fun Q k => rn_iload (j := 4) 3 rfl dX6_crewFor_56 k) ?_
        refine ev_bindI (as := [.inl v4]) (fun Q Q1 => rn_callS (as := [.inl v4]) (rest := []) m_X6_54 dX6_crewFor_58 rfl rfl (Nat.le_of_ble_eq_true rfl)) pl_X6_ones (Nat.le_of_ble_eq_true rfl) rfl (e_X6_ones l E (d + 2) v4 D4) (fun r5 D6 => ?_)
        refine ev_s (fun Q k => rn_aload_n (j := 0) 1 rfl rfl (okO_0 ok_378) dX6_crewFor_61 k) ?_
        refine ev_s (fun Q k => rn_getr (q := 379) f_X6_7 ok_378.1 ok_378.2.1 (okO_1 ok_378) rfl rfl dX6_crewFor_62 k) ?_
        refine ev_s (fun Q k => rn_iconst (v := 3) (by decide) dX6_crewFor_65 k) ?_
        refine ev_gd (fun g7 => ?_)
        refine ev_s (fun Q k => rn_iald ok_379.1 ok_379.2.1 ok_379.2.2 (inR_vp g7) dX6_crewFor_66 k) ?_
        refine ev_if (fun Q => rn_icmp_ne (tgt := 73) dX6_crewFor_67 (by decide)) (fun c8 => ?_) (fun c9 => ?_)
        · refine ev_s (fun Q k => rn_bipush (v := -6) (by decide) dX6_crewFor_70 k) ?_
          exact ev_ret (fun Q q => rn_ret q .int rfl rfl dX6_crewFor_72)
        · refine ev_s (fun Q k => rn_iload (j := 4) 3 rfl dX6_crewFor_73 k) ?_
          refine ev_s (fun Q k => rn_iconst (v := 1) (by decide) dX6_crewFor_75 k) ?_
          refine ev_s (fun Q k => rn_iload (j := 6) 0 rfl dX6_crewFor_76 k) ?_
          refine ev_s (fun Q k => rn_ishl dX6_crewFor_78 k) ?_
          refine ev_s (fun Q k => rn_ior dX6_crewFor_79 k) ?_
          refine ev_s (fun Q k => rn_istore (j := 4) (ls' := [(4, .inl (v4 ||| ((1 : Int32) <<< (r3 &&& 31)))), (6, .inl r3), (0, .inr (.inr 378)), (3, .inl v3), (5, .inl v5)]) (by decide) rfl dX6_crewFor_80 k) ?_
          refine ev_s (fun Q k => rn_goto (tgt := 28) dX6_crewFor_82 (by decide) k) ?_
          refine ev_s (fun Q k => rn_sub (ls' := [(0, .inr (.inr 378)), (3, .inl v3), (4, .inl (v4 ||| ((1 : Int32) <<< (r3 &&& 31)))), (5, .inl v5)]) [2, 3, 0, 4] rfl k) ?_
          exact ih v3 (v4 ||| ((1 : Int32) <<< (r3 &&& 31))) v5 D6

set_option maxRecDepth 20000 in
theorem e_X6_crewFor (l : Launch) (E : eE) (d : Nat) (x1 : Int32) (x2 : Int32) (D : dT) : ev l E (d + 3) yX6_crewFor cX6_crewFor 7 (some .int) 0 [(0, .inr (.inr 378)), (1, .inl x1), (2, .inl x2)] [] D eI (F_X6_crewFor x1 x2 D) := by
  unfold F_X6_crewFor
  refine ev_s (fun Q k => rn_aload_n (j := 0) 0 rfl rfl (okO_0 ok_378) dX6_crewFor_0 k) ?_
  refine ev_s (fun Q k => rn_iload_n (j := 1) 1 rfl rfl dX6_crewFor_1 k) ?_
  refine ev_s (fun Q k => rn_iload_n (j := 2) 2 rfl rfl dX6_crewFor_2 k) ?_
  refine ev_bindI (as := [.inr (.inr 378), .inl x1, .inl x2]) (fun Q Q1 => rn_callV (as := [.inl x1, .inl x2]) (rest := []) (o := 378) m_X6_61 dX6_crewFor_3 (rcv_own ok_378.1 ok_378.2.1 (by decide) (okO_1 ok_378)) rfl rfl (Nat.le_of_ble_eq_true rfl)) pl_X6_canHave (Nat.le_of_ble_eq_true rfl) rfl (e_X6_canHave l E d x1 x2 D) (fun r1 D2 => ?_)
  refine ev_if (fun Q => rn_if_ne (tgt := 12) dX6_crewFor_6 (by decide)) (fun c7 => ?_) (fun c8 => ?_)
  · refine ev_s (fun Q k => rn_bipush (v := -6) (by decide) dX6_crewFor_9 k) ?_
    exact ev_ret (fun Q q => rn_ret q .int rfl rfl dX6_crewFor_11)
  · refine ev_s (fun Q k => rn_aload_n (j := 0) 0 rfl rfl (okO_0 ok_378) dX6_crewFor_12 k) ?_
    refine ev_bindI (as := [.inr (.inr 378)]) (fun Q Q1 => rn_callV (as := []) (rest := []) (o := 378) m_X6_57 dX6_crewFor_13 (rcv_own ok_378.1 ok_378.2.1 (by decide) (okO_1 ok_378)) rfl rfl (Nat.le_of_ble_eq_true rfl)) pl_X6_busy (Nat.le_of_ble_eq_true rfl) rfl (e_X6_busy l E (d + 1)  D2) (fun r3 D4 => ?_)
    refine ev_s (fun Q k => rn_istore_n (j := 3) (ls' := [(3, .inl r3), (0, .inr (.inr 378)), (1, .inl x1), (2, .inl x2)]) rfl (by decide) rfl dX6_crewFor_16 k) ?_
    refine ev_s (fun Q k => rn_iconst (v := 0) (by decide) dX6_crewFor_17 k) ?_
    refine ev_s (fun Q k => rn_istore (j := 4) (ls' := [(4, .inl (0 : Int32)), (3, .inl r3), (0, .inr (.inr 378)), (1, .inl x1), (2, .inl x2)]) (by decide) rfl dX6_crewFor_18 k) ?_
    refine ev_s (fun Q k => rn_aload_n (j := 0) 2 rfl rfl (okO_0 ok_378) dX6_crewFor_20 k) ?_
    refine ev_s (fun Q k => rn_iload_n (j := 1) 3 rfl rfl dX6_crewFor_21 k) ?_
    refine ev_s (fun Q k => rn_iload_n (j := 2) 4 rfl rfl dX6_crewFor_22 k) ?_
    refine ev_bindI (as := [.inr (.inr 378), .inl x1, .inl x2]) (fun Q Q1 => rn_callV (as := [.inl x1, .inl x2]) (rest := []) (o := 378) m_X6_68 dX6_crewFor_23 (rcv_own ok_378.1 ok_378.2.1 (by decide) (okO_1 ok_378)) rfl rfl (Nat.le_of_ble_eq_true rfl)) pl_X6_loadBy (Nat.le_of_ble_eq_true rfl) rfl (e_X6_loadBy l E (d + 1) x1 x2 D4) (fun r5 D6 => ?_)
    refine ev_s (fun Q k => rn_istore (j := 5) (ls' := [(5, .inl r5), (4, .inl (0 : Int32)), (3, .inl r3), (0, .inr (.inr 378)), (1, .inl x1), (2, .inl x2)]) (by decide) rfl dX6_crewFor_26 k) ?_
    refine ev_s (fun Q k => rn_sub (ls' := [(0, .inr (.inr 378)), (3, .inl r3), (4, .inl (0 : Int32)), (5, .inl r5)]) [3, 2, 1, 0] rfl k) ?_
    exact e_X6_crewFor_28 l E d x1 x2  lim r3 (0 : Int32) r5 D6

def F_X6_strapsFor_101 (x1 : Int32) (k8 : Int32 → Int32 → Int32 → dT → Option (Int32 × dT)) (v2 : Int32) (v4 : Int32) (s0 : Int32) (D : dT) : Option (Int32 × dT) := k8 v2 s0 (v4 + (1 : Int32)) D
def F_X6_strapsFor_86 (x1 : Int32) (k8 : Int32 → Int32 → Int32 → dT → Option (Int32 × dT)) (v3 : Int32) (v4 : Int32) (v5 : Int32) (v6 : Int32) (s0 : Int32) (D : dT) : Option (Int32 × dT) := if v6 = 0 then F_X6_strapsFor_101 x1 k8 s0 v4 v3 D else bd (F_X6_ones v5 D) (fun (r1 : Int32) (D2 : dT) => F_X6_strapsFor_101 x1 k8 s0 v4 r1 D2)
def F_X6_strapsFor_62 (x1 : Int32) (k8 : Int32 → Int32 → Int32 → dT → Option (Int32 × dT)) (v2 : Int32) (v3 : Int32) (v4 : Int32) (v5 : Int32) (s0 : Int32) (D : dT) : Option (Int32 × dT) := if s0 = 0 then F_X6_strapsFor_86 x1 k8 v3 v4 v5 s0 v2 D else if v4 = 0 then F_X6_strapsFor_86 x1 k8 v3 v4 v5 s0 (3 : Int32) D else F_X6_strapsFor_86 x1 k8 v3 v4 v5 s0 (v4 - (1 : Int32)) D
def F_X6_strapsFor_57 (x1 : Int32) (k8 : Int32 → Int32 → Int32 → dT → Option (Int32 × dT)) (v2 : Int32) (v3 : Int32) (v4 : Int32) (v5 : Int32) (D : dT) : Option (Int32 × dT) := F_X6_strapsFor_62 x1 k8 v2 v3 v4 v5 (1 : Int32) D
def F_X6_strapsFor_61 (x1 : Int32) (k8 : Int32 → Int32 → Int32 → dT → Option (Int32 × dT)) (v2 : Int32) (v3 : Int32) (v4 : Int32) (v5 : Int32) (D : dT) : Option (Int32 × dT) := F_X6_strapsFor_62 x1 k8 v2 v3 v4 v5 (0 : Int32) D
def F_X6_strapsFor_30 (x1 : Int32) (k8 : Int32 → Int32 → Int32 → dT → Option (Int32 × dT)) (v2 : Int32) (v3 : Int32) (v4 : Int32) (s0 : Int32) (s1 : Int32) (D : dT) : Option (Int32 × dT) := bd (F_X6_crewFor s1 s0 D) (fun (r1 : Int32) (D2 : dT) => if r1 = (-6 : Int32) then F_X6_strapsFor_61 x1 k8 v2 v3 v4 r1 D2 else if v2 = (-6 : Int32) then F_X6_strapsFor_57 x1 k8 v2 v3 v4 r1 D2 else bd (F_X6_ones r1 D2) (fun (r3 : Int32) (D4 : dT) => if v3 ≤ r3 then F_X6_strapsFor_61 x1 k8 v2 v3 v4 r1 D4 else F_X6_strapsFor_57 x1 k8 v2 v3 v4 r1 D4))
def F_X6_strapsFor_8 (fuel : Nat) (x1 : Int32)  (v2 : Int32) (v3 : Int32) (v4 : Int32) (D : dT) : Option (Int32 × dT) := match fuel with
  | 0 => none
  | fu + 1 => if (4 : Int32) ≤ v4 then some (v2, D) else if v4 = 0 then F_X6_strapsFor_30 x1 (fun (v2_ : Int32) (v3_ : Int32) (v4_ : Int32) (D_ : dT) => F_X6_strapsFor_8 fu x1 v2_ v3_ v4_ D_) v2 v3 v4 (-6 : Int32) x1 D else F_X6_strapsFor_30 x1 (fun (v2_ : Int32) (v3_ : Int32) (v4_ : Int32) (D_ : dT) => F_X6_strapsFor_8 fu x1 v2_ v3_ v4_ D_) v2 v3 v4 (v4 - (1 : Int32)) x1 D
def F_X6_strapsFor (x1 : Int32) (D : dT) : Option (Int32 × dT) := F_X6_strapsFor_8 lim x1 (-6 : Int32) (0 : Int32) (0 : Int32) D
set_option maxRecDepth 20000 in
theorem e_X6_strapsFor_101 (l : Launch) (E : eE) (d : Nat) (x1 : Int32) (k8 : Int32 → Int32 → Int32 → dT → Option (Int32 × dT)) (hk8 : ∀ (v2 : Int32) (v3 : Int32) (v4 : Int32) (D : dT), ev l E (d + 4) yX6_strapsFor cX6_strapsFor 7 (some .int) 8 [(0, .inr (.inr 378)), (1, .inl x1), (2, .inl v2), (3, .inl v3), (4, .inl v4)] [] D eI (k8 v2 v3 v4 D)) (v2 : Int32) (v4 : Int32) (s0 : Int32) (D : dT) : ev l E (d + 4) yX6_strapsFor cX6_strapsFor 7 (some .int) 101 [(0, .inr (.inr 378)), (1, .inl x1), (2, .inl v2), (4, .inl v4)] [.inl s0] D eI (F_X6_strapsFor_101 x1 k8 v2 v4 s0 D) := by
  unfold F_X6_strapsFor_101
  refine ev_s (fun Q k => rn_istore_n (j := 3) (ls' := [(3, .inl s0), (0, .inr (.inr 378)), (1, .inl x1), (2, .inl v2), (4, .inl v4)]) rfl (by decide) rfl dX6_strapsFor_101 k) ?_
  refine ev_s (fun Q k => rn_iinc (v := (v4 + (1 : Int32))) (ls' := [(4, .inl (v4 + (1 : Int32))), (3, .inl s0), (0, .inr (.inr 378)), (1, .inl x1), (2, .inl v2)]) 4 rfl rfl (by decide) rfl dX6_strapsFor_102 k) ?_
  refine ev_s (fun Q k => rn_goto (tgt := 8) dX6_strapsFor_105 (by decide) k) ?_
  refine ev_s (fun Q k => rn_sub (ls' := [(0, .inr (.inr 378)), (1, .inl x1), (2, .inl v2), (3, .inl s0), (4, .inl (v4 + (1 : Int32)))]) [2, 3, 4, 1, 0] rfl k) ?_
  exact hk8 v2 s0 (v4 + (1 : Int32)) D

set_option maxRecDepth 20000 in
theorem e_X6_strapsFor_86 (l : Launch) (E : eE) (d : Nat) (x1 : Int32) (k8 : Int32 → Int32 → Int32 → dT → Option (Int32 × dT)) (hk8 : ∀ (v2 : Int32) (v3 : Int32) (v4 : Int32) (D : dT), ev l E (d + 4) yX6_strapsFor cX6_strapsFor 7 (some .int) 8 [(0, .inr (.inr 378)), (1, .inl x1), (2, .inl v2), (3, .inl v3), (4, .inl v4)] [] D eI (k8 v2 v3 v4 D)) (v3 : Int32) (v4 : Int32) (v5 : Int32) (v6 : Int32) (s0 : Int32) (D : dT) : ev l E (d + 4) yX6_strapsFor cX6_strapsFor 7 (some .int) 86 [(0, .inr (.inr 378)), (1, .inl x1), (3, .inl v3), (4, .inl v4), (5, .inl v5), (6, .inl v6)] [.inl s0] D eI (F_X6_strapsFor_86 x1 k8 v3 v4 v5 v6 s0 D) := by
  unfold F_X6_strapsFor_86
  refine ev_s (fun Q k => rn_istore_n (j := 2) (ls' := [(2, .inl s0), (0, .inr (.inr 378)), (1, .inl x1), (3, .inl v3), (4, .inl v4), (5, .inl v5), (6, .inl v6)]) rfl (by decide) rfl dX6_strapsFor_86 k) ?_
  refine ev_s (fun Q k => rn_iload (j := 6) 6 rfl dX6_strapsFor_87 k) ?_
  refine ev_if (fun Q => rn_if_eq (tgt := 100) dX6_strapsFor_89 (by decide)) (fun c3 => ?_) (fun c4 => ?_)
  · refine ev_s (fun Q k => rn_iload_n (j := 3) 3 rfl rfl dX6_strapsFor_100 k) ?_
    refine ev_s (fun Q k => rn_sub (ls' := [(0, .inr (.inr 378)), (1, .inl x1), (2, .inl s0), (4, .inl v4)]) [1, 2, 0, 4] rfl k) ?_
    exact e_X6_strapsFor_101 l E d x1 k8 hk8  s0 v4 v3 D
  · refine ev_s (fun Q k => rn_iload (j := 5) 5 rfl dX6_strapsFor_92 k) ?_
    refine ev_bindI (as := [.inl v5]) (fun Q Q1 => rn_callS (as := [.inl v5]) (rest := []) m_X6_54 dX6_strapsFor_94 rfl rfl (Nat.le_of_ble_eq_true rfl)) pl_X6_ones (Nat.le_of_ble_eq_true rfl) rfl (e_X6_ones l E (d + 3) v5 D) (fun r1 D2 => ?_)
    refine ev_s (fun Q k => rn_goto (tgt := 101) dX6_strapsFor_97 (by decide) k) ?_
    refine ev_s (fun Q k => rn_sub (ls' := [(0, .inr (.inr 378)), (1, .inl x1), (2, .inl s0), (4, .inl v4)]) [1, 2, 0, 4] rfl k) ?_
    exact e_X6_strapsFor_101 l E d x1 k8 hk8  s0 v4 r1 D2

set_option maxRecDepth 20000 in
theorem e_X6_strapsFor_62 (l : Launch) (E : eE) (d : Nat) (x1 : Int32) (k8 : Int32 → Int32 → Int32 → dT → Option (Int32 × dT)) (hk8 : ∀ (v2 : Int32) (v3 : Int32) (v4 : Int32) (D : dT), ev l E (d + 4) yX6_strapsFor cX6_strapsFor 7 (some .int) 8 [(0, .inr (.inr 378)), (1, .inl x1), (2, .inl v2), (3, .inl v3), (4, .inl v4)] [] D eI (k8 v2 v3 v4 D)) (v2 : Int32) (v3 : Int32) (v4 : Int32) (v5 : Int32) (s0 : Int32) (D : dT) : ev l E (d + 4) yX6_strapsFor cX6_strapsFor 7 (some .int) 62 [(0, .inr (.inr 378)), (1, .inl x1), (2, .inl v2), (3, .inl v3), (4, .inl v4), (5, .inl v5)] [.inl s0] D eI (F_X6_strapsFor_62 x1 k8 v2 v3 v4 v5 s0 D) := by
  unfold F_X6_strapsFor_62
  refine ev_s (fun Q k => rn_istore (j := 6) (ls' := [(6, .inl s0), (0, .inr (.inr 378)), (1, .inl x1), (2, .inl v2), (3, .inl v3), (4, .inl v4), (5, .inl v5)]) (by decide) rfl dX6_strapsFor_62 k) ?_
  refine ev_s (fun Q k => rn_iload (j := 6) 0 rfl dX6_strapsFor_64 k) ?_
  refine ev_if (fun Q => rn_if_eq (tgt := 85) dX6_strapsFor_66 (by decide)) (fun c3 => ?_) (fun c4 => ?_)
  · refine ev_s (fun Q k => rn_iload_n (j := 2) 3 rfl rfl dX6_strapsFor_85 k) ?_
    refine ev_s (fun Q k => rn_sub (ls' := [(0, .inr (.inr 378)), (1, .inl x1), (3, .inl v3), (4, .inl v4), (5, .inl v5), (6, .inl s0)]) [1, 2, 4, 5, 6, 0] rfl k) ?_
    exact e_X6_strapsFor_86 l E d x1 k8 hk8  v3 v4 v5 s0 v2 D
  · refine ev_s (fun Q k => rn_iload (j := 4) 5 rfl dX6_strapsFor_69 k) ?_
    refine ev_if (fun Q => rn_if_ne (tgt := 78) dX6_strapsFor_71 (by decide)) (fun c1 => ?_) (fun c2 => ?_)
    · refine ev_s (fun Q k => rn_iconst (v := 3) (by decide) dX6_strapsFor_74 k) ?_
      refine ev_s (fun Q k => rn_goto (tgt := 86) dX6_strapsFor_75 (by decide) k) ?_
      refine ev_s (fun Q k => rn_sub (ls' := [(0, .inr (.inr 378)), (1, .inl x1), (3, .inl v3), (4, .inl v4), (5, .inl v5), (6, .inl s0)]) [1, 2, 4, 5, 6, 0] rfl k) ?_
      exact e_X6_strapsFor_86 l E d x1 k8 hk8  v3 v4 v5 s0 (3 : Int32) D
    · refine ev_s (fun Q k => rn_iload (j := 4) 5 rfl dX6_strapsFor_78 k) ?_
      refine ev_s (fun Q k => rn_iconst (v := 1) (by decide) dX6_strapsFor_80 k) ?_
      refine ev_s (fun Q k => rn_isub dX6_strapsFor_81 k) ?_
      refine ev_s (fun Q k => rn_goto (tgt := 86) dX6_strapsFor_82 (by decide) k) ?_
      refine ev_s (fun Q k => rn_sub (ls' := [(0, .inr (.inr 378)), (1, .inl x1), (3, .inl v3), (4, .inl v4), (5, .inl v5), (6, .inl s0)]) [1, 2, 4, 5, 6, 0] rfl k) ?_
      exact e_X6_strapsFor_86 l E d x1 k8 hk8  v3 v4 v5 s0 (v4 - (1 : Int32)) D

set_option maxRecDepth 20000 in
theorem e_X6_strapsFor_57 (l : Launch) (E : eE) (d : Nat) (x1 : Int32) (k8 : Int32 → Int32 → Int32 → dT → Option (Int32 × dT)) (hk8 : ∀ (v2 : Int32) (v3 : Int32) (v4 : Int32) (D : dT), ev l E (d + 4) yX6_strapsFor cX6_strapsFor 7 (some .int) 8 [(0, .inr (.inr 378)), (1, .inl x1), (2, .inl v2), (3, .inl v3), (4, .inl v4)] [] D eI (k8 v2 v3 v4 D)) (v2 : Int32) (v3 : Int32) (v4 : Int32) (v5 : Int32) (D : dT) : ev l E (d + 4) yX6_strapsFor cX6_strapsFor 7 (some .int) 57 [(0, .inr (.inr 378)), (1, .inl x1), (2, .inl v2), (3, .inl v3), (4, .inl v4), (5, .inl v5)] [] D eI (F_X6_strapsFor_57 x1 k8 v2 v3 v4 v5 D) := by
  unfold F_X6_strapsFor_57
  refine ev_s (fun Q k => rn_iconst (v := 1) (by decide) dX6_strapsFor_57 k) ?_
  refine ev_s (fun Q k => rn_goto (tgt := 62) dX6_strapsFor_58 (by decide) k) ?_
  exact e_X6_strapsFor_62 l E d x1 k8 hk8  v2 v3 v4 v5 (1 : Int32) D

set_option maxRecDepth 20000 in
theorem e_X6_strapsFor_61 (l : Launch) (E : eE) (d : Nat) (x1 : Int32) (k8 : Int32 → Int32 → Int32 → dT → Option (Int32 × dT)) (hk8 : ∀ (v2 : Int32) (v3 : Int32) (v4 : Int32) (D : dT), ev l E (d + 4) yX6_strapsFor cX6_strapsFor 7 (some .int) 8 [(0, .inr (.inr 378)), (1, .inl x1), (2, .inl v2), (3, .inl v3), (4, .inl v4)] [] D eI (k8 v2 v3 v4 D)) (v2 : Int32) (v3 : Int32) (v4 : Int32) (v5 : Int32) (D : dT) : ev l E (d + 4) yX6_strapsFor cX6_strapsFor 7 (some .int) 61 [(0, .inr (.inr 378)), (1, .inl x1), (2, .inl v2), (3, .inl v3), (4, .inl v4), (5, .inl v5)] [] D eI (F_X6_strapsFor_61 x1 k8 v2 v3 v4 v5 D) := by
  unfold F_X6_strapsFor_61
  refine ev_s (fun Q k => rn_iconst (v := 0) (by decide) dX6_strapsFor_61 k) ?_
  exact e_X6_strapsFor_62 l E d x1 k8 hk8  v2 v3 v4 v5 (0 : Int32) D

set_option maxRecDepth 20000 in
theorem e_X6_strapsFor_30 (l : Launch) (E : eE) (d : Nat) (x1 : Int32) (k8 : Int32 → Int32 → Int32 → dT → Option (Int32 × dT)) (hk8 : ∀ (v2 : Int32) (v3 : Int32) (v4 : Int32) (D : dT), ev l E (d + 4) yX6_strapsFor cX6_strapsFor 7 (some .int) 8 [(0, .inr (.inr 378)), (1, .inl x1), (2, .inl v2), (3, .inl v3), (4, .inl v4)] [] D eI (k8 v2 v3 v4 D)) (v2 : Int32) (v3 : Int32) (v4 : Int32) (s0 : Int32) (s1 : Int32) (D : dT) : ev l E (d + 4) yX6_strapsFor cX6_strapsFor 7 (some .int) 30 [(0, .inr (.inr 378)), (1, .inl x1), (2, .inl v2), (3, .inl v3), (4, .inl v4)] [.inl s0, .inl s1, .inr (.inr 378)] D eI (F_X6_strapsFor_30 x1 k8 v2 v3 v4 s0 s1 D) := by
  unfold F_X6_strapsFor_30
  refine ev_bindI (as := [.inr (.inr 378), .inl s1, .inl s0]) (fun Q Q1 => rn_callV (as := [.inl s1, .inl s0]) (rest := []) (o := 378) m_X6_74 dX6_strapsFor_30 (rcv_own ok_378.1 ok_378.2.1 (by decide) (okO_1 ok_378)) rfl rfl (Nat.le_of_ble_eq_true rfl)) pl_X6_crewFor (Nat.le_of_ble_eq_true rfl) rfl (e_X6_crewFor l E d s1 s0 D) (fun r1 D2 => ?_)
  refine ev_s (fun Q k => rn_istore (j := 5) (ls' := [(5, .inl r1), (0, .inr (.inr 378)), (1, .inl x1), (2, .inl v2), (3, .inl v3), (4, .inl v4)]) (by decide) rfl dX6_strapsFor_33 k) ?_
  refine ev_s (fun Q k => rn_iload (j := 5) 0 rfl dX6_strapsFor_35 k) ?_
  refine ev_s (fun Q k => rn_bipush (v := -6) (by decide) dX6_strapsFor_37 k) ?_
  refine ev_if (fun Q => rn_icmp_eq (tgt := 61) dX6_strapsFor_39 (by decide)) (fun c9 => ?_) (fun c10 => ?_)
  · refine ev_s (fun Q k => rn_sub (ls' := [(0, .inr (.inr 378)), (1, .inl x1), (2, .inl v2), (3, .inl v3), (4, .inl v4), (5, .inl r1)]) [1, 2, 3, 4, 5, 0] rfl k) ?_
    exact e_X6_strapsFor_61 l E d x1 k8 hk8  v2 v3 v4 r1 D2
  · refine ev_s (fun Q k => rn_iload_n (j := 2) 3 rfl rfl dX6_strapsFor_42 k) ?_
    refine ev_s (fun Q k => rn_bipush (v := -6) (by decide) dX6_strapsFor_43 k) ?_
    refine ev_if (fun Q => rn_icmp_eq (tgt := 57) dX6_strapsFor_45 (by decide)) (fun c7 => ?_) (fun c8 => ?_)
    · refine ev_s (fun Q k => rn_sub (ls' := [(0, .inr (.inr 378)), (1, .inl x1), (2, .inl v2), (3, .inl v3), (4, .inl v4), (5, .inl r1)]) [1, 2, 3, 4, 5, 0] rfl k) ?_
      exact e_X6_strapsFor_57 l E d x1 k8 hk8  v2 v3 v4 r1 D2
    · refine ev_s (fun Q k => rn_iload (j := 5) 0 rfl dX6_strapsFor_48 k) ?_
      refine ev_bindI (as := [.inl r1]) (fun Q Q1 => rn_callS (as := [.inl r1]) (rest := []) m_X6_54 dX6_strapsFor_50 rfl rfl (Nat.le_of_ble_eq_true rfl)) pl_X6_ones (Nat.le_of_ble_eq_true rfl) rfl (e_X6_ones l E (d + 3) r1 D2) (fun r3 D4 => ?_)
      refine ev_s (fun Q k => rn_iload_n (j := 3) 4 rfl rfl dX6_strapsFor_53 k) ?_
      refine ev_if (fun Q => rn_icmp_ge (tgt := 61) dX6_strapsFor_54 (by decide)) (fun c5 => ?_) (fun c6 => ?_)
      · refine ev_s (fun Q k => rn_sub (ls' := [(0, .inr (.inr 378)), (1, .inl x1), (2, .inl v2), (3, .inl v3), (4, .inl v4), (5, .inl r1)]) [1, 2, 3, 4, 5, 0] rfl k) ?_
        exact e_X6_strapsFor_61 l E d x1 k8 hk8  v2 v3 v4 r1 D4
      · refine ev_s (fun Q k => rn_sub (ls' := [(0, .inr (.inr 378)), (1, .inl x1), (2, .inl v2), (3, .inl v3), (4, .inl v4), (5, .inl r1)]) [1, 2, 3, 4, 5, 0] rfl k) ?_
        exact e_X6_strapsFor_57 l E d x1 k8 hk8  v2 v3 v4 r1 D4

set_option maxRecDepth 20000 in
theorem e_X6_strapsFor_8 (l : Launch) (E : eE) (d : Nat) (x1 : Int32)  (fuel : Nat) : ∀ (v2 : Int32) (v3 : Int32) (v4 : Int32) (D : dT), ev l E (d + 4) yX6_strapsFor cX6_strapsFor 7 (some .int) 8 [(0, .inr (.inr 378)), (1, .inl x1), (2, .inl v2), (3, .inl v3), (4, .inl v4)] [] D eI (F_X6_strapsFor_8 fuel x1 v2 v3 v4 D) := by
  induction fuel with
  | zero =>
    intro v2 v3 v4 D
    exact ev_none
  | succ fu ih =>
    intro v2 v3 v4 D
    rw [F_X6_strapsFor_8]
    refine ev_s (fun Q k => rn_iload (j := 4) 4 rfl dX6_strapsFor_8 k) ?_
    refine ev_s (fun Q k => rn_iconst (v := 4) (by decide) dX6_strapsFor_10 k) ?_
    refine ev_if (fun Q => rn_icmp_ge (tgt := 108) dX6_strapsFor_11 (by decide)) (fun c3 => ?_) (fun c4 => ?_)
    · refine ev_s (fun Q k => rn_iload_n (j := 2) 2 rfl rfl dX6_strapsFor_108 k) ?_
      exact ev_ret (fun Q q => rn_ret q .int rfl rfl dX6_strapsFor_109)
    · refine ev_s (fun Q k => rn_aload_n (j := 0) 0 rfl rfl (okO_0 ok_378) dX6_strapsFor_14 k) ?_
      refine ev_s (fun Q k => rn_iload_n (j := 1) 1 rfl rfl dX6_strapsFor_15 k) ?_
      refine ev_s (fun Q k => rn_iload (j := 4) 4 rfl dX6_strapsFor_16 k) ?_
      refine ev_if (fun Q => rn_if_ne (tgt := 26) dX6_strapsFor_18 (by decide)) (fun c1 => ?_) (fun c2 => ?_)
      · refine ev_s (fun Q k => rn_bipush (v := -6) (by decide) dX6_strapsFor_21 k) ?_
        refine ev_s (fun Q k => rn_goto (tgt := 30) dX6_strapsFor_23 (by decide) k) ?_
        exact e_X6_strapsFor_30 l E d x1 (fun (v2_ : Int32) (v3_ : Int32) (v4_ : Int32) (D_ : dT) => F_X6_strapsFor_8 fu x1 v2_ v3_ v4_ D_) (fun v2_ v3_ v4_ D_ => ih v2_ v3_ v4_ D_)  v2 v3 v4 (-6 : Int32) x1 D
      · refine ev_s (fun Q k => rn_iload (j := 4) 4 rfl dX6_strapsFor_26 k) ?_
        refine ev_s (fun Q k => rn_iconst (v := 1) (by decide) dX6_strapsFor_28 k) ?_
        refine ev_s (fun Q k => rn_isub dX6_strapsFor_29 k) ?_
        exact e_X6_strapsFor_30 l E d x1 (fun (v2_ : Int32) (v3_ : Int32) (v4_ : Int32) (D_ : dT) => F_X6_strapsFor_8 fu x1 v2_ v3_ v4_ D_) (fun v2_ v3_ v4_ D_ => ih v2_ v3_ v4_ D_)  v2 v3 v4 (v4 - (1 : Int32)) x1 D

set_option maxRecDepth 20000 in
theorem e_X6_strapsFor (l : Launch) (E : eE) (d : Nat) (x1 : Int32) (D : dT) : ev l E (d + 4) yX6_strapsFor cX6_strapsFor 7 (some .int) 0 [(0, .inr (.inr 378)), (1, .inl x1)] [] D eI (F_X6_strapsFor x1 D) := by
  unfold F_X6_strapsFor
  refine ev_s (fun Q k => rn_bipush (v := -6) (by decide) dX6_strapsFor_0 k) ?_
  refine ev_s (fun Q k => rn_istore_n (j := 2) (ls' := [(2, .inl (-6 : Int32)), (0, .inr (.inr 378)), (1, .inl x1)]) rfl (by decide) rfl dX6_strapsFor_2 k) ?_
  refine ev_s (fun Q k => rn_iconst (v := 0) (by decide) dX6_strapsFor_3 k) ?_
  refine ev_s (fun Q k => rn_istore_n (j := 3) (ls' := [(3, .inl (0 : Int32)), (2, .inl (-6 : Int32)), (0, .inr (.inr 378)), (1, .inl x1)]) rfl (by decide) rfl dX6_strapsFor_4 k) ?_
  refine ev_s (fun Q k => rn_iconst (v := 0) (by decide) dX6_strapsFor_5 k) ?_
  refine ev_s (fun Q k => rn_istore (j := 4) (ls' := [(4, .inl (0 : Int32)), (3, .inl (0 : Int32)), (2, .inl (-6 : Int32)), (0, .inr (.inr 378)), (1, .inl x1)]) (by decide) rfl dX6_strapsFor_6 k) ?_
  refine ev_s (fun Q k => rn_sub (ls' := [(0, .inr (.inr 378)), (1, .inl x1), (2, .inl (-6 : Int32)), (3, .inl (0 : Int32)), (4, .inl (0 : Int32))]) [3, 4, 2, 1, 0] rfl k) ?_
  exact e_X6_strapsFor_8 l E d x1  lim (-6 : Int32) (0 : Int32) (0 : Int32) D

def F_X6_assigns_67  (k11 : Int32 → Int32 → Int32 → dT → Option (Int32 × dT)) (v1 : Int32) (v2 : Int32) (v3 : Int32) (D : dT) : Option (Int32 × dT) := bd (F_X6_waitingAt (0 : Int32) (v2 ||| ((1 : Int32) <<< (v3 &&& 31))) D) (fun (r1 : Int32) (D2 : dT) => k11 v1 (v2 ||| ((1 : Int32) <<< (v3 &&& 31))) r1 D2)
def F_X6_assigns_44  (k11 : Int32 → Int32 → Int32 → dT → Option (Int32 × dT)) (v1 : Int32) (v2 : Int32) (v3 : Int32) (s0 : Int32) (D : dT) : Option (Int32 × dT) := bd (F_X6_crewFor v3 s0 D) (fun (r1 : Int32) (D2 : dT) => bd (F_X6_begins v3 r1 s0 D2) (fun (r3 : Int32) (D4 : dT) => F_X6_assigns_67 k11 (v1 ||| ((1 : Int32) <<< (v3 &&& 31))) v2 v3 D4))
def F_X6_assigns_11 (fuel : Nat)   (v1 : Int32) (v2 : Int32) (v3 : Int32) (D : dT) : Option (Int32 × dT) := match fuel with
  | 0 => none
  | fu + 1 => if v3 = (-6 : Int32) then some (v1, D) else bd (F_X6_strapsFor v3 D) (fun (r1 : Int32) (D2 : dT) => if r1 = (-6 : Int32) then F_X6_assigns_67 (fun (v1_ : Int32) (v2_ : Int32) (v3_ : Int32) (D_ : dT) => F_X6_assigns_11 fu v1_ v2_ v3_ D_) v1 v2 v3 D2 else if r1 = (3 : Int32) then F_X6_assigns_44 (fun (v1_ : Int32) (v2_ : Int32) (v3_ : Int32) (D_ : dT) => F_X6_assigns_11 fu v1_ v2_ v3_ D_) v1 v2 v3 (-6 : Int32) D2 else F_X6_assigns_44 (fun (v1_ : Int32) (v2_ : Int32) (v3_ : Int32) (D_ : dT) => F_X6_assigns_11 fu v1_ v2_ v3_ D_) v1 v2 v3 r1 D2)
def F_X6_assigns  (D : dT) : Option (Int32 × dT) := bd (F_X6_waitingAt (0 : Int32) (0 : Int32) D) (fun (r1 : Int32) (D2 : dT) => F_X6_assigns_11 lim (0 : Int32) (0 : Int32) r1 D2)
set_option maxRecDepth 20000 in
theorem e_X6_assigns_67 (l : Launch) (E : eE) (d : Nat)  (k11 : Int32 → Int32 → Int32 → dT → Option (Int32 × dT)) (hk11 : ∀ (v1 : Int32) (v2 : Int32) (v3 : Int32) (D : dT), ev l E (d + 5) yX6_assigns cX6_assigns 6 (some .int) 11 [(0, .inr (.inr 378)), (1, .inl v1), (2, .inl v2), (3, .inl v3)] [] D eI (k11 v1 v2 v3 D)) (v1 : Int32) (v2 : Int32) (v3 : Int32) (D : dT) : ev l E (d + 5) yX6_assigns cX6_assigns 6 (some .int) 67 [(0, .inr (.inr 378)), (1, .inl v1), (2, .inl v2), (3, .inl v3)] [] D eI (F_X6_assigns_67 k11 v1 v2 v3 D) := by
  unfold F_X6_assigns_67
  refine ev_s (fun Q k => rn_iload_n (j := 2) 2 rfl rfl dX6_assigns_67 k) ?_
  refine ev_s (fun Q k => rn_iconst (v := 1) (by decide) dX6_assigns_68 k) ?_
  refine ev_s (fun Q k => rn_iload_n (j := 3) 3 rfl rfl dX6_assigns_69 k) ?_
  refine ev_s (fun Q k => rn_ishl dX6_assigns_70 k) ?_
  refine ev_s (fun Q k => rn_ior dX6_assigns_71 k) ?_
  refine ev_s (fun Q k => rn_istore_n (j := 2) (ls' := [(2, .inl (v2 ||| ((1 : Int32) <<< (v3 &&& 31)))), (0, .inr (.inr 378)), (1, .inl v1), (3, .inl v3)]) rfl (by decide) rfl dX6_assigns_72 k) ?_
  refine ev_s (fun Q k => rn_aload_n (j := 0) 1 rfl rfl (okO_0 ok_378) dX6_assigns_73 k) ?_
  refine ev_s (fun Q k => rn_iconst (v := 0) (by decide) dX6_assigns_74 k) ?_
  refine ev_s (fun Q k => rn_iload_n (j := 2) 0 rfl rfl dX6_assigns_75 k) ?_
  refine ev_bindI (as := [.inr (.inr 378), .inl (0 : Int32), .inl (v2 ||| ((1 : Int32) <<< (v3 &&& 31)))]) (fun Q Q1 => rn_callV (as := [.inl (0 : Int32), .inl (v2 ||| ((1 : Int32) <<< (v3 &&& 31)))]) (rest := []) (o := 378) m_X6_84 dX6_assigns_76 (rcv_own ok_378.1 ok_378.2.1 (by decide) (okO_1 ok_378)) rfl rfl (Nat.le_of_ble_eq_true rfl)) pl_X6_waitingAt (Nat.le_of_ble_eq_true rfl) rfl (e_X6_waitingAt l E (d + 2) (0 : Int32) (v2 ||| ((1 : Int32) <<< (v3 &&& 31))) D) (fun r1 D2 => ?_)
  refine ev_s (fun Q k => rn_istore_n (j := 3) (ls' := [(3, .inl r1), (2, .inl (v2 ||| ((1 : Int32) <<< (v3 &&& 31)))), (0, .inr (.inr 378)), (1, .inl v1)]) rfl (by decide) rfl dX6_assigns_79 k) ?_
  refine ev_s (fun Q k => rn_goto (tgt := 11) dX6_assigns_80 (by decide) k) ?_
  refine ev_s (fun Q k => rn_sub (ls' := [(0, .inr (.inr 378)), (1, .inl v1), (2, .inl (v2 ||| ((1 : Int32) <<< (v3 &&& 31)))), (3, .inl r1)]) [2, 3, 1, 0] rfl k) ?_
  exact hk11 v1 (v2 ||| ((1 : Int32) <<< (v3 &&& 31))) r1 D2

set_option maxRecDepth 20000 in
theorem e_X6_assigns_44 (l : Launch) (E : eE) (d : Nat)  (k11 : Int32 → Int32 → Int32 → dT → Option (Int32 × dT)) (hk11 : ∀ (v1 : Int32) (v2 : Int32) (v3 : Int32) (D : dT), ev l E (d + 5) yX6_assigns cX6_assigns 6 (some .int) 11 [(0, .inr (.inr 378)), (1, .inl v1), (2, .inl v2), (3, .inl v3)] [] D eI (k11 v1 v2 v3 D)) (v1 : Int32) (v2 : Int32) (v3 : Int32) (s0 : Int32) (D : dT) : ev l E (d + 5) yX6_assigns cX6_assigns 6 (some .int) 44 [(0, .inr (.inr 378)), (1, .inl v1), (2, .inl v2), (3, .inl v3)] [.inl s0] D eI (F_X6_assigns_44 k11 v1 v2 v3 s0 D) := by
  unfold F_X6_assigns_44
  refine ev_s (fun Q k => rn_istore (j := 5) (ls' := [(5, .inl s0), (0, .inr (.inr 378)), (1, .inl v1), (2, .inl v2), (3, .inl v3)]) (by decide) rfl dX6_assigns_44 k) ?_
  refine ev_s (fun Q k => rn_aload_n (j := 0) 1 rfl rfl (okO_0 ok_378) dX6_assigns_46 k) ?_
  refine ev_s (fun Q k => rn_iload_n (j := 3) 4 rfl rfl dX6_assigns_47 k) ?_
  refine ev_s (fun Q k => rn_aload_n (j := 0) 1 rfl rfl (okO_0 ok_378) dX6_assigns_48 k) ?_
  refine ev_s (fun Q k => rn_iload_n (j := 3) 4 rfl rfl dX6_assigns_49 k) ?_
  refine ev_s (fun Q k => rn_iload (j := 5) 0 rfl dX6_assigns_50 k) ?_
  refine ev_bindI (as := [.inr (.inr 378), .inl v3, .inl s0]) (fun Q Q1 => rn_callV (as := [.inl v3, .inl s0]) (rest := [.inl v3, .inr (.inr 378)]) (o := 378) m_X6_74 dX6_assigns_52 (rcv_own ok_378.1 ok_378.2.1 (by decide) (okO_1 ok_378)) rfl rfl (Nat.le_of_ble_eq_true rfl)) pl_X6_crewFor (Nat.le_of_ble_eq_true rfl) rfl (e_X6_crewFor l E (d + 1) v3 s0 D) (fun r1 D2 => ?_)
  refine ev_s (fun Q k => rn_iload (j := 5) 0 rfl dX6_assigns_55 k) ?_
  refine ev_bindI (as := [.inr (.inr 378), .inl v3, .inl r1, .inl s0]) (fun Q Q1 => rn_callV (as := [.inl v3, .inl r1, .inl s0]) (rest := []) (o := 378) m_X6_90 dX6_assigns_57 (rcv_own ok_378.1 ok_378.2.1 (by decide) (okO_1 ok_378)) rfl rfl (Nat.le_of_ble_eq_true rfl)) pl_X6_begins (Nat.le_of_ble_eq_true rfl) rfl (e_X6_begins l E (d + 2) v3 r1 s0 D2) (fun r3 D4 => ?_)
  refine ev_s (fun Q k => rn_pop rfl dX6_assigns_60 k) ?_
  refine ev_s (fun Q k => rn_iload_n (j := 1) 2 rfl rfl dX6_assigns_61 k) ?_
  refine ev_s (fun Q k => rn_iconst (v := 1) (by decide) dX6_assigns_62 k) ?_
  refine ev_s (fun Q k => rn_iload_n (j := 3) 4 rfl rfl dX6_assigns_63 k) ?_
  refine ev_s (fun Q k => rn_ishl dX6_assigns_64 k) ?_
  refine ev_s (fun Q k => rn_ior dX6_assigns_65 k) ?_
  refine ev_s (fun Q k => rn_istore_n (j := 1) (ls' := [(1, .inl (v1 ||| ((1 : Int32) <<< (v3 &&& 31)))), (5, .inl s0), (0, .inr (.inr 378)), (2, .inl v2), (3, .inl v3)]) rfl (by decide) rfl dX6_assigns_66 k) ?_
  refine ev_s (fun Q k => rn_sub (ls' := [(0, .inr (.inr 378)), (1, .inl (v1 ||| ((1 : Int32) <<< (v3 &&& 31)))), (2, .inl v2), (3, .inl v3)]) [2, 0, 3, 4] rfl k) ?_
  exact e_X6_assigns_67 l E d  k11 hk11  (v1 ||| ((1 : Int32) <<< (v3 &&& 31))) v2 v3 D4

set_option maxRecDepth 20000 in
theorem e_X6_assigns_11 (l : Launch) (E : eE) (d : Nat)   (fuel : Nat) : ∀ (v1 : Int32) (v2 : Int32) (v3 : Int32) (D : dT), ev l E (d + 5) yX6_assigns cX6_assigns 6 (some .int) 11 [(0, .inr (.inr 378)), (1, .inl v1), (2, .inl v2), (3, .inl v3)] [] D eI (F_X6_assigns_11 fuel v1 v2 v3 D) := by
  induction fuel with
  | zero =>
    intro v1 v2 v3 D
    exact ev_none
  | succ fu ih =>
    intro v1 v2 v3 D
    rw [F_X6_assigns_11]
    refine ev_s (fun Q k => rn_iload_n (j := 3) 3 rfl rfl dX6_assigns_11 k) ?_
    refine ev_s (fun Q k => rn_bipush (v := -6) (by decide) dX6_assigns_12 k) ?_
    refine ev_if (fun Q => rn_icmp_eq (tgt := 83) dX6_assigns_14 (by decide)) (fun c7 => ?_) (fun c8 => ?_)
    · refine ev_s (fun Q k => rn_iload_n (j := 1) 1 rfl rfl dX6_assigns_83 k) ?_
      exact ev_ret (fun Q q => rn_ret q .int rfl rfl dX6_assigns_84)
    · refine ev_s (fun Q k => rn_aload_n (j := 0) 0 rfl rfl (okO_0 ok_378) dX6_assigns_17 k) ?_
      refine ev_s (fun Q k => rn_iload_n (j := 3) 3 rfl rfl dX6_assigns_18 k) ?_
      refine ev_bindI (as := [.inr (.inr 378), .inl v3]) (fun Q Q1 => rn_callV (as := [.inl v3]) (rest := []) (o := 378) m_X6_87 dX6_assigns_19 (rcv_own ok_378.1 ok_378.2.1 (by decide) (okO_1 ok_378)) rfl rfl (Nat.le_of_ble_eq_true rfl)) pl_X6_strapsFor (Nat.le_of_ble_eq_true rfl) rfl (e_X6_strapsFor l E d v3 D) (fun r1 D2 => ?_)
      refine ev_s (fun Q k => rn_istore (j := 4) (ls' := [(4, .inl r1), (0, .inr (.inr 378)), (1, .inl v1), (2, .inl v2), (3, .inl v3)]) (by decide) rfl dX6_assigns_22 k) ?_
      refine ev_s (fun Q k => rn_iload (j := 4) 0 rfl dX6_assigns_24 k) ?_
      refine ev_s (fun Q k => rn_bipush (v := -6) (by decide) dX6_assigns_26 k) ?_
      refine ev_if (fun Q => rn_icmp_eq (tgt := 67) dX6_assigns_28 (by decide)) (fun c5 => ?_) (fun c6 => ?_)
      · refine ev_s (fun Q k => rn_sub (ls' := [(0, .inr (.inr 378)), (1, .inl v1), (2, .inl v2), (3, .inl v3)]) [1, 2, 3, 4] rfl k) ?_
        exact e_X6_assigns_67 l E d  (fun (v1_ : Int32) (v2_ : Int32) (v3_ : Int32) (D_ : dT) => F_X6_assigns_11 fu v1_ v2_ v3_ D_) (fun v1_ v2_ v3_ D_ => ih v1_ v2_ v3_ D_)  v1 v2 v3 D2
      · refine ev_s (fun Q k => rn_iload (j := 4) 0 rfl dX6_assigns_31 k) ?_
        refine ev_s (fun Q k => rn_iconst (v := 3) (by decide) dX6_assigns_33 k) ?_
        refine ev_if (fun Q => rn_icmp_ne (tgt := 42) dX6_assigns_34 (by decide)) (fun c3 => ?_) (fun c4 => ?_)
        · refine ev_s (fun Q k => rn_bipush (v := -6) (by decide) dX6_assigns_37 k) ?_
          refine ev_s (fun Q k => rn_goto (tgt := 44) dX6_assigns_39 (by decide) k) ?_
          refine ev_s (fun Q k => rn_sub (ls' := [(0, .inr (.inr 378)), (1, .inl v1), (2, .inl v2), (3, .inl v3)]) [1, 2, 3, 4] rfl k) ?_
          exact e_X6_assigns_44 l E d  (fun (v1_ : Int32) (v2_ : Int32) (v3_ : Int32) (D_ : dT) => F_X6_assigns_11 fu v1_ v2_ v3_ D_) (fun v1_ v2_ v3_ D_ => ih v1_ v2_ v3_ D_)  v1 v2 v3 (-6 : Int32) D2
        · refine ev_s (fun Q k => rn_iload (j := 4) 0 rfl dX6_assigns_42 k) ?_
          refine ev_s (fun Q k => rn_sub (ls' := [(0, .inr (.inr 378)), (1, .inl v1), (2, .inl v2), (3, .inl v3)]) [1, 2, 3, 4] rfl k) ?_
          exact e_X6_assigns_44 l E d  (fun (v1_ : Int32) (v2_ : Int32) (v3_ : Int32) (D_ : dT) => F_X6_assigns_11 fu v1_ v2_ v3_ D_) (fun v1_ v2_ v3_ D_ => ih v1_ v2_ v3_ D_)  v1 v2 v3 r1 D2

set_option maxRecDepth 20000 in
theorem e_X6_assigns (l : Launch) (E : eE) (d : Nat)  (D : dT) : ev l E (d + 5) yX6_assigns cX6_assigns 6 (some .int) 0 [(0, .inr (.inr 378))] [] D eI (F_X6_assigns D) := by
  unfold F_X6_assigns
  refine ev_s (fun Q k => rn_iconst (v := 0) (by decide) dX6_assigns_0 k) ?_
  refine ev_s (fun Q k => rn_istore_n (j := 1) (ls' := [(1, .inl (0 : Int32)), (0, .inr (.inr 378))]) rfl (by decide) rfl dX6_assigns_1 k) ?_
  refine ev_s (fun Q k => rn_iconst (v := 0) (by decide) dX6_assigns_2 k) ?_
  refine ev_s (fun Q k => rn_istore_n (j := 2) (ls' := [(2, .inl (0 : Int32)), (1, .inl (0 : Int32)), (0, .inr (.inr 378))]) rfl (by decide) rfl dX6_assigns_3 k) ?_
  refine ev_s (fun Q k => rn_aload_n (j := 0) 2 rfl rfl (okO_0 ok_378) dX6_assigns_4 k) ?_
  refine ev_s (fun Q k => rn_iconst (v := 0) (by decide) dX6_assigns_5 k) ?_
  refine ev_s (fun Q k => rn_iload_n (j := 2) 0 rfl rfl dX6_assigns_6 k) ?_
  refine ev_bindI (as := [.inr (.inr 378), .inl (0 : Int32), .inl (0 : Int32)]) (fun Q Q1 => rn_callV (as := [.inl (0 : Int32), .inl (0 : Int32)]) (rest := []) (o := 378) m_X6_84 dX6_assigns_7 (rcv_own ok_378.1 ok_378.2.1 (by decide) (okO_1 ok_378)) rfl rfl (Nat.le_of_ble_eq_true rfl)) pl_X6_waitingAt (Nat.le_of_ble_eq_true rfl) rfl (e_X6_waitingAt l E (d + 2) (0 : Int32) (0 : Int32) D) (fun r1 D2 => ?_)
  refine ev_s (fun Q k => rn_istore_n (j := 3) (ls' := [(3, .inl r1), (2, .inl (0 : Int32)), (1, .inl (0 : Int32)), (0, .inr (.inr 378))]) rfl (by decide) rfl dX6_assigns_10 k) ?_
  refine ev_s (fun Q k => rn_sub (ls' := [(0, .inr (.inr 378)), (1, .inl (0 : Int32)), (2, .inl (0 : Int32)), (3, .inl r1)]) [3, 2, 1, 0] rfl k) ?_
  exact e_X6_assigns_11 l E d   lim (0 : Int32) (0 : Int32) r1 D2

def F_X6_assign  (D : dT) : Option (Int32 × dT) := bd (F_X6_records  (up2 D 378 0 (0 : Int32))) (fun (r1 : Int32) (D2 : dT) => bd (F_X6_assigns  D2) (fun (r3 : Int32) (D4 : dT) => some (r3, D4)))
set_option maxRecDepth 20000 in
theorem e_X6_assign (l : Launch) (E : eE) (d : Nat)  (D : dT) : ev l E (d + 6) yX6_assign cX6_assign 1 (some .int) 0 [(0, .inr (.inr 378))] [] D eI (F_X6_assign D) := by
  unfold F_X6_assign
  refine ev_s (fun Q k => rn_aload_n (j := 0) 0 rfl rfl (okO_0 ok_378) dX6_assign_0 k) ?_
  refine ev_s (fun Q k => rn_iconst (v := 0) (by decide) dX6_assign_1 k) ?_
  refine ev_s (fun Q k => rn_puti f_X6_32 ok_378.1 ok_378.2.1 (okO_1 ok_378) rfl rfl rfl rfl dX6_assign_2 k) ?_
  refine ev_s (fun Q k => rn_aload_n (j := 0) 0 rfl rfl (okO_0 ok_378) dX6_assign_5 k) ?_
  refine ev_bindU (as := [.inr (.inr 378)]) (fun Q Q1 => rn_callV (as := []) (rest := []) (o := 378) m_X6_117 dX6_assign_6 (rcv_own ok_378.1 ok_378.2.1 (by decide) (okO_1 ok_378)) rfl rfl (Nat.le_of_ble_eq_true rfl)) pl_X6_records (Nat.le_of_ble_eq_true rfl) rfl (e_X6_records l E (d + 5)  (up2 D 378 0 (0 : Int32))) (fun r1 D2 => ?_)
  refine ev_s (fun Q k => rn_aload_n (j := 0) 0 rfl rfl (okO_0 ok_378) dX6_assign_9 k) ?_
  refine ev_bindI (as := [.inr (.inr 378)]) (fun Q Q1 => rn_callV (as := []) (rest := []) (o := 378) m_X6_145 dX6_assign_10 (rcv_own ok_378.1 ok_378.2.1 (by decide) (okO_1 ok_378)) rfl rfl (Nat.le_of_ble_eq_true rfl)) pl_X6_assigns (Nat.le_of_ble_eq_true rfl) rfl (e_X6_assigns l E d  D2) (fun r3 D4 => ?_)
  exact ev_ret (fun Q q => rn_ret q .int rfl rfl dX6_assign_13)

def F_X6_refusesDelay (x1 : Int32) (x2 : Int32) (D : dT) : Option (Int32 × dT) := bd (F_X6_isJob x1 D) (fun (r1 : Int32) (D2 : dT) => if r1 = 0 then some ((-1 : Int32), D2) else bd (F_X6_in x2 (1 : Int32) (20 : Int32) D2) (fun (r3 : Int32) (D4 : dT) => if r3 = 0 then some ((-2 : Int32), D4) else bd (F_X6_ofJobs x1 (5 : Int32) D4) (fun (r5 : Int32) (D6 : dT) => if r5 = (1 : Int32) then bd (F_X6_ofJobs x1 (9 : Int32) D6) (fun (r7 : Int32) (D8 : dT) => if (r7 + x2) ≤ (60 : Int32) then some ((0 : Int32), D8) else some ((-5 : Int32), D8)) else some ((-5 : Int32), D6))))
set_option maxRecDepth 20000 in
theorem e_X6_refusesDelay (l : Launch) (E : eE) (d : Nat) (x1 : Int32) (x2 : Int32) (D : dT) : ev l E (d + 2) yX6_refusesDelay cX6_refusesDelay 3 (some .int) 0 [(0, .inr (.inr 378)), (1, .inl x1), (2, .inl x2)] [] D eI (F_X6_refusesDelay x1 x2 D) := by
  unfold F_X6_refusesDelay
  refine ev_s (fun Q k => rn_aload_n (j := 0) 0 rfl rfl (okO_0 ok_378) dX6_refusesDelay_0 k) ?_
  refine ev_s (fun Q k => rn_iload_n (j := 1) 1 rfl rfl dX6_refusesDelay_1 k) ?_
  refine ev_bindI (as := [.inr (.inr 378), .inl x1]) (fun Q Q1 => rn_callV (as := [.inl x1]) (rest := []) (o := 378) m_X6_133 dX6_refusesDelay_2 (rcv_own ok_378.1 ok_378.2.1 (by decide) (okO_1 ok_378)) rfl rfl (Nat.le_of_ble_eq_true rfl)) pl_X6_isJob (Nat.le_of_ble_eq_true rfl) rfl (e_X6_isJob l E d x1 D) (fun r1 D2 => ?_)
  refine ev_if (fun Q => rn_if_ne (tgt := 10) dX6_refusesDelay_5 (by decide)) (fun c15 => ?_) (fun c16 => ?_)
  · refine ev_s (fun Q k => rn_iconst (v := -1) (by decide) dX6_refusesDelay_8 k) ?_
    exact ev_ret (fun Q q => rn_ret q .int rfl rfl dX6_refusesDelay_9)
  · refine ev_s (fun Q k => rn_iload_n (j := 2) 2 rfl rfl dX6_refusesDelay_10 k) ?_
    refine ev_s (fun Q k => rn_iconst (v := 1) (by decide) dX6_refusesDelay_11 k) ?_
    refine ev_s (fun Q k => rn_bipush (v := 20) (by decide) dX6_refusesDelay_12 k) ?_
    refine ev_bindI (as := [.inl x2, .inl (1 : Int32), .inl (20 : Int32)]) (fun Q Q1 => rn_callS (as := [.inl x2, .inl (1 : Int32), .inl (20 : Int32)]) (rest := []) m_X6_36 dX6_refusesDelay_14 rfl rfl (Nat.le_of_ble_eq_true rfl)) pl_X6_in (Nat.le_of_ble_eq_true rfl) rfl (e_X6_in l E (d + 1) x2 (1 : Int32) (20 : Int32) D2) (fun r3 D4 => ?_)
    refine ev_if (fun Q => rn_if_ne (tgt := 23) dX6_refusesDelay_17 (by decide)) (fun c13 => ?_) (fun c14 => ?_)
    · refine ev_s (fun Q k => rn_bipush (v := -2) (by decide) dX6_refusesDelay_20 k) ?_
      exact ev_ret (fun Q q => rn_ret q .int rfl rfl dX6_refusesDelay_22)
    · refine ev_s (fun Q k => rn_aload_n (j := 0) 0 rfl rfl (okO_0 ok_378) dX6_refusesDelay_23 k) ?_
      refine ev_s (fun Q k => rn_iload_n (j := 1) 1 rfl rfl dX6_refusesDelay_24 k) ?_
      refine ev_s (fun Q k => rn_iconst (v := 5) (by decide) dX6_refusesDelay_25 k) ?_
      refine ev_bindI (as := [.inr (.inr 378), .inl x1, .inl (5 : Int32)]) (fun Q Q1 => rn_callV (as := [.inl x1, .inl (5 : Int32)]) (rest := []) (o := 378) m_X6_43 dX6_refusesDelay_26 (rcv_own ok_378.1 ok_378.2.1 (by decide) (okO_1 ok_378)) rfl rfl (Nat.le_of_ble_eq_true rfl)) pl_X6_ofJobs (Nat.le_of_ble_eq_true rfl) rfl (e_X6_ofJobs l E (d + 1) x1 (5 : Int32) D4) (fun r5 D6 => ?_)
      refine ev_s (fun Q k => rn_iconst (v := 1) (by decide) dX6_refusesDelay_29 k) ?_
      refine ev_if (fun Q => rn_icmp_ne (tgt := 47) dX6_refusesDelay_30 (by decide)) (fun c11 => ?_) (fun c12 => ?_)
      · refine ev_s (fun Q k => rn_aload_n (j := 0) 0 rfl rfl (okO_0 ok_378) dX6_refusesDelay_33 k) ?_
        refine ev_s (fun Q k => rn_iload_n (j := 1) 1 rfl rfl dX6_refusesDelay_34 k) ?_
        refine ev_s (fun Q k => rn_bipush (v := 9) (by decide) dX6_refusesDelay_35 k) ?_
        refine ev_bindI (as := [.inr (.inr 378), .inl x1, .inl (9 : Int32)]) (fun Q Q1 => rn_callV (as := [.inl x1, .inl (9 : Int32)]) (rest := []) (o := 378) m_X6_43 dX6_refusesDelay_37 (rcv_own ok_378.1 ok_378.2.1 (by decide) (okO_1 ok_378)) rfl rfl (Nat.le_of_ble_eq_true rfl)) pl_X6_ofJobs (Nat.le_of_ble_eq_true rfl) rfl (e_X6_ofJobs l E (d + 1) x1 (9 : Int32) D6) (fun r7 D8 => ?_)
        refine ev_s (fun Q k => rn_iload_n (j := 2) 2 rfl rfl dX6_refusesDelay_40 k) ?_
        refine ev_s (fun Q k => rn_iadd dX6_refusesDelay_41 k) ?_
        refine ev_s (fun Q k => rn_bipush (v := 60) (by decide) dX6_refusesDelay_42 k) ?_
        refine ev_if (fun Q => rn_icmp_le (tgt := 52) dX6_refusesDelay_44 (by decide)) (fun c9 => ?_) (fun c10 => ?_)
        · refine ev_s (fun Q k => rn_iconst (v := 0) (by decide) dX6_refusesDelay_52 k) ?_
          exact ev_ret (fun Q q => rn_ret q .int rfl rfl dX6_refusesDelay_53)
        · refine ev_s (fun Q k => rn_bipush (v := -5) (by decide) dX6_refusesDelay_47 k) ?_
          refine ev_s (fun Q k => rn_goto (tgt := 53) dX6_refusesDelay_49 (by decide) k) ?_
          exact ev_ret (fun Q q => rn_ret q .int rfl rfl dX6_refusesDelay_53)
      · refine ev_s (fun Q k => rn_bipush (v := -5) (by decide) dX6_refusesDelay_47 k) ?_
        refine ev_s (fun Q k => rn_goto (tgt := 53) dX6_refusesDelay_49 (by decide) k) ?_
        exact ev_ret (fun Q q => rn_ret q .int rfl rfl dX6_refusesDelay_53)

def F_X6_delays (x1 : Int32) (x2 : Int32) (D : dT) : Option (Int32 × dT) := bd (F_X6_ofJobs x1 (9 : Int32) D) (fun (r1 : Int32) (D2 : dT) => bd (F_X6_lay x1 (9 : Int32) (r1 + x2) D2) (fun (r3 : Int32) (D4 : dT) => bd (F_X6_ofJobs x1 (9 : Int32) D4) (fun (r5 : Int32) (D6 : dT) => some (r5, D6))))
set_option maxRecDepth 20000 in
theorem e_X6_delays (l : Launch) (E : eE) (d : Nat) (x1 : Int32) (x2 : Int32) (D : dT) : ev l E (d + 1) yX6_delays cX6_delays 3 (some .int) 0 [(0, .inr (.inr 378)), (1, .inl x1), (2, .inl x2)] [] D eI (F_X6_delays x1 x2 D) := by
  unfold F_X6_delays
  refine ev_s (fun Q k => rn_aload_n (j := 0) 0 rfl rfl (okO_0 ok_378) dX6_delays_0 k) ?_
  refine ev_s (fun Q k => rn_iload_n (j := 1) 1 rfl rfl dX6_delays_1 k) ?_
  refine ev_s (fun Q k => rn_bipush (v := 9) (by decide) dX6_delays_2 k) ?_
  refine ev_s (fun Q k => rn_aload_n (j := 0) 0 rfl rfl (okO_0 ok_378) dX6_delays_4 k) ?_
  refine ev_s (fun Q k => rn_iload_n (j := 1) 1 rfl rfl dX6_delays_5 k) ?_
  refine ev_s (fun Q k => rn_bipush (v := 9) (by decide) dX6_delays_6 k) ?_
  refine ev_bindI (as := [.inr (.inr 378), .inl x1, .inl (9 : Int32)]) (fun Q Q1 => rn_callV (as := [.inl x1, .inl (9 : Int32)]) (rest := [.inl (9 : Int32), .inl x1, .inr (.inr 378)]) (o := 378) m_X6_43 dX6_delays_8 (rcv_own ok_378.1 ok_378.2.1 (by decide) (okO_1 ok_378)) rfl rfl (Nat.le_of_ble_eq_true rfl)) pl_X6_ofJobs (Nat.le_of_ble_eq_true rfl) rfl (e_X6_ofJobs l E d x1 (9 : Int32) D) (fun r1 D2 => ?_)
  refine ev_s (fun Q k => rn_iload_n (j := 2) 2 rfl rfl dX6_delays_11 k) ?_
  refine ev_s (fun Q k => rn_iadd dX6_delays_12 k) ?_
  refine ev_bindU (as := [.inr (.inr 378), .inl x1, .inl (9 : Int32), .inl (r1 + x2)]) (fun Q Q1 => rn_callV (as := [.inl x1, .inl (9 : Int32), .inl (r1 + x2)]) (rest := []) (o := 378) m_X6_77 dX6_delays_13 (rcv_own ok_378.1 ok_378.2.1 (by decide) (okO_1 ok_378)) rfl rfl (Nat.le_of_ble_eq_true rfl)) pl_X6_lay (Nat.le_of_ble_eq_true rfl) rfl (e_X6_lay l E d x1 (9 : Int32) (r1 + x2) D2) (fun r3 D4 => ?_)
  refine ev_s (fun Q k => rn_aload_n (j := 0) 0 rfl rfl (okO_0 ok_378) dX6_delays_16 k) ?_
  refine ev_s (fun Q k => rn_iload_n (j := 1) 1 rfl rfl dX6_delays_17 k) ?_
  refine ev_s (fun Q k => rn_bipush (v := 9) (by decide) dX6_delays_18 k) ?_
  refine ev_bindI (as := [.inr (.inr 378), .inl x1, .inl (9 : Int32)]) (fun Q Q1 => rn_callV (as := [.inl x1, .inl (9 : Int32)]) (rest := []) (o := 378) m_X6_43 dX6_delays_20 (rcv_own ok_378.1 ok_378.2.1 (by decide) (okO_1 ok_378)) rfl rfl (Nat.le_of_ble_eq_true rfl)) pl_X6_ofJobs (Nat.le_of_ble_eq_true rfl) rfl (e_X6_ofJobs l E d x1 (9 : Int32) D4) (fun r5 D6 => ?_)
  exact ev_ret (fun Q q => rn_ret q .int rfl rfl dX6_delays_23)

def F_X6_delay (x1 : Int32) (x2 : Int32) (D : dT) : Option (Int32 × dT) := bd (F_X6_refusesDelay x1 x2 (up2 D 378 0 (0 : Int32))) (fun (r1 : Int32) (D2 : dT) => if r1 = 0 then bd (F_X6_records  D2) (fun (r3 : Int32) (D4 : dT) => bd (F_X6_delays x1 x2 D4) (fun (r5 : Int32) (D6 : dT) => some (r5, D6))) else some (r1, D2))
set_option maxRecDepth 20000 in
theorem e_X6_delay (l : Launch) (E : eE) (d : Nat) (x1 : Int32) (x2 : Int32) (D : dT) : ev l E (d + 3) yX6_delay cX6_delay 4 (some .int) 0 [(0, .inr (.inr 378)), (1, .inl x1), (2, .inl x2)] [] D eI (F_X6_delay x1 x2 D) := by
  unfold F_X6_delay
  refine ev_s (fun Q k => rn_aload_n (j := 0) 0 rfl rfl (okO_0 ok_378) dX6_delay_0 k) ?_
  refine ev_s (fun Q k => rn_iconst (v := 0) (by decide) dX6_delay_1 k) ?_
  refine ev_s (fun Q k => rn_puti f_X6_32 ok_378.1 ok_378.2.1 (okO_1 ok_378) rfl rfl rfl rfl dX6_delay_2 k) ?_
  refine ev_s (fun Q k => rn_aload_n (j := 0) 0 rfl rfl (okO_0 ok_378) dX6_delay_5 k) ?_
  refine ev_s (fun Q k => rn_iload_n (j := 1) 1 rfl rfl dX6_delay_6 k) ?_
  refine ev_s (fun Q k => rn_iload_n (j := 2) 2 rfl rfl dX6_delay_7 k) ?_
  refine ev_bindI (as := [.inr (.inr 378), .inl x1, .inl x2]) (fun Q Q1 => rn_callV (as := [.inl x1, .inl x2]) (rest := []) (o := 378) m_X6_148 dX6_delay_8 (rcv_own ok_378.1 ok_378.2.1 (by decide) (okO_1 ok_378)) rfl rfl (Nat.le_of_ble_eq_true rfl)) pl_X6_refusesDelay (Nat.le_of_ble_eq_true rfl) rfl (e_X6_refusesDelay l E d x1 x2 (up2 D 378 0 (0 : Int32))) (fun r1 D2 => ?_)
  refine ev_s (fun Q k => rn_istore_n (j := 3) (ls' := [(3, .inl r1), (0, .inr (.inr 378)), (1, .inl x1), (2, .inl x2)]) rfl (by decide) rfl dX6_delay_11 k) ?_
  refine ev_s (fun Q k => rn_iload_n (j := 3) 0 rfl rfl dX6_delay_12 k) ?_
  refine ev_if (fun Q => rn_if_eq (tgt := 18) dX6_delay_13 (by decide)) (fun c7 => ?_) (fun c8 => ?_)
  · refine ev_s (fun Q k => rn_aload_n (j := 0) 1 rfl rfl (okO_0 ok_378) dX6_delay_18 k) ?_
    refine ev_bindU (as := [.inr (.inr 378)]) (fun Q Q1 => rn_callV (as := []) (rest := []) (o := 378) m_X6_117 dX6_delay_19 (rcv_own ok_378.1 ok_378.2.1 (by decide) (okO_1 ok_378)) rfl rfl (Nat.le_of_ble_eq_true rfl)) pl_X6_records (Nat.le_of_ble_eq_true rfl) rfl (e_X6_records l E (d + 2)  D2) (fun r3 D4 => ?_)
    refine ev_s (fun Q k => rn_aload_n (j := 0) 1 rfl rfl (okO_0 ok_378) dX6_delay_22 k) ?_
    refine ev_s (fun Q k => rn_iload_n (j := 1) 2 rfl rfl dX6_delay_23 k) ?_
    refine ev_s (fun Q k => rn_iload_n (j := 2) 3 rfl rfl dX6_delay_24 k) ?_
    refine ev_bindI (as := [.inr (.inr 378), .inl x1, .inl x2]) (fun Q Q1 => rn_callV (as := [.inl x1, .inl x2]) (rest := []) (o := 378) m_X6_151 dX6_delay_25 (rcv_own ok_378.1 ok_378.2.1 (by decide) (okO_1 ok_378)) rfl rfl (Nat.le_of_ble_eq_true rfl)) pl_X6_delays (Nat.le_of_ble_eq_true rfl) rfl (e_X6_delays l E (d + 1) x1 x2 D4) (fun r5 D6 => ?_)
    exact ev_ret (fun Q q => rn_ret q .int rfl rfl dX6_delay_28)
  · refine ev_s (fun Q k => rn_iload_n (j := 3) 0 rfl rfl dX6_delay_16 k) ?_
    exact ev_ret (fun Q q => rn_ret q .int rfl rfl dX6_delay_17)

def F_X6_refusesCall (x1 : Int32) (D : dT) : Option (Int32 × dT) := bd (F_X6_isJob x1 D) (fun (r1 : Int32) (D2 : dT) => if r1 = 0 then some ((-1 : Int32), D2) else bd (F_X6_ofJobs x1 (5 : Int32) D2) (fun (r3 : Int32) (D4 : dT) => if r3 ≤ (1 : Int32) then some ((0 : Int32), D4) else some ((-5 : Int32), D4)))
set_option maxRecDepth 20000 in
theorem e_X6_refusesCall (l : Launch) (E : eE) (d : Nat) (x1 : Int32) (D : dT) : ev l E (d + 2) yX6_refusesCall cX6_refusesCall 2 (some .int) 0 [(0, .inr (.inr 378)), (1, .inl x1)] [] D eI (F_X6_refusesCall x1 D) := by
  unfold F_X6_refusesCall
  refine ev_s (fun Q k => rn_aload_n (j := 0) 0 rfl rfl (okO_0 ok_378) dX6_refusesCall_0 k) ?_
  refine ev_s (fun Q k => rn_iload_n (j := 1) 1 rfl rfl dX6_refusesCall_1 k) ?_
  refine ev_bindI (as := [.inr (.inr 378), .inl x1]) (fun Q Q1 => rn_callV (as := [.inl x1]) (rest := []) (o := 378) m_X6_133 dX6_refusesCall_2 (rcv_own ok_378.1 ok_378.2.1 (by decide) (okO_1 ok_378)) rfl rfl (Nat.le_of_ble_eq_true rfl)) pl_X6_isJob (Nat.le_of_ble_eq_true rfl) rfl (e_X6_isJob l E d x1 D) (fun r1 D2 => ?_)
  refine ev_if (fun Q => rn_if_ne (tgt := 12) dX6_refusesCall_5 (by decide)) (fun c7 => ?_) (fun c8 => ?_)
  · refine ev_s (fun Q k => rn_iconst (v := -1) (by decide) dX6_refusesCall_8 k) ?_
    refine ev_s (fun Q k => rn_goto (tgt := 28) dX6_refusesCall_9 (by decide) k) ?_
    exact ev_ret (fun Q q => rn_ret q .int rfl rfl dX6_refusesCall_28)
  · refine ev_s (fun Q k => rn_aload_n (j := 0) 0 rfl rfl (okO_0 ok_378) dX6_refusesCall_12 k) ?_
    refine ev_s (fun Q k => rn_iload_n (j := 1) 1 rfl rfl dX6_refusesCall_13 k) ?_
    refine ev_s (fun Q k => rn_iconst (v := 5) (by decide) dX6_refusesCall_14 k) ?_
    refine ev_bindI (as := [.inr (.inr 378), .inl x1, .inl (5 : Int32)]) (fun Q Q1 => rn_callV (as := [.inl x1, .inl (5 : Int32)]) (rest := []) (o := 378) m_X6_43 dX6_refusesCall_15 (rcv_own ok_378.1 ok_378.2.1 (by decide) (okO_1 ok_378)) rfl rfl (Nat.le_of_ble_eq_true rfl)) pl_X6_ofJobs (Nat.le_of_ble_eq_true rfl) rfl (e_X6_ofJobs l E (d + 1) x1 (5 : Int32) D2) (fun r3 D4 => ?_)
    refine ev_s (fun Q k => rn_iconst (v := 1) (by decide) dX6_refusesCall_18 k) ?_
    refine ev_if (fun Q => rn_icmp_le (tgt := 27) dX6_refusesCall_19 (by decide)) (fun c5 => ?_) (fun c6 => ?_)
    · refine ev_s (fun Q k => rn_iconst (v := 0) (by decide) dX6_refusesCall_27 k) ?_
      exact ev_ret (fun Q q => rn_ret q .int rfl rfl dX6_refusesCall_28)
    · refine ev_s (fun Q k => rn_bipush (v := -5) (by decide) dX6_refusesCall_22 k) ?_
      refine ev_s (fun Q k => rn_goto (tgt := 28) dX6_refusesCall_24 (by decide) k) ?_
      exact ev_ret (fun Q q => rn_ret q .int rfl rfl dX6_refusesCall_28)

def F_X6_callsOff (x1 : Int32) (D : dT) : Option (Int32 × dT) := bd (F_X6_ofJobs x1 (7 : Int32) D) (fun (r1 : Int32) (D2 : dT) => bd (F_X6_lay x1 (5 : Int32) (3 : Int32) D2) (fun (r3 : Int32) (D4 : dT) => some (r1, D4)))
set_option maxRecDepth 20000 in
theorem e_X6_callsOff (l : Launch) (E : eE) (d : Nat) (x1 : Int32) (D : dT) : ev l E (d + 1) yX6_callsOff cX6_callsOff 3 (some .int) 0 [(0, .inr (.inr 378)), (1, .inl x1)] [] D eI (F_X6_callsOff x1 D) := by
  unfold F_X6_callsOff
  refine ev_s (fun Q k => rn_aload_n (j := 0) 0 rfl rfl (okO_0 ok_378) dX6_callsOff_0 k) ?_
  refine ev_s (fun Q k => rn_iload_n (j := 1) 1 rfl rfl dX6_callsOff_1 k) ?_
  refine ev_s (fun Q k => rn_bipush (v := 7) (by decide) dX6_callsOff_2 k) ?_
  refine ev_bindI (as := [.inr (.inr 378), .inl x1, .inl (7 : Int32)]) (fun Q Q1 => rn_callV (as := [.inl x1, .inl (7 : Int32)]) (rest := []) (o := 378) m_X6_43 dX6_callsOff_4 (rcv_own ok_378.1 ok_378.2.1 (by decide) (okO_1 ok_378)) rfl rfl (Nat.le_of_ble_eq_true rfl)) pl_X6_ofJobs (Nat.le_of_ble_eq_true rfl) rfl (e_X6_ofJobs l E d x1 (7 : Int32) D) (fun r1 D2 => ?_)
  refine ev_s (fun Q k => rn_istore_n (j := 2) (ls' := [(2, .inl r1), (0, .inr (.inr 378)), (1, .inl x1)]) rfl (by decide) rfl dX6_callsOff_7 k) ?_
  refine ev_s (fun Q k => rn_aload_n (j := 0) 1 rfl rfl (okO_0 ok_378) dX6_callsOff_8 k) ?_
  refine ev_s (fun Q k => rn_iload_n (j := 1) 2 rfl rfl dX6_callsOff_9 k) ?_
  refine ev_s (fun Q k => rn_iconst (v := 5) (by decide) dX6_callsOff_10 k) ?_
  refine ev_s (fun Q k => rn_iconst (v := 3) (by decide) dX6_callsOff_11 k) ?_
  refine ev_bindU (as := [.inr (.inr 378), .inl x1, .inl (5 : Int32), .inl (3 : Int32)]) (fun Q Q1 => rn_callV (as := [.inl x1, .inl (5 : Int32), .inl (3 : Int32)]) (rest := []) (o := 378) m_X6_77 dX6_callsOff_12 (rcv_own ok_378.1 ok_378.2.1 (by decide) (okO_1 ok_378)) rfl rfl (Nat.le_of_ble_eq_true rfl)) pl_X6_lay (Nat.le_of_ble_eq_true rfl) rfl (e_X6_lay l E d x1 (5 : Int32) (3 : Int32) D2) (fun r3 D4 => ?_)
  refine ev_s (fun Q k => rn_iload_n (j := 2) 0 rfl rfl dX6_callsOff_15 k) ?_
  exact ev_ret (fun Q q => rn_ret q .int rfl rfl dX6_callsOff_16)

def F_X6_callOff (x1 : Int32) (D : dT) : Option (Int32 × dT) := bd (F_X6_refusesCall x1 (up2 D 378 0 (0 : Int32))) (fun (r1 : Int32) (D2 : dT) => if r1 = 0 then bd (F_X6_records  D2) (fun (r3 : Int32) (D4 : dT) => bd (F_X6_callsOff x1 D4) (fun (r5 : Int32) (D6 : dT) => some (r5, D6))) else some (r1, D2))
set_option maxRecDepth 20000 in
theorem e_X6_callOff (l : Launch) (E : eE) (d : Nat) (x1 : Int32) (D : dT) : ev l E (d + 3) yX6_callOff cX6_callOff 3 (some .int) 0 [(0, .inr (.inr 378)), (1, .inl x1)] [] D eI (F_X6_callOff x1 D) := by
  unfold F_X6_callOff
  refine ev_s (fun Q k => rn_aload_n (j := 0) 0 rfl rfl (okO_0 ok_378) dX6_callOff_0 k) ?_
  refine ev_s (fun Q k => rn_iconst (v := 0) (by decide) dX6_callOff_1 k) ?_
  refine ev_s (fun Q k => rn_puti f_X6_32 ok_378.1 ok_378.2.1 (okO_1 ok_378) rfl rfl rfl rfl dX6_callOff_2 k) ?_
  refine ev_s (fun Q k => rn_aload_n (j := 0) 0 rfl rfl (okO_0 ok_378) dX6_callOff_5 k) ?_
  refine ev_s (fun Q k => rn_iload_n (j := 1) 1 rfl rfl dX6_callOff_6 k) ?_
  refine ev_bindI (as := [.inr (.inr 378), .inl x1]) (fun Q Q1 => rn_callV (as := [.inl x1]) (rest := []) (o := 378) m_X6_154 dX6_callOff_7 (rcv_own ok_378.1 ok_378.2.1 (by decide) (okO_1 ok_378)) rfl rfl (Nat.le_of_ble_eq_true rfl)) pl_X6_refusesCall (Nat.le_of_ble_eq_true rfl) rfl (e_X6_refusesCall l E d x1 (up2 D 378 0 (0 : Int32))) (fun r1 D2 => ?_)
  refine ev_s (fun Q k => rn_istore_n (j := 2) (ls' := [(2, .inl r1), (0, .inr (.inr 378)), (1, .inl x1)]) rfl (by decide) rfl dX6_callOff_10 k) ?_
  refine ev_s (fun Q k => rn_iload_n (j := 2) 0 rfl rfl dX6_callOff_11 k) ?_
  refine ev_if (fun Q => rn_if_eq (tgt := 17) dX6_callOff_12 (by decide)) (fun c7 => ?_) (fun c8 => ?_)
  · refine ev_s (fun Q k => rn_aload_n (j := 0) 1 rfl rfl (okO_0 ok_378) dX6_callOff_17 k) ?_
    refine ev_bindU (as := [.inr (.inr 378)]) (fun Q Q1 => rn_callV (as := []) (rest := []) (o := 378) m_X6_117 dX6_callOff_18 (rcv_own ok_378.1 ok_378.2.1 (by decide) (okO_1 ok_378)) rfl rfl (Nat.le_of_ble_eq_true rfl)) pl_X6_records (Nat.le_of_ble_eq_true rfl) rfl (e_X6_records l E (d + 2)  D2) (fun r3 D4 => ?_)
    refine ev_s (fun Q k => rn_aload_n (j := 0) 1 rfl rfl (okO_0 ok_378) dX6_callOff_21 k) ?_
    refine ev_s (fun Q k => rn_iload_n (j := 1) 2 rfl rfl dX6_callOff_22 k) ?_
    refine ev_bindI (as := [.inr (.inr 378), .inl x1]) (fun Q Q1 => rn_callV (as := [.inl x1]) (rest := []) (o := 378) m_X6_157 dX6_callOff_23 (rcv_own ok_378.1 ok_378.2.1 (by decide) (okO_1 ok_378)) rfl rfl (Nat.le_of_ble_eq_true rfl)) pl_X6_callsOff (Nat.le_of_ble_eq_true rfl) rfl (e_X6_callsOff l E (d + 1) x1 D4) (fun r5 D6 => ?_)
    exact ev_ret (fun Q q => rn_ret q .int rfl rfl dX6_callOff_26)
  · refine ev_s (fun Q k => rn_iload_n (j := 2) 0 rfl rfl dX6_callOff_15 k) ?_
    exact ev_ret (fun Q q => rn_ret q .int rfl rfl dX6_callOff_16)

def F_X6_refusesHours (x1 : Int32) (D : dT) : Option (Int32 × dT) := bd (F_X6_in x1 (1 : Int32) (99 : Int32) D) (fun (r1 : Int32) (D2 : dT) => if r1 = 0 then some ((-2 : Int32), D2) else if inR (4 : Int32) 244 then if ((D2 379 (4 : Int32).toNatClampNeg) + x1) ≤ (9999 : Int32) then some ((0 : Int32), D2) else some ((-5 : Int32), D2) else none)
set_option maxRecDepth 20000 in
theorem e_X6_refusesHours (l : Launch) (E : eE) (d : Nat) (x1 : Int32) (D : dT) : ev l E (d + 1) yX6_refusesHours cX6_refusesHours 2 (some .int) 0 [(0, .inr (.inr 378)), (1, .inl x1)] [] D eI (F_X6_refusesHours x1 D) := by
  unfold F_X6_refusesHours
  refine ev_s (fun Q k => rn_iload_n (j := 1) 1 rfl rfl dX6_refusesHours_0 k) ?_
  refine ev_s (fun Q k => rn_iconst (v := 1) (by decide) dX6_refusesHours_1 k) ?_
  refine ev_s (fun Q k => rn_bipush (v := 99) (by decide) dX6_refusesHours_2 k) ?_
  refine ev_bindI (as := [.inl x1, .inl (1 : Int32), .inl (99 : Int32)]) (fun Q Q1 => rn_callS (as := [.inl x1, .inl (1 : Int32), .inl (99 : Int32)]) (rest := []) m_X6_36 dX6_refusesHours_4 rfl rfl (Nat.le_of_ble_eq_true rfl)) pl_X6_in (Nat.le_of_ble_eq_true rfl) rfl (e_X6_in l E d x1 (1 : Int32) (99 : Int32) D) (fun r1 D2 => ?_)
  refine ev_if (fun Q => rn_if_ne (tgt := 15) dX6_refusesHours_7 (by decide)) (fun c6 => ?_) (fun c7 => ?_)
  · refine ev_s (fun Q k => rn_bipush (v := -2) (by decide) dX6_refusesHours_10 k) ?_
    refine ev_s (fun Q k => rn_goto (tgt := 35) dX6_refusesHours_12 (by decide) k) ?_
    exact ev_ret (fun Q q => rn_ret q .int rfl rfl dX6_refusesHours_35)
  · refine ev_s (fun Q k => rn_aload_n (j := 0) 0 rfl rfl (okO_0 ok_378) dX6_refusesHours_15 k) ?_
    refine ev_s (fun Q k => rn_getr (q := 379) f_X6_7 ok_378.1 ok_378.2.1 (okO_1 ok_378) rfl rfl dX6_refusesHours_16 k) ?_
    refine ev_s (fun Q k => rn_iconst (v := 4) (by decide) dX6_refusesHours_19 k) ?_
    refine ev_gd (fun g3 => ?_)
    refine ev_s (fun Q k => rn_iald ok_379.1 ok_379.2.1 ok_379.2.2 (inR_vp g3) dX6_refusesHours_20 k) ?_
    refine ev_s (fun Q k => rn_iload_n (j := 1) 1 rfl rfl dX6_refusesHours_21 k) ?_
    refine ev_s (fun Q k => rn_iadd dX6_refusesHours_22 k) ?_
    refine ev_s (fun Q k => rn_sipush (v := 9999) (by decide) dX6_refusesHours_23 k) ?_
    refine ev_if (fun Q => rn_icmp_le (tgt := 34) dX6_refusesHours_26 (by decide)) (fun c4 => ?_) (fun c5 => ?_)
    · refine ev_s (fun Q k => rn_iconst (v := 0) (by decide) dX6_refusesHours_34 k) ?_
      exact ev_ret (fun Q q => rn_ret q .int rfl rfl dX6_refusesHours_35)
    · refine ev_s (fun Q k => rn_bipush (v := -5) (by decide) dX6_refusesHours_29 k) ?_
      refine ev_s (fun Q k => rn_goto (tgt := 35) dX6_refusesHours_31 (by decide) k) ?_
      exact ev_ret (fun Q q => rn_ret q .int rfl rfl dX6_refusesHours_35)

def F_X6_rest_71 (x1 : Int32) (k2 : Int32 → dT → Option (Int32 × dT)) (v2 : Int32) (s0 : Int32) (s1 : Int32) (s2 : Int32) (D : dT) : Option (Int32 × dT) := bd (F_X6_layPerson s2 s1 s0 D) (fun (r1 : Int32) (D2 : dT) => k2 (v2 + (1 : Int32)) D2)
def F_X6_rest_46 (x1 : Int32) (k2 : Int32 → dT → Option (Int32 × dT)) (v2 : Int32) (s0 : Int32) (D : dT) : Option (Int32 × dT) := if ((x1 >>> (v2 &&& 31)) &&& (1 : Int32)) = (1 : Int32) then F_X6_rest_71 x1 k2 v2 s0 (1 : Int32) v2 D else bd (F_X6_ofPerson v2 (1 : Int32) D) (fun (r1 : Int32) (D2 : dT) => F_X6_rest_71 x1 k2 v2 r1 (1 : Int32) v2 D2)
def F_X6_rest_2 (fuel : Nat) (x1 : Int32)  (v2 : Int32) (D : dT) : Option (Int32 × dT) := match fuel with
  | 0 => none
  | fu + 1 => if inR (5 : Int32) 244 then if (D 379 (5 : Int32).toNatClampNeg) ≤ v2 then some ((0 : Int32), D) else bd (F_X6_ofPerson v2 (1 : Int32) D) (fun (r2 : Int32) (D3 : dT) => if inR (1 : Int32) 244 then bd (F_X6_ofPerson v2 (0 : Int32) D3) (fun (r5 : Int32) (D6 : dT) => if r5 ≤ (r2 + (D3 379 (1 : Int32).toNatClampNeg)) then bd (F_X6_ofPerson v2 (0 : Int32) D6) (fun (r7 : Int32) (D8 : dT) => F_X6_rest_46 x1 (fun (v2_ : Int32) (D_ : dT) => F_X6_rest_2 fu x1 v2_ D_) v2 r7 D8) else F_X6_rest_46 x1 (fun (v2_ : Int32) (D_ : dT) => F_X6_rest_2 fu x1 v2_ D_) v2 (r2 + (D3 379 (1 : Int32).toNatClampNeg)) D6) else none) else none
def F_X6_rest (x1 : Int32) (D : dT) : Option (Int32 × dT) := F_X6_rest_2 lim x1 (0 : Int32) D
set_option maxRecDepth 20000 in
theorem e_X6_rest_71 (l : Launch) (E : eE) (d : Nat) (x1 : Int32) (k2 : Int32 → dT → Option (Int32 × dT)) (hk2 : ∀ (v2 : Int32) (D : dT), ev l E (d + 1) yX6_rest cX6_rest 5 none 2 [(0, .inr (.inr 378)), (1, .inl x1), (2, .inl v2)] [] D eU (k2 v2 D)) (v2 : Int32) (s0 : Int32) (s1 : Int32) (s2 : Int32) (D : dT) : ev l E (d + 1) yX6_rest cX6_rest 5 none 71 [(0, .inr (.inr 378)), (1, .inl x1), (2, .inl v2)] [.inl s0, .inl s1, .inl s2, .inr (.inr 378)] D eU (F_X6_rest_71 x1 k2 v2 s0 s1 s2 D) := by
  unfold F_X6_rest_71
  refine ev_bindU (as := [.inr (.inr 378), .inl s2, .inl s1, .inl s0]) (fun Q Q1 => rn_callV (as := [.inl s2, .inl s1, .inl s0]) (rest := []) (o := 378) m_X6_94 dX6_rest_71 (rcv_own ok_378.1 ok_378.2.1 (by decide) (okO_1 ok_378)) rfl rfl (Nat.le_of_ble_eq_true rfl)) pl_X6_layPerson (Nat.le_of_ble_eq_true rfl) rfl (e_X6_layPerson l E d s2 s1 s0 D) (fun r1 D2 => ?_)
  refine ev_s (fun Q k => rn_iinc (v := (v2 + (1 : Int32))) (ls' := [(2, .inl (v2 + (1 : Int32))), (0, .inr (.inr 378)), (1, .inl x1)]) 2 rfl rfl (by decide) rfl dX6_rest_74 k) ?_
  refine ev_s (fun Q k => rn_goto (tgt := 2) dX6_rest_77 (by decide) k) ?_
  refine ev_s (fun Q k => rn_sub (ls' := [(0, .inr (.inr 378)), (1, .inl x1), (2, .inl (v2 + (1 : Int32)))]) [1, 2, 0] rfl k) ?_
  exact hk2 (v2 + (1 : Int32)) D2

set_option maxRecDepth 20000 in
theorem e_X6_rest_46 (l : Launch) (E : eE) (d : Nat) (x1 : Int32) (k2 : Int32 → dT → Option (Int32 × dT)) (hk2 : ∀ (v2 : Int32) (D : dT), ev l E (d + 1) yX6_rest cX6_rest 5 none 2 [(0, .inr (.inr 378)), (1, .inl x1), (2, .inl v2)] [] D eU (k2 v2 D)) (v2 : Int32) (s0 : Int32) (D : dT) : ev l E (d + 1) yX6_rest cX6_rest 5 none 46 [(0, .inr (.inr 378)), (1, .inl x1), (2, .inl v2)] [.inl s0] D eU (F_X6_rest_46 x1 k2 v2 s0 D) := by
  unfold F_X6_rest_46
  refine ev_s (fun Q k => rn_istore (j := 4) (ls' := [(4, .inl s0), (0, .inr (.inr 378)), (1, .inl x1), (2, .inl v2)]) (by decide) rfl dX6_rest_46 k) ?_
  refine ev_s (fun Q k => rn_aload_n (j := 0) 1 rfl rfl (okO_0 ok_378) dX6_rest_48 k) ?_
  refine ev_s (fun Q k => rn_iload_n (j := 2) 3 rfl rfl dX6_rest_49 k) ?_
  refine ev_s (fun Q k => rn_iconst (v := 1) (by decide) dX6_rest_50 k) ?_
  refine ev_s (fun Q k => rn_iload_n (j := 1) 2 rfl rfl dX6_rest_51 k) ?_
  refine ev_s (fun Q k => rn_iload_n (j := 2) 3 rfl rfl dX6_rest_52 k) ?_
  refine ev_s (fun Q k => rn_ishr dX6_rest_53 k) ?_
  refine ev_s (fun Q k => rn_iconst (v := 1) (by decide) dX6_rest_54 k) ?_
  refine ev_s (fun Q k => rn_iand dX6_rest_55 k) ?_
  refine ev_s (fun Q k => rn_iconst (v := 1) (by decide) dX6_rest_56 k) ?_
  refine ev_if (fun Q => rn_icmp_ne (tgt := 65) dX6_rest_57 (by decide)) (fun c3 => ?_) (fun c4 => ?_)
  · refine ev_s (fun Q k => rn_iload (j := 4) 0 rfl dX6_rest_60 k) ?_
    refine ev_s (fun Q k => rn_goto (tgt := 71) dX6_rest_62 (by decide) k) ?_
    refine ev_s (fun Q k => rn_sub (ls' := [(0, .inr (.inr 378)), (1, .inl x1), (2, .inl v2)]) [1, 2, 3] rfl k) ?_
    exact e_X6_rest_71 l E d x1 k2 hk2  v2 s0 (1 : Int32) v2 D
  · refine ev_s (fun Q k => rn_aload_n (j := 0) 1 rfl rfl (okO_0 ok_378) dX6_rest_65 k) ?_
    refine ev_s (fun Q k => rn_iload_n (j := 2) 3 rfl rfl dX6_rest_66 k) ?_
    refine ev_s (fun Q k => rn_iconst (v := 1) (by decide) dX6_rest_67 k) ?_
    refine ev_bindI (as := [.inr (.inr 378), .inl v2, .inl (1 : Int32)]) (fun Q Q1 => rn_callV (as := [.inl v2, .inl (1 : Int32)]) (rest := [.inl (1 : Int32), .inl v2, .inr (.inr 378)]) (o := 378) m_X6_47 dX6_rest_68 (rcv_own ok_378.1 ok_378.2.1 (by decide) (okO_1 ok_378)) rfl rfl (Nat.le_of_ble_eq_true rfl)) pl_X6_ofPerson (Nat.le_of_ble_eq_true rfl) rfl (e_X6_ofPerson l E d v2 (1 : Int32) D) (fun r1 D2 => ?_)
    refine ev_s (fun Q k => rn_sub (ls' := [(0, .inr (.inr 378)), (1, .inl x1), (2, .inl v2)]) [1, 2, 3] rfl k) ?_
    exact e_X6_rest_71 l E d x1 k2 hk2  v2 r1 (1 : Int32) v2 D2

set_option maxRecDepth 20000 in
theorem e_X6_rest_2 (l : Launch) (E : eE) (d : Nat) (x1 : Int32)  (fuel : Nat) : ∀ (v2 : Int32) (D : dT), ev l E (d + 1) yX6_rest cX6_rest 5 none 2 [(0, .inr (.inr 378)), (1, .inl x1), (2, .inl v2)] [] D eU (F_X6_rest_2 fuel x1 v2 D) := by
  induction fuel with
  | zero =>
    intro v2 D
    exact ev_none
  | succ fu ih =>
    intro v2 D
    rw [F_X6_rest_2]
    refine ev_s (fun Q k => rn_iload_n (j := 2) 2 rfl rfl dX6_rest_2 k) ?_
    refine ev_s (fun Q k => rn_aload_n (j := 0) 0 rfl rfl (okO_0 ok_378) dX6_rest_3 k) ?_
    refine ev_s (fun Q k => rn_getr (q := 379) f_X6_7 ok_378.1 ok_378.2.1 (okO_1 ok_378) rfl rfl dX6_rest_4 k) ?_
    refine ev_s (fun Q k => rn_iconst (v := 5) (by decide) dX6_rest_7 k) ?_
    refine ev_gd (fun g1 => ?_)
    refine ev_s (fun Q k => rn_iald ok_379.1 ok_379.2.1 ok_379.2.2 (inR_vp g1) dX6_rest_8 k) ?_
    refine ev_if (fun Q => rn_icmp_ge (tgt := 80) dX6_rest_9 (by decide)) (fun c11 => ?_) (fun c12 => ?_)
    · exact ev_ret (fun Q q => rn_retv q rfl dX6_rest_80)
    · refine ev_s (fun Q k => rn_aload_n (j := 0) 0 rfl rfl (okO_0 ok_378) dX6_rest_12 k) ?_
      refine ev_s (fun Q k => rn_iload_n (j := 2) 2 rfl rfl dX6_rest_13 k) ?_
      refine ev_s (fun Q k => rn_iconst (v := 1) (by decide) dX6_rest_14 k) ?_
      refine ev_bindI (as := [.inr (.inr 378), .inl v2, .inl (1 : Int32)]) (fun Q Q1 => rn_callV (as := [.inl v2, .inl (1 : Int32)]) (rest := []) (o := 378) m_X6_47 dX6_rest_15 (rcv_own ok_378.1 ok_378.2.1 (by decide) (okO_1 ok_378)) rfl rfl (Nat.le_of_ble_eq_true rfl)) pl_X6_ofPerson (Nat.le_of_ble_eq_true rfl) rfl (e_X6_ofPerson l E d v2 (1 : Int32) D) (fun r2 D3 => ?_)
      refine ev_s (fun Q k => rn_aload_n (j := 0) 0 rfl rfl (okO_0 ok_378) dX6_rest_18 k) ?_
      refine ev_s (fun Q k => rn_getr (q := 379) f_X6_7 ok_378.1 ok_378.2.1 (okO_1 ok_378) rfl rfl dX6_rest_19 k) ?_
      refine ev_s (fun Q k => rn_iconst (v := 1) (by decide) dX6_rest_22 k) ?_
      refine ev_gd (fun g4 => ?_)
      refine ev_s (fun Q k => rn_iald ok_379.1 ok_379.2.1 ok_379.2.2 (inR_vp g4) dX6_rest_23 k) ?_
      refine ev_s (fun Q k => rn_iadd dX6_rest_24 k) ?_
      refine ev_s (fun Q k => rn_istore_n (j := 3) (ls' := [(3, .inl (r2 + (D3 379 (1 : Int32).toNatClampNeg))), (0, .inr (.inr 378)), (1, .inl x1), (2, .inl v2)]) rfl (by decide) rfl dX6_rest_25 k) ?_
      refine ev_s (fun Q k => rn_iload_n (j := 3) 0 rfl rfl dX6_rest_26 k) ?_
      refine ev_s (fun Q k => rn_aload_n (j := 0) 1 rfl rfl (okO_0 ok_378) dX6_rest_27 k) ?_
      refine ev_s (fun Q k => rn_iload_n (j := 2) 3 rfl rfl dX6_rest_28 k) ?_
      refine ev_s (fun Q k => rn_iconst (v := 0) (by decide) dX6_rest_29 k) ?_
      refine ev_bindI (as := [.inr (.inr 378), .inl v2, .inl (0 : Int32)]) (fun Q Q1 => rn_callV (as := [.inl v2, .inl (0 : Int32)]) (rest := [.inl (r2 + (D3 379 (1 : Int32).toNatClampNeg))]) (o := 378) m_X6_47 dX6_rest_30 (rcv_own ok_378.1 ok_378.2.1 (by decide) (okO_1 ok_378)) rfl rfl (Nat.le_of_ble_eq_true rfl)) pl_X6_ofPerson (Nat.le_of_ble_eq_true rfl) rfl (e_X6_ofPerson l E d v2 (0 : Int32) D3) (fun r5 D6 => ?_)
      refine ev_if (fun Q => rn_icmp_ge (tgt := 40) dX6_rest_33 (by decide)) (fun c9 => ?_) (fun c10 => ?_)
      · refine ev_s (fun Q k => rn_aload_n (j := 0) 1 rfl rfl (okO_0 ok_378) dX6_rest_40 k) ?_
        refine ev_s (fun Q k => rn_iload_n (j := 2) 3 rfl rfl dX6_rest_41 k) ?_
        refine ev_s (fun Q k => rn_iconst (v := 0) (by decide) dX6_rest_42 k) ?_
        refine ev_bindI (as := [.inr (.inr 378), .inl v2, .inl (0 : Int32)]) (fun Q Q1 => rn_callV (as := [.inl v2, .inl (0 : Int32)]) (rest := []) (o := 378) m_X6_47 dX6_rest_43 (rcv_own ok_378.1 ok_378.2.1 (by decide) (okO_1 ok_378)) rfl rfl (Nat.le_of_ble_eq_true rfl)) pl_X6_ofPerson (Nat.le_of_ble_eq_true rfl) rfl (e_X6_ofPerson l E d v2 (0 : Int32) D6) (fun r7 D8 => ?_)
        refine ev_s (fun Q k => rn_sub (ls' := [(0, .inr (.inr 378)), (1, .inl x1), (2, .inl v2)]) [1, 2, 3] rfl k) ?_
        exact e_X6_rest_46 l E d x1 (fun (v2_ : Int32) (D_ : dT) => F_X6_rest_2 fu x1 v2_ D_) (fun v2_ D_ => ih v2_ D_)  v2 r7 D8
      · refine ev_s (fun Q k => rn_iload_n (j := 3) 0 rfl rfl dX6_rest_36 k) ?_
        refine ev_s (fun Q k => rn_goto (tgt := 46) dX6_rest_37 (by decide) k) ?_
        refine ev_s (fun Q k => rn_sub (ls' := [(0, .inr (.inr 378)), (1, .inl x1), (2, .inl v2)]) [1, 2, 3] rfl k) ?_
        exact e_X6_rest_46 l E d x1 (fun (v2_ : Int32) (D_ : dT) => F_X6_rest_2 fu x1 v2_ D_) (fun v2_ D_ => ih v2_ D_)  v2 (r2 + (D3 379 (1 : Int32).toNatClampNeg)) D6

set_option maxRecDepth 20000 in
theorem e_X6_rest (l : Launch) (E : eE) (d : Nat) (x1 : Int32) (D : dT) : ev l E (d + 1) yX6_rest cX6_rest 5 none 0 [(0, .inr (.inr 378)), (1, .inl x1)] [] D eU (F_X6_rest x1 D) := by
  unfold F_X6_rest
  refine ev_s (fun Q k => rn_iconst (v := 0) (by decide) dX6_rest_0 k) ?_
  refine ev_s (fun Q k => rn_istore_n (j := 2) (ls' := [(2, .inl (0 : Int32)), (0, .inr (.inr 378)), (1, .inl x1)]) rfl (by decide) rfl dX6_rest_1 k) ?_
  refine ev_s (fun Q k => rn_sub (ls' := [(0, .inr (.inr 378)), (1, .inl x1), (2, .inl (0 : Int32))]) [1, 2, 0] rfl k) ?_
  exact e_X6_rest_2 l E d x1  lim (0 : Int32) D

def F_X6_carry_47 (x1 : Int32) (k2 : Int32 → dT → Option (Int32 × dT)) (v2 : Int32) (s0 : Int32) (s1 : Int32) (s2 : Int32) (D : dT) : Option (Int32 × dT) := bd (F_X6_layPerson s2 s1 s0 D) (fun (r1 : Int32) (D2 : dT) => bd (F_X6_ofPerson v2 (2 : Int32) D2) (fun (r3 : Int32) (D4 : dT) => bd (F_X6_layPerson v2 (2 : Int32) (r3 + (1 : Int32)) D4) (fun (r5 : Int32) (D6 : dT) => k2 (v2 + (1 : Int32)) D6)))
def F_X6_carry_2 (fuel : Nat) (x1 : Int32)  (v2 : Int32) (D : dT) : Option (Int32 × dT) := match fuel with
  | 0 => none
  | fu + 1 => if inR (5 : Int32) 244 then if (D 379 (5 : Int32).toNatClampNeg) ≤ v2 then some ((0 : Int32), D) else if ((x1 >>> (v2 &&& 31)) &&& (1 : Int32)) = (1 : Int32) then bd (F_X6_ofPerson v2 (1 : Int32) D) (fun (r2 : Int32) (D3 : dT) => if inR (2 : Int32) 244 then if 0 ≤ (r2 - (D3 379 (2 : Int32).toNatClampNeg)) then F_X6_carry_47 x1 (fun (v2_ : Int32) (D_ : dT) => F_X6_carry_2 fu x1 v2_ D_) v2 (r2 - (D3 379 (2 : Int32).toNatClampNeg)) (1 : Int32) v2 D3 else F_X6_carry_47 x1 (fun (v2_ : Int32) (D_ : dT) => F_X6_carry_2 fu x1 v2_ D_) v2 (0 : Int32) (1 : Int32) v2 D3 else none) else F_X6_carry_2 fu x1 (v2 + (1 : Int32)) D else none
def F_X6_carry (x1 : Int32) (D : dT) : Option (Int32 × dT) := F_X6_carry_2 lim x1 (0 : Int32) D
set_option maxRecDepth 20000 in
theorem e_X6_carry_47 (l : Launch) (E : eE) (d : Nat) (x1 : Int32) (k2 : Int32 → dT → Option (Int32 × dT)) (hk2 : ∀ (v2 : Int32) (D : dT), ev l E (d + 1) yX6_carry cX6_carry 4 none 2 [(0, .inr (.inr 378)), (1, .inl x1), (2, .inl v2)] [] D eU (k2 v2 D)) (v2 : Int32) (s0 : Int32) (s1 : Int32) (s2 : Int32) (D : dT) : ev l E (d + 1) yX6_carry cX6_carry 4 none 47 [(0, .inr (.inr 378)), (1, .inl x1), (2, .inl v2)] [.inl s0, .inl s1, .inl s2, .inr (.inr 378)] D eU (F_X6_carry_47 x1 k2 v2 s0 s1 s2 D) := by
  unfold F_X6_carry_47
  refine ev_bindU (as := [.inr (.inr 378), .inl s2, .inl s1, .inl s0]) (fun Q Q1 => rn_callV (as := [.inl s2, .inl s1, .inl s0]) (rest := []) (o := 378) m_X6_94 dX6_carry_47 (rcv_own ok_378.1 ok_378.2.1 (by decide) (okO_1 ok_378)) rfl rfl (Nat.le_of_ble_eq_true rfl)) pl_X6_layPerson (Nat.le_of_ble_eq_true rfl) rfl (e_X6_layPerson l E d s2 s1 s0 D) (fun r1 D2 => ?_)
  refine ev_s (fun Q k => rn_aload_n (j := 0) 0 rfl rfl (okO_0 ok_378) dX6_carry_50 k) ?_
  refine ev_s (fun Q k => rn_iload_n (j := 2) 2 rfl rfl dX6_carry_51 k) ?_
  refine ev_s (fun Q k => rn_iconst (v := 2) (by decide) dX6_carry_52 k) ?_
  refine ev_s (fun Q k => rn_aload_n (j := 0) 0 rfl rfl (okO_0 ok_378) dX6_carry_53 k) ?_
  refine ev_s (fun Q k => rn_iload_n (j := 2) 2 rfl rfl dX6_carry_54 k) ?_
  refine ev_s (fun Q k => rn_iconst (v := 2) (by decide) dX6_carry_55 k) ?_
  refine ev_bindI (as := [.inr (.inr 378), .inl v2, .inl (2 : Int32)]) (fun Q Q1 => rn_callV (as := [.inl v2, .inl (2 : Int32)]) (rest := [.inl (2 : Int32), .inl v2, .inr (.inr 378)]) (o := 378) m_X6_47 dX6_carry_56 (rcv_own ok_378.1 ok_378.2.1 (by decide) (okO_1 ok_378)) rfl rfl (Nat.le_of_ble_eq_true rfl)) pl_X6_ofPerson (Nat.le_of_ble_eq_true rfl) rfl (e_X6_ofPerson l E d v2 (2 : Int32) D2) (fun r3 D4 => ?_)
  refine ev_s (fun Q k => rn_iconst (v := 1) (by decide) dX6_carry_59 k) ?_
  refine ev_s (fun Q k => rn_iadd dX6_carry_60 k) ?_
  refine ev_bindU (as := [.inr (.inr 378), .inl v2, .inl (2 : Int32), .inl (r3 + (1 : Int32))]) (fun Q Q1 => rn_callV (as := [.inl v2, .inl (2 : Int32), .inl (r3 + (1 : Int32))]) (rest := []) (o := 378) m_X6_94 dX6_carry_61 (rcv_own ok_378.1 ok_378.2.1 (by decide) (okO_1 ok_378)) rfl rfl (Nat.le_of_ble_eq_true rfl)) pl_X6_layPerson (Nat.le_of_ble_eq_true rfl) rfl (e_X6_layPerson l E d v2 (2 : Int32) (r3 + (1 : Int32)) D4) (fun r5 D6 => ?_)
  refine ev_s (fun Q k => rn_iinc (v := (v2 + (1 : Int32))) (ls' := [(2, .inl (v2 + (1 : Int32))), (0, .inr (.inr 378)), (1, .inl x1)]) 2 rfl rfl (by decide) rfl dX6_carry_64 k) ?_
  refine ev_s (fun Q k => rn_goto (tgt := 2) dX6_carry_67 (by decide) k) ?_
  refine ev_s (fun Q k => rn_sub (ls' := [(0, .inr (.inr 378)), (1, .inl x1), (2, .inl (v2 + (1 : Int32)))]) [1, 2, 0] rfl k) ?_
  exact hk2 (v2 + (1 : Int32)) D6

set_option maxRecDepth 20000 in
theorem e_X6_carry_2 (l : Launch) (E : eE) (d : Nat) (x1 : Int32)  (fuel : Nat) : ∀ (v2 : Int32) (D : dT), ev l E (d + 1) yX6_carry cX6_carry 4 none 2 [(0, .inr (.inr 378)), (1, .inl x1), (2, .inl v2)] [] D eU (F_X6_carry_2 fuel x1 v2 D) := by
  induction fuel with
  | zero =>
    intro v2 D
    exact ev_none
  | succ fu ih =>
    intro v2 D
    rw [F_X6_carry_2]
    refine ev_s (fun Q k => rn_iload_n (j := 2) 2 rfl rfl dX6_carry_2 k) ?_
    refine ev_s (fun Q k => rn_aload_n (j := 0) 0 rfl rfl (okO_0 ok_378) dX6_carry_3 k) ?_
    refine ev_s (fun Q k => rn_getr (q := 379) f_X6_7 ok_378.1 ok_378.2.1 (okO_1 ok_378) rfl rfl dX6_carry_4 k) ?_
    refine ev_s (fun Q k => rn_iconst (v := 5) (by decide) dX6_carry_7 k) ?_
    refine ev_gd (fun g1 => ?_)
    refine ev_s (fun Q k => rn_iald ok_379.1 ok_379.2.1 ok_379.2.2 (inR_vp g1) dX6_carry_8 k) ?_
    refine ev_if (fun Q => rn_icmp_ge (tgt := 70) dX6_carry_9 (by decide)) (fun c9 => ?_) (fun c10 => ?_)
    · exact ev_ret (fun Q q => rn_retv q rfl dX6_carry_70)
    · refine ev_s (fun Q k => rn_iload_n (j := 1) 1 rfl rfl dX6_carry_12 k) ?_
      refine ev_s (fun Q k => rn_iload_n (j := 2) 2 rfl rfl dX6_carry_13 k) ?_
      refine ev_s (fun Q k => rn_ishr dX6_carry_14 k) ?_
      refine ev_s (fun Q k => rn_iconst (v := 1) (by decide) dX6_carry_15 k) ?_
      refine ev_s (fun Q k => rn_iand dX6_carry_16 k) ?_
      refine ev_s (fun Q k => rn_iconst (v := 1) (by decide) dX6_carry_17 k) ?_
      refine ev_if (fun Q => rn_icmp_ne (tgt := 64) dX6_carry_18 (by decide)) (fun c7 => ?_) (fun c8 => ?_)
      · refine ev_s (fun Q k => rn_aload_n (j := 0) 0 rfl rfl (okO_0 ok_378) dX6_carry_21 k) ?_
        refine ev_s (fun Q k => rn_iload_n (j := 2) 2 rfl rfl dX6_carry_22 k) ?_
        refine ev_s (fun Q k => rn_iconst (v := 1) (by decide) dX6_carry_23 k) ?_
        refine ev_bindI (as := [.inr (.inr 378), .inl v2, .inl (1 : Int32)]) (fun Q Q1 => rn_callV (as := [.inl v2, .inl (1 : Int32)]) (rest := []) (o := 378) m_X6_47 dX6_carry_24 (rcv_own ok_378.1 ok_378.2.1 (by decide) (okO_1 ok_378)) rfl rfl (Nat.le_of_ble_eq_true rfl)) pl_X6_ofPerson (Nat.le_of_ble_eq_true rfl) rfl (e_X6_ofPerson l E d v2 (1 : Int32) D) (fun r2 D3 => ?_)
        refine ev_s (fun Q k => rn_aload_n (j := 0) 0 rfl rfl (okO_0 ok_378) dX6_carry_27 k) ?_
        refine ev_s (fun Q k => rn_getr (q := 379) f_X6_7 ok_378.1 ok_378.2.1 (okO_1 ok_378) rfl rfl dX6_carry_28 k) ?_
        refine ev_s (fun Q k => rn_iconst (v := 2) (by decide) dX6_carry_31 k) ?_
        refine ev_gd (fun g4 => ?_)
        refine ev_s (fun Q k => rn_iald ok_379.1 ok_379.2.1 ok_379.2.2 (inR_vp g4) dX6_carry_32 k) ?_
        refine ev_s (fun Q k => rn_isub dX6_carry_33 k) ?_
        refine ev_s (fun Q k => rn_istore_n (j := 3) (ls' := [(3, .inl (r2 - (D3 379 (2 : Int32).toNatClampNeg))), (0, .inr (.inr 378)), (1, .inl x1), (2, .inl v2)]) rfl (by decide) rfl dX6_carry_34 k) ?_
        refine ev_s (fun Q k => rn_aload_n (j := 0) 1 rfl rfl (okO_0 ok_378) dX6_carry_35 k) ?_
        refine ev_s (fun Q k => rn_iload_n (j := 2) 3 rfl rfl dX6_carry_36 k) ?_
        refine ev_s (fun Q k => rn_iconst (v := 1) (by decide) dX6_carry_37 k) ?_
        refine ev_s (fun Q k => rn_iload_n (j := 3) 0 rfl rfl dX6_carry_38 k) ?_
        refine ev_if (fun Q => rn_if_ge (tgt := 46) dX6_carry_39 (by decide)) (fun c5 => ?_) (fun c6 => ?_)
        · refine ev_s (fun Q k => rn_iload_n (j := 3) 0 rfl rfl dX6_carry_46 k) ?_
          refine ev_s (fun Q k => rn_sub (ls' := [(0, .inr (.inr 378)), (1, .inl x1), (2, .inl v2)]) [1, 2, 3] rfl k) ?_
          exact e_X6_carry_47 l E d x1 (fun (v2_ : Int32) (D_ : dT) => F_X6_carry_2 fu x1 v2_ D_) (fun v2_ D_ => ih v2_ D_)  v2 (r2 - (D3 379 (2 : Int32).toNatClampNeg)) (1 : Int32) v2 D3
        · refine ev_s (fun Q k => rn_iconst (v := 0) (by decide) dX6_carry_42 k) ?_
          refine ev_s (fun Q k => rn_goto (tgt := 47) dX6_carry_43 (by decide) k) ?_
          refine ev_s (fun Q k => rn_sub (ls' := [(0, .inr (.inr 378)), (1, .inl x1), (2, .inl v2)]) [1, 2, 3] rfl k) ?_
          exact e_X6_carry_47 l E d x1 (fun (v2_ : Int32) (D_ : dT) => F_X6_carry_2 fu x1 v2_ D_) (fun v2_ D_ => ih v2_ D_)  v2 (0 : Int32) (1 : Int32) v2 D3
      · refine ev_s (fun Q k => rn_iinc (v := (v2 + (1 : Int32))) (ls' := [(2, .inl (v2 + (1 : Int32))), (0, .inr (.inr 378)), (1, .inl x1)]) 2 rfl rfl (by decide) rfl dX6_carry_64 k) ?_
        refine ev_s (fun Q k => rn_goto (tgt := 2) dX6_carry_67 (by decide) k) ?_
        refine ev_s (fun Q k => rn_sub (ls' := [(0, .inr (.inr 378)), (1, .inl x1), (2, .inl (v2 + (1 : Int32)))]) [1, 2, 0] rfl k) ?_
        exact ih (v2 + (1 : Int32)) D

set_option maxRecDepth 20000 in
theorem e_X6_carry (l : Launch) (E : eE) (d : Nat) (x1 : Int32) (D : dT) : ev l E (d + 1) yX6_carry cX6_carry 4 none 0 [(0, .inr (.inr 378)), (1, .inl x1)] [] D eU (F_X6_carry x1 D) := by
  unfold F_X6_carry
  refine ev_s (fun Q k => rn_iconst (v := 0) (by decide) dX6_carry_0 k) ?_
  refine ev_s (fun Q k => rn_istore_n (j := 2) (ls' := [(2, .inl (0 : Int32)), (0, .inr (.inr 378)), (1, .inl x1)]) rfl (by decide) rfl dX6_carry_1 k) ?_
  refine ev_s (fun Q k => rn_sub (ls' := [(0, .inr (.inr 378)), (1, .inl x1), (2, .inl (0 : Int32))]) [1, 2, 0] rfl k) ?_
  exact e_X6_carry_2 l E d x1  lim (0 : Int32) D

