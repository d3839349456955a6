def F_X6_number_5 (fuel : Nat)   (v1 : Int32) (D : dT) : Option (Int32 × dT) := match fuel with
  | 0 => none
  | fu + 1 => if (D 378 10) = 0 then some (v1, D) else bd (F_X6_in v1 (1 : Int32) (99 : Int32) D) (fun (r1 : Int32) (D2 : dT) => if r1 = 0 then some (v1, D2) else bd (F_X6_letter  D2) (fun (r3 : Int32) (D4 : dT) => bd (F_X6_in r3 (48 : Int32) (57 : Int32) D4) (fun (r5 : Int32) (D6 : dT) => if r5 = 0 then some (v1, D6) else bd (F_X6_letter  D6) (fun (r7 : Int32) (D8 : dT) => F_X6_number_5 fu ((((10 : Int32) * v1) + r7) - (48 : Int32)) (up2 D8 378 9 ((D8 378 9) + (1 : Int32)))))))
def F_X6_number  (D : dT) : Option (Int32 × dT) := bd (F_X6_digit  D) (fun (r1 : Int32) (D2 : dT) => F_X6_number_5 lim r1 D2)
set_option maxRecDepth 20000 in
theorem e_X6_number_5 (l : Launch) (E : eE) (d : Nat)   (fuel : Nat) : ∀ (v1 : Int32) (D : dT), ev l E (d + 2) yX6_number cX6_number 2 (some .int) 5 [(0, .inr (.inr 378)), (1, .inl v1)] [] D eI (F_X6_number_5 fuel v1 D) := by
  induction fuel with
  | zero =>
    intro v1 D
    exact ev_none
  | succ fu ih =>
    intro v1 D
    rw [F_X6_number_5]
    refine ev_s (fun Q k => rn_aload_n (j := 0) 0 rfl rfl (okO_0 ok_378) dX6_number_5 k) ?_
    refine ev_s (fun Q k => rn_geti f_X6_192 ok_378.1 ok_378.2.1 (okO_1 ok_378) rfl dX6_number_6 k) ?_
    refine ev_if (fun Q => rn_if_eq (tgt := 62) dX6_number_9 (by decide)) (fun c13 => ?_) (fun c14 => ?_)
    · refine ev_s (fun Q k => rn_iload_n (j := 1) 1 rfl rfl dX6_number_62 k) ?_
      exact ev_ret (fun Q q => rn_ret q .int rfl rfl dX6_number_63)
    · refine ev_s (fun Q k => rn_iload_n (j := 1) 1 rfl rfl dX6_number_12 k) ?_
      refine ev_s (fun Q k => rn_iconst (v := 1) (by decide) dX6_number_13 k) ?_
      refine ev_s (fun Q k => rn_bipush (v := 99) (by decide) dX6_number_14 k) ?_
      refine ev_bindI (as := [.inl v1, .inl (1 : Int32), .inl (99 : Int32)]) (fun Q Q1 => rn_callS (as := [.inl v1, .inl (1 : Int32), .inl (99 : Int32)]) (rest := []) m_X6_36 dX6_number_16 rfl rfl (Nat.le_of_ble_eq_true rfl)) pl_X6_in (Nat.le_of_ble_eq_true rfl) rfl (e_X6_in l E (d + 1) v1 (1 : Int32) (99 : Int32) D) (fun r1 D2 => ?_)
      refine ev_if (fun Q => rn_if_eq (tgt := 62) dX6_number_19 (by decide)) (fun c11 => ?_) (fun c12 => ?_)
      · refine ev_s (fun Q k => rn_iload_n (j := 1) 1 rfl rfl dX6_number_62 k) ?_
        exact ev_ret (fun Q q => rn_ret q .int rfl rfl dX6_number_63)
      · refine ev_s (fun Q k => rn_aload_n (j := 0) 0 rfl rfl (okO_0 ok_378) dX6_number_22 k) ?_
        refine ev_bindI (as := [.inr (.inr 378)]) (fun Q Q1 => rn_callV (as := []) (rest := []) (o := 378) m_X6_196 dX6_number_23 (rcv_own ok_378.1 ok_378.2.1 (by decide) (okO_1 ok_378)) rfl rfl (Nat.le_of_ble_eq_true rfl)) pl_X6_letter (Nat.le_of_ble_eq_true rfl) rfl (e_X6_letter l E (d + 1)  D2) (fun r3 D4 => ?_)
        refine ev_s (fun Q k => rn_bipush (v := 48) (by decide) dX6_number_26 k) ?_
        refine ev_s (fun Q k => rn_bipush (v := 57) (by decide) dX6_number_28 k) ?_
        refine ev_bindI (as := [.inl r3, .inl (48 : Int32), .inl (57 : Int32)]) (fun Q Q1 => rn_callS (as := [.inl r3, .inl (48 : Int32), .inl (57 : Int32)]) (rest := []) m_X6_36 dX6_number_30 rfl rfl (Nat.le_of_ble_eq_true rfl)) pl_X6_in (Nat.le_of_ble_eq_true rfl) rfl (e_X6_in l E (d + 1) r3 (48 : Int32) (57 : Int32) D4) (fun r5 D6 => ?_)
        refine ev_if (fun Q => rn_if_eq (tgt := 62) dX6_number_33 (by decide)) (fun c9 => ?_) (fun c10 => ?_)
        · refine ev_s (fun Q k => rn_iload_n (j := 1) 1 rfl rfl dX6_number_62 k) ?_
          exact ev_ret (fun Q q => rn_ret q .int rfl rfl dX6_number_63)
        · refine ev_s (fun Q k => rn_bipush (v := 10) (by decide) dX6_number_36 k) ?_
          refine ev_s (fun Q k => rn_iload_n (j := 1) 1 rfl rfl dX6_number_38 k) ?_
          refine ev_s (fun Q k => rn_imul dX6_number_39 k) ?_
          refine ev_s (fun Q k => rn_aload_n (j := 0) 0 rfl rfl (okO_0 ok_378) dX6_number_40 k) ?_
          refine ev_bindI (as := [.inr (.inr 378)]) (fun Q Q1 => rn_callV (as := []) (rest := [.inl ((10 : Int32) * v1)]) (o := 378) m_X6_196 dX6_number_41 (rcv_own ok_378.1 ok_378.2.1 (by decide) (okO_1 ok_378)) rfl rfl (Nat.le_of_ble_eq_true rfl)) pl_X6_letter (Nat.le_of_ble_eq_true rfl) rfl (e_X6_letter l E (d + 1)  D6) (fun r7 D8 => ?_)
          refine ev_s (fun Q k => rn_iadd dX6_number_44 k) ?_
          refine ev_s (fun Q k => rn_bipush (v := 48) (by decide) dX6_number_45 k) ?_
          refine ev_s (fun Q k => rn_isub dX6_number_47 k) ?_
          refine ev_s (fun Q k => rn_istore_n (j := 1) (ls' := [(1, .inl ((((10 : Int32) * v1) + r7) - (48 : Int32))), (0, .inr (.inr 378))]) rfl (by decide) rfl dX6_number_48 k) ?_
          refine ev_s (fun Q k => rn_aload_n (j := 0) 1 rfl rfl (okO_0 ok_378) dX6_number_49 k) ?_
          refine ev_s (fun Q k => rn_dup rfl dX6_number_50 k) ?_
          refine ev_s (fun Q k => rn_geti f_X6_189 ok_378.1 ok_378.2.1 (okO_1 ok_378) rfl dX6_number_51 k) ?_
          refine ev_s (fun Q k => rn_iconst (v := 1) (by decide) dX6_number_54 k) ?_
          refine ev_s (fun Q k => rn_iadd dX6_number_55 k) ?_
          refine ev_s (fun Q k => rn_puti f_X6_189 ok_378.1 ok_378.2.1 (okO_1 ok_378) rfl rfl rfl rfl dX6_number_56 k) ?_
          refine ev_s (fun Q k => rn_goto (tgt := 5) dX6_number_59 (by decide) k) ?_
          refine ev_s (fun Q k => rn_sub (ls' := [(0, .inr (.inr 378)), (1, .inl ((((10 : Int32) * v1) + r7) - (48 : Int32)))]) [1, 0] rfl k) ?_
          exact ih ((((10 : Int32) * v1) + r7) - (48 : Int32)) (up2 D8 378 9 ((D8 378 9) + (1 : Int32)))

set_option maxRecDepth 20000 in
theorem e_X6_number (l : Launch) (E : eE) (d : Nat)  (D : dT) : ev l E (d + 2) yX6_number cX6_number 2 (some .int) 0 [(0, .inr (.inr 378))] [] D eI (F_X6_number D) := by
  unfold F_X6_number
  refine ev_s (fun Q k => rn_aload_n (j := 0) 0 rfl rfl (okO_0 ok_378) dX6_number_0 k) ?_
  refine ev_bindI (as := [.inr (.inr 378)]) (fun Q Q1 => rn_callV (as := []) (rest := []) (o := 378) m_X6_199 dX6_number_1 (rcv_own ok_378.1 ok_378.2.1 (by decide) (okO_1 ok_378)) rfl rfl (Nat.le_of_ble_eq_true rfl)) pl_X6_digit (Nat.le_of_ble_eq_true rfl) rfl (e_X6_digit l E d  D) (fun r1 D2 => ?_)
  refine ev_s (fun Q k => rn_istore_n (j := 1) (ls' := [(1, .inl r1), (0, .inr (.inr 378))]) rfl (by decide) rfl dX6_number_4 k) ?_
  refine ev_s (fun Q k => rn_sub (ls' := [(0, .inr (.inr 378)), (1, .inl r1)]) [1, 0] rfl k) ?_
  exact e_X6_number_5 l E d   lim r1 D2

def F_X6_wants_21 (x1 : Int32)  (s0 : Int32) (D : dT) : Option (Int32 × dT) := if s0 = 0 ∨ s0 = 1 then if ((up2 D 378 10 s0) 378 10) = 0 then some ((0 : Int32), (up2 (up2 D 378 10 s0) 378 9 (((up2 D 378 10 s0) 378 9) + (0 : Int32)))) else some ((0 : Int32), (up2 (up2 D 378 10 s0) 378 9 (((up2 D 378 10 s0) 378 9) + (1 : Int32)))) else none
def F_X6_wants_20 (x1 : Int32)   (D : dT) : Option (Int32 × dT) := F_X6_wants_21 x1 (0 : Int32) D
def F_X6_wants (x1 : Int32) (D : dT) : Option (Int32 × dT) := if (D 378 10) = 0 then F_X6_wants_20 x1 D else bd (F_X6_letter  D) (fun (r1 : Int32) (D2 : dT) => if r1 = x1 then F_X6_wants_21 x1 (1 : Int32) D2 else F_X6_wants_20 x1 D2)
set_option maxRecDepth 20000 in
theorem e_X6_wants_21 (l : Launch) (E : eE) (d : Nat) (x1 : Int32)  (s0 : Int32) (D : dT) : ev l E (d + 1) yX6_wants cX6_wants 2 none 21 [(0, .inr (.inr 378))] [.inl s0, .inr (.inr 378)] D eU (F_X6_wants_21 x1 s0 D) := by
  unfold F_X6_wants_21
  refine ev_gd (fun g1 => ?_)
  refine ev_s (fun Q k => rn_puti f_X6_192 ok_378.1 ok_378.2.1 (okO_1 ok_378) rfl rfl (nz_b g1) (ft_b g1) dX6_wants_21 k) ?_
  refine ev_s (fun Q k => rn_aload_n (j := 0) 0 rfl rfl (okO_0 ok_378) dX6_wants_24 k) ?_
  refine ev_s (fun Q k => rn_dup rfl dX6_wants_25 k) ?_
  refine ev_s (fun Q k => rn_geti f_X6_189 ok_378.1 ok_378.2.1 (okO_1 ok_378) rfl dX6_wants_26 k) ?_
  refine ev_s (fun Q k => rn_aload_n (j := 0) 0 rfl rfl (okO_0 ok_378) dX6_wants_29 k) ?_
  refine ev_s (fun Q k => rn_geti f_X6_192 ok_378.1 ok_378.2.1 (okO_1 ok_378) rfl dX6_wants_30 k) ?_
  refine ev_if (fun Q => rn_if_eq (tgt := 40) dX6_wants_33 (by decide)) (fun c2 => ?_) (fun c3 => ?_)
  · refine ev_s (fun Q k => rn_iconst (v := 0) (by decide) dX6_wants_40 k) ?_
    refine ev_s (fun Q k => rn_iadd dX6_wants_41 k) ?_
    refine ev_s (fun Q k => rn_puti f_X6_189 ok_378.1 ok_378.2.1 (okO_1 ok_378) rfl rfl rfl rfl dX6_wants_42 k) ?_
    exact ev_ret (fun Q q => rn_retv q rfl dX6_wants_45)
  · refine ev_s (fun Q k => rn_iconst (v := 1) (by decide) dX6_wants_36 k) ?_
    refine ev_s (fun Q k => rn_goto (tgt := 41) dX6_wants_37 (by decide) k) ?_
    refine ev_s (fun Q k => rn_iadd dX6_wants_41 k) ?_
    refine ev_s (fun Q k => rn_puti f_X6_189 ok_378.1 ok_378.2.1 (okO_1 ok_378) rfl rfl rfl rfl dX6_wants_42 k) ?_
    exact ev_ret (fun Q q => rn_retv q rfl dX6_wants_45)

set_option maxRecDepth 20000 in
theorem e_X6_wants_20 (l : Launch) (E : eE) (d : Nat) (x1 : Int32)   (D : dT) : ev l E (d + 1) yX6_wants cX6_wants 2 none 20 [(0, .inr (.inr 378))] [.inr (.inr 378)] D eU (F_X6_wants_20 x1 D) := by
  unfold F_X6_wants_20
  refine ev_s (fun Q k => rn_iconst (v := 0) (by decide) dX6_wants_20 k) ?_
  exact e_X6_wants_21 l E d x1   (0 : Int32) D

set_option maxRecDepth 20000 in
theorem e_X6_wants (l : Launch) (E : eE) (d : Nat) (x1 : Int32) (D : dT) : ev l E (d + 1) yX6_wants cX6_wants 2 none 0 [(0, .inr (.inr 378)), (1, .inl x1)] [] D eU (F_X6_wants x1 D) := by
  unfold F_X6_wants
  refine ev_s (fun Q k => rn_aload_n (j := 0) 0 rfl rfl (okO_0 ok_378) dX6_wants_0 k) ?_
  refine ev_s (fun Q k => rn_aload_n (j := 0) 0 rfl rfl (okO_0 ok_378) dX6_wants_1 k) ?_
  refine ev_s (fun Q k => rn_geti f_X6_192 ok_378.1 ok_378.2.1 (okO_1 ok_378) rfl dX6_wants_2 k) ?_
  refine ev_if (fun Q => rn_if_eq (tgt := 20) dX6_wants_5 (by decide)) (fun c5 => ?_) (fun c6 => ?_)
  · refine ev_s (fun Q k => rn_sub (ls' := [(0, .inr (.inr 378))]) [0] rfl k) ?_
    exact e_X6_wants_20 l E d x1   D
  · refine ev_s (fun Q k => rn_aload_n (j := 0) 0 rfl rfl (okO_0 ok_378) dX6_wants_8 k) ?_
    refine ev_bindI (as := [.inr (.inr 378)]) (fun Q Q1 => rn_callV (as := []) (rest := [.inr (.inr 378)]) (o := 378) m_X6_196 dX6_wants_9 (rcv_own ok_378.1 ok_378.2.1 (by decide) (okO_1 ok_378)) rfl rfl (Nat.le_of_ble_eq_true rfl)) pl_X6_letter (Nat.le_of_ble_eq_true rfl) rfl (e_X6_letter l E d  D) (fun r1 D2 => ?_)
    refine ev_s (fun Q k => rn_iload_n (j := 1) 1 rfl rfl dX6_wants_12 k) ?_
    refine ev_if (fun Q => rn_icmp_ne (tgt := 20) dX6_wants_13 (by decide)) (fun c3 => ?_) (fun c4 => ?_)
    · refine ev_s (fun Q k => rn_iconst (v := 1) (by decide) dX6_wants_16 k) ?_
      refine ev_s (fun Q k => rn_goto (tgt := 21) dX6_wants_17 (by decide) k) ?_
      refine ev_s (fun Q k => rn_sub (ls' := [(0, .inr (.inr 378))]) [0] rfl k) ?_
      exact e_X6_wants_21 l E d x1   (1 : Int32) D2
    · refine ev_s (fun Q k => rn_sub (ls' := [(0, .inr (.inr 378))]) [0] rfl k) ?_
      exact e_X6_wants_20 l E d x1   D2

def F_X6_readsJob_37 (x1 : Int32) (k2 : Int32 → dT → Option (Int32 × dT)) (v2 : Int32) (s0 : Int32) (s1 : Int32) (D : dT) : Option (Int32 × dT) := if inR s1 252 then k2 (v2 + (1 : Int32)) (up2 D 385 s1.toNatClampNeg s0) else none
def F_X6_readsJob_2 (fuel : Nat) (x1 : Int32)  (v2 : Int32) (D : dT) : Option (Int32 × dT) := match fuel with
  | 0 => none
  | fu + 1 => if (6 : Int32) ≤ v2 then some ((0 : Int32), D) else bd (F_X6_wants (44 : Int32) D) (fun (r1 : Int32) (D2 : dT) => if (5 : Int32) ≤ v2 then bd (F_X6_number  D2) (fun (r3 : Int32) (D4 : dT) => F_X6_readsJob_37 x1 (fun (v2_ : Int32) (D_ : dT) => F_X6_readsJob_2 fu x1 v2_ D_) v2 r3 (x1 + v2) D4) else bd (F_X6_digit  D2) (fun (r5 : Int32) (D6 : dT) => F_X6_readsJob_37 x1 (fun (v2_ : Int32) (D_ : dT) => F_X6_readsJob_2 fu x1 v2_ D_) v2 r5 (x1 + v2) D6))
def F_X6_readsJob (x1 : Int32) (D : dT) : Option (Int32 × dT) := F_X6_readsJob_2 lim x1 (2 : Int32) D
set_option maxRecDepth 20000 in
theorem e_X6_readsJob_37 (l : Launch) (E : eE) (d : Nat) (x1 : Int32) (k2 : Int32 → dT → Option (Int32 × dT)) (hk2 : ∀ (v2 : Int32) (D : dT), ev l E (d + 3) yX6_readsJob cX6_readsJob 3 none 2 [(0, .inr (.inr 378)), (1, .inl x1), (2, .inl v2)] [] D eU (k2 v2 D)) (v2 : Int32) (s0 : Int32) (s1 : Int32) (D : dT) : ev l E (d + 3) yX6_readsJob cX6_readsJob 3 none 37 [(0, .inr (.inr 378)), (1, .inl x1), (2, .inl v2)] [.inl s0, .inl s1, .inr (.inr 385)] D eU (F_X6_readsJob_37 x1 k2 v2 s0 s1 D) := by
  unfold F_X6_readsJob_37
  refine ev_gd (fun g1 => ?_)
  refine ev_s (fun Q k => rn_iast ok_385.1 ok_385.2.1 ok_385.2.2 (inR_vp g1) dX6_readsJob_37 k) ?_
  refine ev_s (fun Q k => rn_iinc (v := (v2 + (1 : Int32))) (ls' := [(2, .inl (v2 + (1 : Int32))), (0, .inr (.inr 378)), (1, .inl x1)]) 2 rfl rfl (by decide) rfl dX6_readsJob_38 k) ?_
  refine ev_s (fun Q k => rn_goto (tgt := 2) dX6_readsJob_41 (by decide) k) ?_
  refine ev_s (fun Q k => rn_sub (ls' := [(0, .inr (.inr 378)), (1, .inl x1), (2, .inl (v2 + (1 : Int32)))]) [1, 2, 0] rfl k) ?_
  exact hk2 (v2 + (1 : Int32)) (up2 D 385 s1.toNatClampNeg s0)

set_option maxRecDepth 20000 in
theorem e_X6_readsJob_2 (l : Launch) (E : eE) (d : Nat) (x1 : Int32)  (fuel : Nat) : ∀ (v2 : Int32) (D : dT), ev l E (d + 3) yX6_readsJob cX6_readsJob 3 none 2 [(0, .inr (.inr 378)), (1, .inl x1), (2, .inl v2)] [] D eU (F_X6_readsJob_2 fuel x1 v2 D) := by
  induction fuel with
  | zero =>
    intro v2 D
    exact ev_none
  | succ fu ih =>
    intro v2 D
    rw [F_X6_readsJob_2]
    refine ev_s (fun Q k => rn_iload_n (j := 2) 2 rfl rfl dX6_readsJob_2 k) ?_
    refine ev_s (fun Q k => rn_bipush (v := 6) (by decide) dX6_readsJob_3 k) ?_
    refine ev_if (fun Q => rn_icmp_ge (tgt := 44) dX6_readsJob_5 (by decide)) (fun c9 => ?_) (fun c10 => ?_)
    · exact ev_ret (fun Q q => rn_retv q rfl dX6_readsJob_44)
    · refine ev_s (fun Q k => rn_aload_n (j := 0) 0 rfl rfl (okO_0 ok_378) dX6_readsJob_8 k) ?_
      refine ev_s (fun Q k => rn_bipush (v := 44) (by decide) dX6_readsJob_9 k) ?_
      refine ev_bindU (as := [.inr (.inr 378), .inl (44 : Int32)]) (fun Q Q1 => rn_callV (as := [.inl (44 : Int32)]) (rest := []) (o := 378) m_X6_202 dX6_readsJob_11 (rcv_own ok_378.1 ok_378.2.1 (by decide) (okO_1 ok_378)) rfl rfl (Nat.le_of_ble_eq_true rfl)) pl_X6_wants (Nat.le_of_ble_eq_true rfl) rfl (e_X6_wants l E (d + 1) (44 : Int32) D) (fun r1 D2 => ?_)
      refine ev_s (fun Q k => rn_aload_n (j := 0) 0 rfl rfl (okO_0 ok_378) dX6_readsJob_14 k) ?_
      refine ev_s (fun Q k => rn_getr (q := 385) f_X6_29 ok_378.1 ok_378.2.1 (okO_1 ok_378) rfl rfl dX6_readsJob_15 k) ?_
      refine ev_s (fun Q k => rn_iload_n (j := 1) 1 rfl rfl dX6_readsJob_18 k) ?_
      refine ev_s (fun Q k => rn_iload_n (j := 2) 2 rfl rfl dX6_readsJob_19 k) ?_
      refine ev_s (fun Q k => rn_iadd dX6_readsJob_20 k) ?_
      refine ev_s (fun Q k => rn_iload_n (j := 2) 2 rfl rfl dX6_readsJob_21 k) ?_
      refine ev_s (fun Q k => rn_iconst (v := 5) (by decide) dX6_readsJob_22 k) ?_
      refine ev_if (fun Q => rn_icmp_ge (tgt := 33) dX6_readsJob_23 (by decide)) (fun c7 => ?_) (fun c8 => ?_)
      · refine ev_s (fun Q k => rn_aload_n (j := 0) 0 rfl rfl (okO_0 ok_378) dX6_readsJob_33 k) ?_
        refine ev_bindI (as := [.inr (.inr 378)]) (fun Q Q1 => rn_callV (as := []) (rest := [.inl (x1 + v2), .inr (.inr 385)]) (o := 378) m_X6_205 dX6_readsJob_34 (rcv_own ok_378.1 ok_378.2.1 (by decide) (okO_1 ok_378)) rfl rfl (Nat.le_of_ble_eq_true rfl)) pl_X6_number (Nat.le_of_ble_eq_true rfl) rfl (e_X6_number l E d  D2) (fun r3 D4 => ?_)
        exact e_X6_readsJob_37 l E d x1 (fun (v2_ : Int32) (D_ : dT) => F_X6_readsJob_2 fu x1 v2_ D_) (fun v2_ D_ => ih v2_ D_)  v2 r3 (x1 + v2) D4
      · refine ev_s (fun Q k => rn_aload_n (j := 0) 0 rfl rfl (okO_0 ok_378) dX6_readsJob_26 k) ?_
        refine ev_bindI (as := [.inr (.inr 378)]) (fun Q Q1 => rn_callV (as := []) (rest := [.inl (x1 + v2), .inr (.inr 385)]) (o := 378) m_X6_199 dX6_readsJob_27 (rcv_own ok_378.1 ok_378.2.1 (by decide) (okO_1 ok_378)) rfl rfl (Nat.le_of_ble_eq_true rfl)) pl_X6_digit (Nat.le_of_ble_eq_true rfl) rfl (e_X6_digit l E (d + 1)  D2) (fun r5 D6 => ?_)
        refine ev_s (fun Q k => rn_goto (tgt := 37) dX6_readsJob_30 (by decide) k) ?_
        exact e_X6_readsJob_37 l E d x1 (fun (v2_ : Int32) (D_ : dT) => F_X6_readsJob_2 fu x1 v2_ D_) (fun v2_ D_ => ih v2_ D_)  v2 r5 (x1 + v2) D6

set_option maxRecDepth 20000 in
theorem e_X6_readsJob (l : Launch) (E : eE) (d : Nat) (x1 : Int32) (D : dT) : ev l E (d + 3) yX6_readsJob cX6_readsJob 3 none 0 [(0, .inr (.inr 378)), (1, .inl x1)] [] D eU (F_X6_readsJob x1 D) := by
  unfold F_X6_readsJob
  refine ev_s (fun Q k => rn_iconst (v := 2) (by decide) dX6_readsJob_0 k) ?_
  refine ev_s (fun Q k => rn_istore_n (j := 2) (ls' := [(2, .inl (2 : Int32)), (0, .inr (.inr 378)), (1, .inl x1)]) rfl (by decide) rfl dX6_readsJob_1 k) ?_
  refine ev_s (fun Q k => rn_sub (ls' := [(0, .inr (.inr 378)), (1, .inl x1), (2, .inl (2 : Int32))]) [1, 2, 0] rfl k) ?_
  exact e_X6_readsJob_2 l E d x1  lim (2 : Int32) D

def F_X6_readsCrew_49 (x1 : Int32)  (v2 : Int32) (D : dT) : Option (Int32 × dT) := if inR (x1 + (2 : Int32)) 252 then if inR (x1 + (3 : Int32)) 252 then if ((up2 (up2 D 385 (x1 + (2 : Int32)).toNatClampNeg v2) 385 (x1 + (3 : Int32)).toNatClampNeg (-6 : Int32)) 378 10) = 0 then some ((0 : Int32), (up2 (up2 D 385 (x1 + (2 : Int32)).toNatClampNeg v2) 385 (x1 + (3 : Int32)).toNatClampNeg (-6 : Int32))) else bd (F_X6_letter  (up2 (up2 D 385 (x1 + (2 : Int32)).toNatClampNeg v2) 385 (x1 + (3 : Int32)).toNatClampNeg (-6 : Int32))) (fun (r3 : Int32) (D4 : dT) => if r3 = (43 : Int32) then bd (F_X6_digit  (up2 D4 378 9 ((D4 378 9) + (1 : Int32)))) (fun (r5 : Int32) (D6 : dT) => if inR (x1 + (3 : Int32)) 252 then some ((0 : Int32), (up2 D6 385 (x1 + (3 : Int32)).toNatClampNeg r5)) else none) else some ((0 : Int32), D4)) else none else none
def F_X6_readsCrew_16 (fuel : Nat) (x1 : Int32)  (v2 : Int32) (D : dT) : Option (Int32 × dT) := match fuel with
  | 0 => none
  | fu + 1 => if (D 378 10) = 0 then F_X6_readsCrew_49 x1 v2 D else bd (F_X6_letter  D) (fun (r1 : Int32) (D2 : dT) => bd (F_X6_in r1 (48 : Int32) (57 : Int32) D2) (fun (r3 : Int32) (D4 : dT) => if r3 = 0 then F_X6_readsCrew_49 x1 v2 D4 else bd (F_X6_digit  D4) (fun (r5 : Int32) (D6 : dT) => F_X6_readsCrew_16 fu x1 (v2 ||| ((1 : Int32) <<< (r5 &&& 31))) D6)))
def F_X6_readsCrew (x1 : Int32) (D : dT) : Option (Int32 × dT) := bd (F_X6_wants (58 : Int32) D) (fun (r1 : Int32) (D2 : dT) => bd (F_X6_digit  D2) (fun (r3 : Int32) (D4 : dT) => F_X6_readsCrew_16 lim x1 ((1 : Int32) <<< ((r3 &&& (15 : Int32)) &&& 31)) D4))
set_option maxRecDepth 20000 in
theorem e_X6_readsCrew_49 (l : Launch) (E : eE) (d : Nat) (x1 : Int32)  (v2 : Int32) (D : dT) : ev l E (d + 2) yX6_readsCrew cX6_readsCrew 3 none 49 [(0, .inr (.inr 378)), (1, .inl x1), (2, .inl v2)] [] D eU (F_X6_readsCrew_49 x1 v2 D) := by
  unfold F_X6_readsCrew_49
  refine ev_s (fun Q k => rn_aload_n (j := 0) 0 rfl rfl (okO_0 ok_378) dX6_readsCrew_49 k) ?_
  refine ev_s (fun Q k => rn_getr (q := 385) f_X6_29 ok_378.1 ok_378.2.1 (okO_1 ok_378) rfl rfl dX6_readsCrew_50 k) ?_
  refine ev_s (fun Q k => rn_iload_n (j := 1) 1 rfl rfl dX6_readsCrew_53 k) ?_
  refine ev_s (fun Q k => rn_iconst (v := 2) (by decide) dX6_readsCrew_54 k) ?_
  refine ev_s (fun Q k => rn_iadd dX6_readsCrew_55 k) ?_
  refine ev_s (fun Q k => rn_iload_n (j := 2) 2 rfl rfl dX6_readsCrew_56 k) ?_
  refine ev_gd (fun g1 => ?_)
  refine ev_s (fun Q k => rn_iast ok_385.1 ok_385.2.1 ok_385.2.2 (inR_vp g1) dX6_readsCrew_57 k) ?_
  refine ev_s (fun Q k => rn_aload_n (j := 0) 0 rfl rfl (okO_0 ok_378) dX6_readsCrew_58 k) ?_
  refine ev_s (fun Q k => rn_getr (q := 385) f_X6_29 ok_378.1 ok_378.2.1 (okO_1 ok_378) rfl rfl dX6_readsCrew_59 k) ?_
  refine ev_s (fun Q k => rn_iload_n (j := 1) 1 rfl rfl dX6_readsCrew_62 k) ?_
  refine ev_s (fun Q k => rn_iconst (v := 3) (by decide) dX6_readsCrew_63 k) ?_
  refine ev_s (fun Q k => rn_iadd dX6_readsCrew_64 k) ?_
  refine ev_s (fun Q k => rn_bipush (v := -6) (by decide) dX6_readsCrew_65 k) ?_
  refine ev_gd (fun g2 => ?_)
  refine ev_s (fun Q k => rn_iast ok_385.1 ok_385.2.1 ok_385.2.2 (inR_vp g2) dX6_readsCrew_67 k) ?_
  refine ev_s (fun Q k => rn_aload_n (j := 0) 0 rfl rfl (okO_0 ok_378) dX6_readsCrew_68 k) ?_
  refine ev_s (fun Q k => rn_geti f_X6_192 ok_378.1 ok_378.2.1 (okO_1 ok_378) rfl dX6_readsCrew_69 k) ?_
  refine ev_if (fun Q => rn_if_eq (tgt := 106) dX6_readsCrew_72 (by decide)) (fun c10 => ?_) (fun c11 => ?_)
  · exact ev_ret (fun Q q => rn_retv q rfl dX6_readsCrew_106)
  · refine ev_s (fun Q k => rn_aload_n (j := 0) 0 rfl rfl (okO_0 ok_378) dX6_readsCrew_75 k) ?_
    refine ev_bindI (as := [.inr (.inr 378)]) (fun Q Q1 => rn_callV (as := []) (rest := []) (o := 378) m_X6_196 dX6_readsCrew_76 (rcv_own ok_378.1 ok_378.2.1 (by decide) (okO_1 ok_378)) rfl rfl (Nat.le_of_ble_eq_true rfl)) pl_X6_letter (Nat.le_of_ble_eq_true rfl) rfl (e_X6_letter l E (d + 1)  (up2 (up2 D 385 (x1 + (2 : Int32)).toNatClampNeg v2) 385 (x1 + (3 : Int32)).toNatClampNeg (-6 : Int32))) (fun r3 D4 => ?_)
    refine ev_s (fun Q k => rn_bipush (v := 43) (by decide) dX6_readsCrew_79 k) ?_
    refine ev_if (fun Q => rn_icmp_ne (tgt := 106) dX6_readsCrew_81 (by decide)) (fun c8 => ?_) (fun c9 => ?_)
    · refine ev_s (fun Q k => rn_aload_n (j := 0) 0 rfl rfl (okO_0 ok_378) dX6_readsCrew_84 k) ?_
      refine ev_s (fun Q k => rn_dup rfl dX6_readsCrew_85 k) ?_
      refine ev_s (fun Q k => rn_geti f_X6_189 ok_378.1 ok_378.2.1 (okO_1 ok_378) rfl dX6_readsCrew_86 k) ?_
      refine ev_s (fun Q k => rn_iconst (v := 1) (by decide) dX6_readsCrew_89 k) ?_
      refine ev_s (fun Q k => rn_iadd dX6_readsCrew_90 k) ?_
      refine ev_s (fun Q k => rn_puti f_X6_189 ok_378.1 ok_378.2.1 (okO_1 ok_378) rfl rfl rfl rfl dX6_readsCrew_91 k) ?_
      refine ev_s (fun Q k => rn_aload_n (j := 0) 0 rfl rfl (okO_0 ok_378) dX6_readsCrew_94 k) ?_
      refine ev_s (fun Q k => rn_getr (q := 385) f_X6_29 ok_378.1 ok_378.2.1 (okO_1 ok_378) rfl rfl dX6_readsCrew_95 k) ?_
      refine ev_s (fun Q k => rn_iload_n (j := 1) 1 rfl rfl dX6_readsCrew_98 k) ?_
      refine ev_s (fun Q k => rn_iconst (v := 3) (by decide) dX6_readsCrew_99 k) ?_
      refine ev_s (fun Q k => rn_iadd dX6_readsCrew_100 k) ?_
      refine ev_s (fun Q k => rn_aload_n (j := 0) 0 rfl rfl (okO_0 ok_378) dX6_readsCrew_101 k) ?_
      refine ev_bindI (as := [.inr (.inr 378)]) (fun Q Q1 => rn_callV (as := []) (rest := [.inl (x1 + (3 : Int32)), .inr (.inr 385)]) (o := 378) m_X6_199 dX6_readsCrew_102 (rcv_own ok_378.1 ok_378.2.1 (by decide) (okO_1 ok_378)) rfl rfl (Nat.le_of_ble_eq_true rfl)) pl_X6_digit (Nat.le_of_ble_eq_true rfl) rfl (e_X6_digit l E d  (up2 D4 378 9 ((D4 378 9) + (1 : Int32)))) (fun r5 D6 => ?_)
      refine ev_gd (fun g7 => ?_)
      refine ev_s (fun Q k => rn_iast ok_385.1 ok_385.2.1 ok_385.2.2 (inR_vp g7) dX6_readsCrew_105 k) ?_
      exact ev_ret (fun Q q => rn_retv q rfl dX6_readsCrew_106)
    · exact ev_ret (fun Q q => rn_retv q rfl dX6_readsCrew_106)

set_option maxRecDepth 20000 in
theorem e_X6_readsCrew_16 (l : Launch) (E : eE) (d : Nat) (x1 : Int32)  (fuel : Nat) : ∀ (v2 : Int32) (D : dT), ev l E (d + 2) yX6_readsCrew cX6_readsCrew 3 none 16 [(0, .inr (.inr 378)), (1, .inl x1), (2, .inl v2)] [] D eU (F_X6_readsCrew_16 fuel x1 v2 D) := by
  induction fuel with
  | zero =>
    intro v2 D
    exact ev_none
  | succ fu ih =>
    intro v2 D
    rw [F_X6_readsCrew_16]
    refine ev_s (fun Q k => rn_aload_n (j := 0) 0 rfl rfl (okO_0 ok_378) dX6_readsCrew_16 k) ?_
    refine ev_s (fun Q k => rn_geti f_X6_192 ok_378.1 ok_378.2.1 (okO_1 ok_378) rfl dX6_readsCrew_17 k) ?_
    refine ev_if (fun Q => rn_if_eq (tgt := 49) dX6_readsCrew_20 (by decide)) (fun c9 => ?_) (fun c10 => ?_)
    · exact e_X6_readsCrew_49 l E d x1   v2 D
    · refine ev_s (fun Q k => rn_aload_n (j := 0) 0 rfl rfl (okO_0 ok_378) dX6_readsCrew_23 k) ?_
      refine ev_bindI (as := [.inr (.inr 378)]) (fun Q Q1 => rn_callV (as := []) (rest := []) (o := 378) m_X6_196 dX6_readsCrew_24 (rcv_own ok_378.1 ok_378.2.1 (by decide) (okO_1 ok_378)) rfl rfl (Nat.le_of_ble_eq_true rfl)) pl_X6_letter (Nat.le_of_ble_eq_true rfl) rfl (e_X6_letter l E (d + 1)  D) (fun r1 D2 => ?_)
      refine ev_s (fun Q k => rn_bipush (v := 48) (by decide) dX6_readsCrew_27 k) ?_
      refine ev_s (fun Q k => rn_bipush (v := 57) (by decide) dX6_readsCrew_29 k) ?_
      refine ev_bindI (as := [.inl r1, .inl (48 : Int32), .inl (57 : Int32)]) (fun Q Q1 => rn_callS (as := [.inl r1, .inl (48 : Int32), .inl (57 : Int32)]) (rest := []) m_X6_36 dX6_readsCrew_31 rfl rfl (Nat.le_of_ble_eq_true rfl)) pl_X6_in (Nat.le_of_ble_eq_true rfl) rfl (e_X6_in l E (d + 1) r1 (48 : Int32) (57 : Int32) D2) (fun r3 D4 => ?_)
      refine ev_if (fun Q => rn_if_eq (tgt := 49) dX6_readsCrew_34 (by decide)) (fun c7 => ?_) (fun c8 => ?_)
      · exact e_X6_readsCrew_49 l E d x1   v2 D4
      · refine ev_s (fun Q k => rn_iload_n (j := 2) 2 rfl rfl dX6_readsCrew_37 k) ?_
        refine ev_s (fun Q k => rn_iconst (v := 1) (by decide) dX6_readsCrew_38 k) ?_
        refine ev_s (fun Q k => rn_aload_n (j := 0) 0 rfl rfl (okO_0 ok_378) dX6_readsCrew_39 k) ?_
        refine ev_bindI (as := [.inr (.inr 378)]) (fun Q Q1 => rn_callV (as := []) (rest := [.inl (1 : Int32), .inl v2]) (o := 378) m_X6_199 dX6_readsCrew_40 (rcv_own ok_378.1 ok_378.2.1 (by decide) (okO_1 ok_378)) rfl rfl (Nat.le_of_ble_eq_true rfl)) pl_X6_digit (Nat.le_of_ble_eq_true rfl) rfl (e_X6_digit l E d  D4) (fun r5 D6 => ?_)
        refine ev_s (fun Q k => rn_ishl dX6_readsCrew_43 k) ?_
        refine ev_s (fun Q k => rn_ior dX6_readsCrew_44 k) ?_
        refine ev_s (fun Q k => rn_istore_n (j := 2) (ls' := [(2, .inl (v2 ||| ((1 : Int32) <<< (r5 &&& 31)))), (0, .inr (.inr 378)), (1, .inl x1)]) rfl (by decide) rfl dX6_readsCrew_45 k) ?_
        refine ev_s (fun Q k => rn_goto (tgt := 16) dX6_readsCrew_46 (by decide) k) ?_
        refine ev_s (fun Q k => rn_sub (ls' := [(0, .inr (.inr 378)), (1, .inl x1), (2, .inl (v2 ||| ((1 : Int32) <<< (r5 &&& 31))))]) [1, 2, 0] rfl k) ?_
        exact ih (v2 ||| ((1 : Int32) <<< (r5 &&& 31))) D6

set_option maxRecDepth 20000 in
theorem e_X6_readsCrew (l : Launch) (E : eE) (d : Nat) (x1 : Int32) (D : dT) : ev l E (d + 2) yX6_readsCrew cX6_readsCrew 3 none 0 [(0, .inr (.inr 378)), (1, .inl x1)] [] D eU (F_X6_readsCrew x1 D) := by
  unfold F_X6_readsCrew
  refine ev_s (fun Q k => rn_aload_n (j := 0) 0 rfl rfl (okO_0 ok_378) dX6_readsCrew_0 k) ?_
  refine ev_s (fun Q k => rn_bipush (v := 58) (by decide) dX6_readsCrew_1 k) ?_
  refine ev_bindU (as := [.inr (.inr 378), .inl (58 : Int32)]) (fun Q Q1 => rn_callV (as := [.inl (58 : Int32)]) (rest := []) (o := 378) m_X6_202 dX6_readsCrew_3 (rcv_own ok_378.1 ok_378.2.1 (by decide) (okO_1 ok_378)) rfl rfl (Nat.le_of_ble_eq_true rfl)) pl_X6_wants (Nat.le_of_ble_eq_true rfl) rfl (e_X6_wants l E d (58 : Int32) D) (fun r1 D2 => ?_)
  refine ev_s (fun Q k => rn_iconst (v := 1) (by decide) dX6_readsCrew_6 k) ?_
  refine ev_s (fun Q k => rn_aload_n (j := 0) 0 rfl rfl (okO_0 ok_378) dX6_readsCrew_7 k) ?_
  refine ev_bindI (as := [.inr (.inr 378)]) (fun Q Q1 => rn_callV (as := []) (rest := [.inl (1 : Int32)]) (o := 378) m_X6_199 dX6_readsCrew_8 (rcv_own ok_378.1 ok_378.2.1 (by decide) (okO_1 ok_378)) rfl rfl (Nat.le_of_ble_eq_true rfl)) pl_X6_digit (Nat.le_of_ble_eq_true rfl) rfl (e_X6_digit l E d  D2) (fun r3 D4 => ?_)
  refine ev_s (fun Q k => rn_bipush (v := 15) (by decide) dX6_readsCrew_11 k) ?_
  refine ev_s (fun Q k => rn_iand dX6_readsCrew_13 k) ?_
  refine ev_s (fun Q k => rn_ishl dX6_readsCrew_14 k) ?_
  refine ev_s (fun Q k => rn_istore_n (j := 2) (ls' := [(2, .inl ((1 : Int32) <<< ((r3 &&& (15 : Int32)) &&& 31))), (0, .inr (.inr 378)), (1, .inl x1)]) rfl (by decide) rfl dX6_readsCrew_15 k) ?_
  refine ev_s (fun Q k => rn_sub (ls' := [(0, .inr (.inr 378)), (1, .inl x1), (2, .inl ((1 : Int32) <<< ((r3 &&& (15 : Int32)) &&& 31)))]) [1, 2, 0] rfl k) ?_
  exact e_X6_readsCrew_16 l E d x1  lim ((1 : Int32) <<< ((r3 &&& (15 : Int32)) &&& 31)) D4

def F_X6_readsOrder_123    (D : dT) : Option (Int32 × dT) := if (D 378 10) = 0 then some ((0 : Int32), (up2 D 378 12 ((D 378 12) + (0 : Int32)))) else some ((0 : Int32), (up2 D 378 12 ((D 378 12) + (1 : Int32))))
def F_X6_readsOrder_70   (v1 : Int32) (v2 : Int32) (s0 : Int32) (s1 : Int32) (D : dT) : Option (Int32 × dT) := if inR s1 252 then if v2 = (106 : Int32) then bd (F_X6_readsJob v1 (up2 D 385 s1.toNatClampNeg s0)) (fun (r2 : Int32) (D3 : dT) => F_X6_readsOrder_123 D3) else if v2 = (103 : Int32) then bd (F_X6_readsCrew v1 (up2 D 385 s1.toNatClampNeg s0)) (fun (r4 : Int32) (D5 : dT) => F_X6_readsOrder_123 D5) else if v2 = (100 : Int32) then bd (F_X6_wants (43 : Int32) (up2 D 385 s1.toNatClampNeg s0)) (fun (r6 : Int32) (D7 : dT) => bd (F_X6_number  D7) (fun (r8 : Int32) (D9 : dT) => if inR (v1 + (2 : Int32)) 252 then F_X6_readsOrder_123 (up2 D9 385 (v1 + (2 : Int32)).toNatClampNeg r8) else none)) else F_X6_readsOrder_123 (up2 D 385 s1.toNatClampNeg s0) else none
def F_X6_readsOrder_38   (v1 : Int32) (v2 : Int32) (s0 : Int32) (s1 : Int32) (D : dT) : Option (Int32 × dT) := if inR v1 252 then if v2 = (97 : Int32) then F_X6_readsOrder_70 v1 v2 (0 : Int32) (v1 + (1 : Int32)) (up2 (up2 D 378 9 (s1 + s0)) 385 v1.toNatClampNeg v2) else bd (F_X6_number  (up2 (up2 D 378 9 (s1 + s0)) 385 v1.toNatClampNeg v2)) (fun (r2 : Int32) (D3 : dT) => F_X6_readsOrder_70 v1 v2 r2 (v1 + (1 : Int32)) D3) else none
def F_X6_readsOrder  (D : dT) : Option (Int32 × dT) := bd (F_X6_letter  D) (fun (r1 : Int32) (D2 : dT) => bd (F_X6_isOrder r1 D2) (fun (r3 : Int32) (D4 : dT) => if r3 = 0 ∨ r3 = 1 then if ((up2 D4 378 10 r3) 378 10) = 0 then F_X6_readsOrder_38 ((6 : Int32) * (D 378 12)) r1 (0 : Int32) ((up2 D4 378 10 r3) 378 9) (up2 D4 378 10 r3) else F_X6_readsOrder_38 ((6 : Int32) * (D 378 12)) r1 (1 : Int32) ((up2 D4 378 10 r3) 378 9) (up2 D4 378 10 r3) else none))
set_option maxRecDepth 20000 in
theorem e_X6_readsOrder_123 (l : Launch) (E : eE) (d : Nat)    (D : dT) : ev l E (d + 4) yX6_readsOrder cX6_readsOrder 3 none 123 [(0, .inr (.inr 378))] [] D eU (F_X6_readsOrder_123 D) := by
  unfold F_X6_readsOrder_123
  refine ev_s (fun Q k => rn_aload_n (j := 0) 0 rfl rfl (okO_0 ok_378) dX6_readsOrder_123 k) ?_
  refine ev_s (fun Q k => rn_dup rfl dX6_readsOrder_124 k) ?_
  refine ev_s (fun Q k => rn_geti f_X6_208 ok_378.1 ok_378.2.1 (okO_1 ok_378) rfl dX6_readsOrder_125 k) ?_
  refine ev_s (fun Q k => rn_aload_n (j := 0) 0 rfl rfl (okO_0 ok_378) dX6_readsOrder_128 k) ?_
  refine ev_s (fun Q k => rn_geti f_X6_192 ok_378.1 ok_378.2.1 (okO_1 ok_378) rfl dX6_readsOrder_129 k) ?_
  refine ev_if (fun Q => rn_if_eq (tgt := 139) dX6_readsOrder_132 (by decide)) (fun c1 => ?_) (fun c2 => ?_)
  · refine ev_s (fun Q k => rn_iconst (v := 0) (by decide) dX6_readsOrder_139 k) ?_
    refine ev_s (fun Q k => rn_iadd dX6_readsOrder_140 k) ?_
    refine ev_s (fun Q k => rn_puti f_X6_208 ok_378.1 ok_378.2.1 (okO_1 ok_378) rfl rfl rfl rfl dX6_readsOrder_141 k) ?_
    exact ev_ret (fun Q q => rn_retv q rfl dX6_readsOrder_144)
  · refine ev_s (fun Q k => rn_iconst (v := 1) (by decide) dX6_readsOrder_135 k) ?_
    refine ev_s (fun Q k => rn_goto (tgt := 140) dX6_readsOrder_136 (by decide) k) ?_
    refine ev_s (fun Q k => rn_iadd dX6_readsOrder_140 k) ?_
    refine ev_s (fun Q k => rn_puti f_X6_208 ok_378.1 ok_378.2.1 (okO_1 ok_378) rfl rfl rfl rfl dX6_readsOrder_141 k) ?_
    exact ev_ret (fun Q q => rn_retv q rfl dX6_readsOrder_144)

set_option maxRecDepth 20000 in
theorem e_X6_readsOrder_70 (l : Launch) (E : eE) (d : Nat)   (v1 : Int32) (v2 : Int32) (s0 : Int32) (s1 : Int32) (D : dT) : ev l E (d + 4) yX6_readsOrder cX6_readsOrder 3 none 70 [(0, .inr (.inr 378)), (1, .inl v1), (2, .inl v2)] [.inl s0, .inl s1, .inr (.inr 385)] D eU (F_X6_readsOrder_70 v1 v2 s0 s1 D) := by
  unfold F_X6_readsOrder_70
  refine ev_gd (fun g1 => ?_)
  refine ev_s (fun Q k => rn_iast ok_385.1 ok_385.2.1 ok_385.2.2 (inR_vp g1) dX6_readsOrder_70 k) ?_
  refine ev_s (fun Q k => rn_iload_n (j := 2) 2 rfl rfl dX6_readsOrder_71 k) ?_
  refine ev_s (fun Q k => rn_bipush (v := 106) (by decide) dX6_readsOrder_72 k) ?_
  refine ev_if (fun Q => rn_icmp_ne (tgt := 85) dX6_readsOrder_74 (by decide)) (fun c15 => ?_) (fun c16 => ?_)
  · refine ev_s (fun Q k => rn_aload_n (j := 0) 0 rfl rfl (okO_0 ok_378) dX6_readsOrder_77 k) ?_
    refine ev_s (fun Q k => rn_iload_n (j := 1) 1 rfl rfl dX6_readsOrder_78 k) ?_
    refine ev_bindU (as := [.inr (.inr 378), .inl v1]) (fun Q Q1 => rn_callV (as := [.inl v1]) (rest := []) (o := 378) m_X6_214 dX6_readsOrder_79 (rcv_own ok_378.1 ok_378.2.1 (by decide) (okO_1 ok_378)) rfl rfl (Nat.le_of_ble_eq_true rfl)) pl_X6_readsJob (Nat.le_of_ble_eq_true rfl) rfl (e_X6_readsJob l E d v1 (up2 D 385 s1.toNatClampNeg s0)) (fun r2 D3 => ?_)
    refine ev_s (fun Q k => rn_goto (tgt := 123) dX6_readsOrder_82 (by decide) k) ?_
    refine ev_s (fun Q k => rn_sub (ls' := [(0, .inr (.inr 378))]) [0] rfl k) ?_
    exact e_X6_readsOrder_123 l E d    D3
  · refine ev_s (fun Q k => rn_iload_n (j := 2) 2 rfl rfl dX6_readsOrder_85 k) ?_
    refine ev_s (fun Q k => rn_bipush (v := 103) (by decide) dX6_readsOrder_86 k) ?_
    refine ev_if (fun Q => rn_icmp_ne (tgt := 99) dX6_readsOrder_88 (by decide)) (fun c13 => ?_) (fun c14 => ?_)
    · refine ev_s (fun Q k => rn_aload_n (j := 0) 0 rfl rfl (okO_0 ok_378) dX6_readsOrder_91 k) ?_
      refine ev_s (fun Q k => rn_iload_n (j := 1) 1 rfl rfl dX6_readsOrder_92 k) ?_
      refine ev_bindU (as := [.inr (.inr 378), .inl v1]) (fun Q Q1 => rn_callV (as := [.inl v1]) (rest := []) (o := 378) m_X6_217 dX6_readsOrder_93 (rcv_own ok_378.1 ok_378.2.1 (by decide) (okO_1 ok_378)) rfl rfl (Nat.le_of_ble_eq_true rfl)) pl_X6_readsCrew (Nat.le_of_ble_eq_true rfl) rfl (e_X6_readsCrew l E (d + 1) v1 (up2 D 385 s1.toNatClampNeg s0)) (fun r4 D5 => ?_)
      refine ev_s (fun Q k => rn_goto (tgt := 123) dX6_readsOrder_96 (by decide) k) ?_
      refine ev_s (fun Q k => rn_sub (ls' := [(0, .inr (.inr 378))]) [0] rfl k) ?_
      exact e_X6_readsOrder_123 l E d    D5
    · refine ev_s (fun Q k => rn_iload_n (j := 2) 2 rfl rfl dX6_readsOrder_99 k) ?_
      refine ev_s (fun Q k => rn_bipush (v := 100) (by decide) dX6_readsOrder_100 k) ?_
      refine ev_if (fun Q => rn_icmp_ne (tgt := 123) dX6_readsOrder_102 (by decide)) (fun c11 => ?_) (fun c12 => ?_)
      · refine ev_s (fun Q k => rn_aload_n (j := 0) 0 rfl rfl (okO_0 ok_378) dX6_readsOrder_105 k) ?_
        refine ev_s (fun Q k => rn_bipush (v := 43) (by decide) dX6_readsOrder_106 k) ?_
        refine ev_bindU (as := [.inr (.inr 378), .inl (43 : Int32)]) (fun Q Q1 => rn_callV (as := [.inl (43 : Int32)]) (rest := []) (o := 378) m_X6_202 dX6_readsOrder_108 (rcv_own ok_378.1 ok_378.2.1 (by decide) (okO_1 ok_378)) rfl rfl (Nat.le_of_ble_eq_true rfl)) pl_X6_wants (Nat.le_of_ble_eq_true rfl) rfl (e_X6_wants l E (d + 2) (43 : Int32) (up2 D 385 s1.toNatClampNeg s0)) (fun r6 D7 => ?_)
        refine ev_s (fun Q k => rn_aload_n (j := 0) 0 rfl rfl (okO_0 ok_378) dX6_readsOrder_111 k) ?_
        refine ev_s (fun Q k => rn_getr (q := 385) f_X6_29 ok_378.1 ok_378.2.1 (okO_1 ok_378) rfl rfl dX6_readsOrder_112 k) ?_
        refine ev_s (fun Q k => rn_iload_n (j := 1) 1 rfl rfl dX6_readsOrder_115 k) ?_
        refine ev_s (fun Q k => rn_iconst (v := 2) (by decide) dX6_readsOrder_116 k) ?_
        refine ev_s (fun Q k => rn_iadd dX6_readsOrder_117 k) ?_
        refine ev_s (fun Q k => rn_aload_n (j := 0) 0 rfl rfl (okO_0 ok_378) dX6_readsOrder_118 k) ?_
        refine ev_bindI (as := [.inr (.inr 378)]) (fun Q Q1 => rn_callV (as := []) (rest := [.inl (v1 + (2 : Int32)), .inr (.inr 385)]) (o := 378) m_X6_205 dX6_readsOrder_119 (rcv_own ok_378.1 ok_378.2.1 (by decide) (okO_1 ok_378)) rfl rfl (Nat.le_of_ble_eq_true rfl)) pl_X6_number (Nat.le_of_ble_eq_true rfl) rfl (e_X6_number l E (d + 1)  D7) (fun r8 D9 => ?_)
        refine ev_gd (fun g10 => ?_)
        refine ev_s (fun Q k => rn_iast ok_385.1 ok_385.2.1 ok_385.2.2 (inR_vp g10) dX6_readsOrder_122 k) ?_
        refine ev_s (fun Q k => rn_sub (ls' := [(0, .inr (.inr 378))]) [0] rfl k) ?_
        exact e_X6_readsOrder_123 l E d    (up2 D9 385 (v1 + (2 : Int32)).toNatClampNeg r8)
      · refine ev_s (fun Q k => rn_sub (ls' := [(0, .inr (.inr 378))]) [0] rfl k) ?_
        exact e_X6_readsOrder_123 l E d    (up2 D 385 s1.toNatClampNeg s0)

set_option maxRecDepth 20000 in
theorem e_X6_readsOrder_38 (l : Launch) (E : eE) (d : Nat)   (v1 : Int32) (v2 : Int32) (s0 : Int32) (s1 : Int32) (D : dT) : ev l E (d + 4) yX6_readsOrder cX6_readsOrder 3 none 38 [(0, .inr (.inr 378)), (1, .inl v1), (2, .inl v2)] [.inl s0, .inl s1, .inr (.inr 378)] D eU (F_X6_readsOrder_38 v1 v2 s0 s1 D) := by
  unfold F_X6_readsOrder_38
  refine ev_s (fun Q k => rn_iadd dX6_readsOrder_38 k) ?_
  refine ev_s (fun Q k => rn_puti f_X6_189 ok_378.1 ok_378.2.1 (okO_1 ok_378) rfl rfl rfl rfl dX6_readsOrder_39 k) ?_
  refine ev_s (fun Q k => rn_aload_n (j := 0) 0 rfl rfl (okO_0 ok_378) dX6_readsOrder_42 k) ?_
  refine ev_s (fun Q k => rn_getr (q := 385) f_X6_29 ok_378.1 ok_378.2.1 (okO_1 ok_378) rfl rfl dX6_readsOrder_43 k) ?_
  refine ev_s (fun Q k => rn_iload_n (j := 1) 1 rfl rfl dX6_readsOrder_46 k) ?_
  refine ev_s (fun Q k => rn_iload_n (j := 2) 2 rfl rfl dX6_readsOrder_47 k) ?_
  refine ev_gd (fun g1 => ?_)
  refine ev_s (fun Q k => rn_iast ok_385.1 ok_385.2.1 ok_385.2.2 (inR_vp g1) dX6_readsOrder_48 k) ?_
  refine ev_s (fun Q k => rn_aload_n (j := 0) 0 rfl rfl (okO_0 ok_378) dX6_readsOrder_49 k) ?_
  refine ev_s (fun Q k => rn_getr (q := 385) f_X6_29 ok_378.1 ok_378.2.1 (okO_1 ok_378) rfl rfl dX6_readsOrder_50 k) ?_
  refine ev_s (fun Q k => rn_iload_n (j := 1) 1 rfl rfl dX6_readsOrder_53 k) ?_
  refine ev_s (fun Q k => rn_iconst (v := 1) (by decide) dX6_readsOrder_54 k) ?_
  refine ev_s (fun Q k => rn_iadd dX6_readsOrder_55 k) ?_
  refine ev_s (fun Q k => rn_iload_n (j := 2) 2 rfl rfl dX6_readsOrder_56 k) ?_
  refine ev_s (fun Q k => rn_bipush (v := 97) (by decide) dX6_readsOrder_57 k) ?_
  refine ev_if (fun Q => rn_icmp_ne (tgt := 66) dX6_readsOrder_59 (by decide)) (fun c4 => ?_) (fun c5 => ?_)
  · refine ev_s (fun Q k => rn_iconst (v := 0) (by decide) dX6_readsOrder_62 k) ?_
    refine ev_s (fun Q k => rn_goto (tgt := 70) dX6_readsOrder_63 (by decide) k) ?_
    exact e_X6_readsOrder_70 l E d    v1 v2 (0 : Int32) (v1 + (1 : Int32)) (up2 (up2 D 378 9 (s1 + s0)) 385 v1.toNatClampNeg v2)
  · refine ev_s (fun Q k => rn_aload_n (j := 0) 0 rfl rfl (okO_0 ok_378) dX6_readsOrder_66 k) ?_
    refine ev_bindI (as := [.inr (.inr 378)]) (fun Q Q1 => rn_callV (as := []) (rest := [.inl (v1 + (1 : Int32)), .inr (.inr 385)]) (o := 378) m_X6_205 dX6_readsOrder_67 (rcv_own ok_378.1 ok_378.2.1 (by decide) (okO_1 ok_378)) rfl rfl (Nat.le_of_ble_eq_true rfl)) pl_X6_number (Nat.le_of_ble_eq_true rfl) rfl (e_X6_number l E (d + 1)  (up2 (up2 D 378 9 (s1 + s0)) 385 v1.toNatClampNeg v2)) (fun r2 D3 => ?_)
    exact e_X6_readsOrder_70 l E d    v1 v2 r2 (v1 + (1 : Int32)) D3

set_option maxRecDepth 20000 in
theorem e_X6_readsOrder (l : Launch) (E : eE) (d : Nat)  (D : dT) : ev l E (d + 4) yX6_readsOrder cX6_readsOrder 3 none 0 [(0, .inr (.inr 378))] [] D eU (F_X6_readsOrder D) := by
  unfold F_X6_readsOrder
  refine ev_s (fun Q k => rn_bipush (v := 6) (by decide) dX6_readsOrder_0 k) ?_
  refine ev_s (fun Q k => rn_aload_n (j := 0) 0 rfl rfl (okO_0 ok_378) dX6_readsOrder_2 k) ?_
  refine ev_s (fun Q k => rn_geti f_X6_208 ok_378.1 ok_378.2.1 (okO_1 ok_378) rfl dX6_readsOrder_3 k) ?_
  refine ev_s (fun Q k => rn_imul dX6_readsOrder_6 k) ?_
  refine ev_s (fun Q k => rn_istore_n (j := 1) (ls' := [(1, .inl ((6 : Int32) * (D 378 12))), (0, .inr (.inr 378))]) rfl (by decide) rfl dX6_readsOrder_7 k) ?_
  refine ev_s (fun Q k => rn_aload_n (j := 0) 1 rfl rfl (okO_0 ok_378) dX6_readsOrder_8 k) ?_
  refine ev_bindI (as := [.inr (.inr 378)]) (fun Q Q1 => rn_callV (as := []) (rest := []) (o := 378) m_X6_196 dX6_readsOrder_9 (rcv_own ok_378.1 ok_378.2.1 (by decide) (okO_1 ok_378)) rfl rfl (Nat.le_of_ble_eq_true rfl)) pl_X6_letter (Nat.le_of_ble_eq_true rfl) rfl (e_X6_letter l E (d + 3)  D) (fun r1 D2 => ?_)
  refine ev_s (fun Q k => rn_istore_n (j := 2) (ls' := [(2, .inl r1), (1, .inl ((6 : Int32) * (D 378 12))), (0, .inr (.inr 378))]) rfl (by decide) rfl dX6_readsOrder_12 k) ?_
  refine ev_s (fun Q k => rn_aload_n (j := 0) 2 rfl rfl (okO_0 ok_378) dX6_readsOrder_13 k) ?_
  refine ev_s (fun Q k => rn_iload_n (j := 2) 0 rfl rfl dX6_readsOrder_14 k) ?_
  refine ev_bindI (as := [.inl r1]) (fun Q Q1 => rn_callS (as := [.inl r1]) (rest := [.inr (.inr 378)]) m_X6_211 dX6_readsOrder_15 rfl rfl (Nat.le_of_ble_eq_true rfl)) pl_X6_isOrder (Nat.le_of_ble_eq_true rfl) rfl (e_X6_isOrder l E (d + 3) r1 D2) (fun r3 D4 => ?_)
  refine ev_gd (fun g5 => ?_)
  refine ev_s (fun Q k => rn_puti f_X6_192 ok_378.1 ok_378.2.1 (okO_1 ok_378) rfl rfl (nz_b g5) (ft_b g5) dX6_readsOrder_18 k) ?_
  refine ev_s (fun Q k => rn_aload_n (j := 0) 2 rfl rfl (okO_0 ok_378) dX6_readsOrder_21 k) ?_
  refine ev_s (fun Q k => rn_dup rfl dX6_readsOrder_22 k) ?_
  refine ev_s (fun Q k => rn_geti f_X6_189 ok_378.1 ok_378.2.1 (okO_1 ok_378) rfl dX6_readsOrder_23 k) ?_
  refine ev_s (fun Q k => rn_aload_n (j := 0) 2 rfl rfl (okO_0 ok_378) dX6_readsOrder_26 k) ?_
  refine ev_s (fun Q k => rn_geti f_X6_192 ok_378.1 ok_378.2.1 (okO_1 ok_378) rfl dX6_readsOrder_27 k) ?_
  refine ev_if (fun Q => rn_if_eq (tgt := 37) dX6_readsOrder_30 (by decide)) (fun c6 => ?_) (fun c7 => ?_)
  · refine ev_s (fun Q k => rn_iconst (v := 0) (by decide) dX6_readsOrder_37 k) ?_
    refine ev_s (fun Q k => rn_sub (ls' := [(0, .inr (.inr 378)), (1, .inl ((6 : Int32) * (D 378 12))), (2, .inl r1)]) [2, 1, 0] rfl k) ?_
    exact e_X6_readsOrder_38 l E d    ((6 : Int32) * (D 378 12)) r1 (0 : Int32) ((up2 D4 378 10 r3) 378 9) (up2 D4 378 10 r3)
  · refine ev_s (fun Q k => rn_iconst (v := 1) (by decide) dX6_readsOrder_33 k) ?_
    refine ev_s (fun Q k => rn_goto (tgt := 38) dX6_readsOrder_34 (by decide) k) ?_
    refine ev_s (fun Q k => rn_sub (ls' := [(0, .inr (.inr 378)), (1, .inl ((6 : Int32) * (D 378 12))), (2, .inl r1)]) [2, 1, 0] rfl k) ?_
    exact e_X6_readsOrder_38 l E d    ((6 : Int32) * (D 378 12)) r1 (1 : Int32) ((up2 D4 378 10 r3) 378 9) (up2 D4 378 10 r3)

def F_X6_reads_52    (D : dT) : Option (Int32 × dT) := if (D 378 10) = 0 then some ((D 378 9), D) else some ((-6 : Int32), D)
def F_X6_reads_14 (fuel : Nat)    (D : dT) : Option (Int32 × dT) := match fuel with
  | 0 => none
  | fu + 1 => if (D 378 10) = 0 then F_X6_reads_52 D else if (D 378 8) ≤ (D 378 9) then F_X6_reads_52 D else bd (F_X6_wants (59 : Int32) D) (fun (r1 : Int32) (D2 : dT) => if (D2 378 10) = 0 then F_X6_reads_14 fu D2 else bd (F_X6_readsOrder  D2) (fun (r3 : Int32) (D4 : dT) => F_X6_reads_14 fu D4))
def F_X6_reads  (D : dT) : Option (Int32 × dT) := bd (F_X6_readsOrder  (up2 (up2 D 378 9 (0 : Int32)) 378 12 (0 : Int32))) (fun (r1 : Int32) (D2 : dT) => F_X6_reads_14 lim D2)
set_option maxRecDepth 20000 in
theorem e_X6_reads_52 (l : Launch) (E : eE) (d : Nat)    (D : dT) : ev l E (d + 5) yX6_reads cX6_reads 1 (some .int) 52 [(0, .inr (.inr 378))] [] D eI (F_X6_reads_52 D) := by
  unfold F_X6_reads_52
  refine ev_s (fun Q k => rn_aload_n (j := 0) 0 rfl rfl (okO_0 ok_378) dX6_reads_52 k) ?_
  refine ev_s (fun Q k => rn_geti f_X6_192 ok_378.1 ok_378.2.1 (okO_1 ok_378) rfl dX6_reads_53 k) ?_
  refine ev_if (fun Q => rn_if_eq (tgt := 64) dX6_reads_56 (by decide)) (fun c1 => ?_) (fun c2 => ?_)
  · refine ev_s (fun Q k => rn_aload_n (j := 0) 0 rfl rfl (okO_0 ok_378) dX6_reads_64 k) ?_
    refine ev_s (fun Q k => rn_geti f_X6_189 ok_378.1 ok_378.2.1 (okO_1 ok_378) rfl dX6_reads_65 k) ?_
    exact ev_ret (fun Q q => rn_ret q .int rfl rfl dX6_reads_68)
  · refine ev_s (fun Q k => rn_bipush (v := -6) (by decide) dX6_reads_59 k) ?_
    refine ev_s (fun Q k => rn_goto (tgt := 68) dX6_reads_61 (by decide) k) ?_
    exact ev_ret (fun Q q => rn_ret q .int rfl rfl dX6_reads_68)

set_option maxRecDepth 20000 in
theorem e_X6_reads_14 (l : Launch) (E : eE) (d : Nat)   (fuel : Nat) : ∀  (D : dT), ev l E (d + 5) yX6_reads cX6_reads 1 (some .int) 14 [(0, .inr (.inr 378))] [] D eI (F_X6_reads_14 fuel D) := by
  induction fuel with
  | zero =>
    intro  D
    exact ev_none
  | succ fu ih =>
    intro  D
    rw [F_X6_reads_14]
    refine ev_s (fun Q k => rn_aload_n (j := 0) 0 rfl rfl (okO_0 ok_378) dX6_reads_14 k) ?_
    refine ev_s (fun Q k => rn_geti f_X6_192 ok_378.1 ok_378.2.1 (okO_1 ok_378) rfl dX6_reads_15 k) ?_
    refine ev_if (fun Q => rn_if_eq (tgt := 52) dX6_reads_18 (by decide)) (fun c9 => ?_) (fun c10 => ?_)
    · exact e_X6_reads_52 l E d    D
    · refine ev_s (fun Q k => rn_aload_n (j := 0) 0 rfl rfl (okO_0 ok_378) dX6_reads_21 k) ?_
      refine ev_s (fun Q k => rn_geti f_X6_189 ok_378.1 ok_378.2.1 (okO_1 ok_378) rfl dX6_reads_22 k) ?_
      refine ev_s (fun Q k => rn_aload_n (j := 0) 0 rfl rfl (okO_0 ok_378) dX6_reads_25 k) ?_
      refine ev_s (fun Q k => rn_geti f_X6_178 ok_378.1 ok_378.2.1 (okO_1 ok_378) rfl dX6_reads_26 k) ?_
      refine ev_if (fun Q => rn_icmp_ge (tgt := 52) dX6_reads_29 (by decide)) (fun c7 => ?_) (fun c8 => ?_)
      · exact e_X6_reads_52 l E d    D
      · refine ev_s (fun Q k => rn_aload_n (j := 0) 0 rfl rfl (okO_0 ok_378) dX6_reads_32 k) ?_
        refine ev_s (fun Q k => rn_bipush (v := 59) (by decide) dX6_reads_33 k) ?_
        refine ev_bindU (as := [.inr (.inr 378), .inl (59 : Int32)]) (fun Q Q1 => rn_callV (as := [.inl (59 : Int32)]) (rest := []) (o := 378) m_X6_202 dX6_reads_35 (rcv_own ok_378.1 ok_378.2.1 (by decide) (okO_1 ok_378)) rfl rfl (Nat.le_of_ble_eq_true rfl)) pl_X6_wants (Nat.le_of_ble_eq_true rfl) rfl (e_X6_wants l E (d + 3) (59 : Int32) D) (fun r1 D2 => ?_)
        refine ev_s (fun Q k => rn_aload_n (j := 0) 0 rfl rfl (okO_0 ok_378) dX6_reads_38 k) ?_
        refine ev_s (fun Q k => rn_geti f_X6_192 ok_378.1 ok_378.2.1 (okO_1 ok_378) rfl dX6_reads_39 k) ?_
        refine ev_if (fun Q => rn_if_eq (tgt := 14) dX6_reads_42 (by decide)) (fun c5 => ?_) (fun c6 => ?_)
        · exact ih D2
        · refine ev_s (fun Q k => rn_aload_n (j := 0) 0 rfl rfl (okO_0 ok_378) dX6_reads_45 k) ?_
          refine ev_bindU (as := [.inr (.inr 378)]) (fun Q Q1 => rn_callV (as := []) (rest := []) (o := 378) m_X6_220 dX6_reads_46 (rcv_own ok_378.1 ok_378.2.1 (by decide) (okO_1 ok_378)) rfl rfl (Nat.le_of_ble_eq_true rfl)) pl_X6_readsOrder (Nat.le_of_ble_eq_true rfl) rfl (e_X6_readsOrder l E d  D2) (fun r3 D4 => ?_)
          refine ev_s (fun Q k => rn_goto (tgt := 14) dX6_reads_49 (by decide) k) ?_
          exact ih D4

set_option maxRecDepth 20000 in
theorem e_X6_reads (l : Launch) (E : eE) (d : Nat)  (D : dT) : ev l E (d + 5) yX6_reads cX6_reads 1 (some .int) 0 [(0, .inr (.inr 378))] [] D eI (F_X6_reads D) := by
  unfold F_X6_reads
  refine ev_s (fun Q k => rn_aload_n (j := 0) 0 rfl rfl (okO_0 ok_378) dX6_reads_0 k) ?_
  refine ev_s (fun Q k => rn_iconst (v := 0) (by decide) dX6_reads_1 k) ?_
  refine ev_s (fun Q k => rn_puti f_X6_189 ok_378.1 ok_378.2.1 (okO_1 ok_378) rfl rfl rfl rfl dX6_reads_2 k) ?_
  refine ev_s (fun Q k => rn_aload_n (j := 0) 0 rfl rfl (okO_0 ok_378) dX6_reads_5 k) ?_
  refine ev_s (fun Q k => rn_iconst (v := 0) (by decide) dX6_reads_6 k) ?_
  refine ev_s (fun Q k => rn_puti f_X6_208 ok_378.1 ok_378.2.1 (okO_1 ok_378) rfl rfl rfl rfl dX6_reads_7 k) ?_
  refine ev_s (fun Q k => rn_aload_n (j := 0) 0 rfl rfl (okO_0 ok_378) dX6_reads_10 k) ?_
  refine ev_bindU (as := [.inr (.inr 378)]) (fun Q Q1 => rn_callV (as := []) (rest := []) (o := 378) m_X6_220 dX6_reads_11 (rcv_own ok_378.1 ok_378.2.1 (by decide) (okO_1 ok_378)) rfl rfl (Nat.le_of_ble_eq_true rfl)) pl_X6_readsOrder (Nat.le_of_ble_eq_true rfl) rfl (e_X6_readsOrder l E d  (up2 (up2 D 378 9 (0 : Int32)) 378 12 (0 : Int32))) (fun r1 D2 => ?_)
  exact e_X6_reads_14 l E d   lim D2

def F_X6_fault  (D : dT) : Option (Int32 × dT) := bd (F_X6_reads  (up2 D 378 0 (0 : Int32))) (fun (r1 : Int32) (D2 : dT) => some (r1, D2))
set_option maxRecDepth 20000 in
theorem e_X6_fault (l : Launch) (E : eE) (d : Nat)  (D : dT) : ev l E (d + 6) yX6_fault cX6_fault 1 (some .int) 0 [(0, .inr (.inr 378))] [] D eI (F_X6_fault D) := by
  unfold F_X6_fault
  refine ev_s (fun Q k => rn_aload_n (j := 0) 0 rfl rfl (okO_0 ok_378) dX6_fault_0 k) ?_
  refine ev_s (fun Q k => rn_iconst (v := 0) (by decide) dX6_fault_1 k) ?_
  refine ev_s (fun Q k => rn_puti f_X6_32 ok_378.1 ok_378.2.1 (okO_1 ok_378) rfl rfl rfl rfl dX6_fault_2 k) ?_
  refine ev_s (fun Q k => rn_aload_n (j := 0) 0 rfl rfl (okO_0 ok_378) dX6_fault_5 k) ?_
  refine ev_bindI (as := [.inr (.inr 378)]) (fun Q Q1 => rn_callV (as := []) (rest := []) (o := 378) m_X6_223 dX6_fault_6 (rcv_own ok_378.1 ok_378.2.1 (by decide) (okO_1 ok_378)) rfl rfl (Nat.le_of_ble_eq_true rfl)) pl_X6_reads (Nat.le_of_ble_eq_true rfl) rfl (e_X6_reads l E d  (up2 D 378 0 (0 : Int32))) (fun r1 D2 => ?_)
  exact ev_ret (fun Q q => rn_ret q .int rfl rfl dX6_fault_9)

def F_X6_refuses (x1 : Int32) (D : dT) : Option (Int32 × dT) := if inR (x1 + (1 : Int32)) 252 then if inR (x1 + (2 : Int32)) 252 then if inR x1 252 then if (D 385 x1.toNatClampNeg) = (100 : Int32) then bd (F_X6_refusesDelay (D 385 (x1 + (1 : Int32)).toNatClampNeg) (D 385 (x1 + (2 : Int32)).toNatClampNeg) D) (fun (r4 : Int32) (D5 : dT) => some (r4, D5)) else if (D 385 x1.toNatClampNeg) = (103 : Int32) then if inR (x1 + (3 : Int32)) 252 then bd (F_X6_refusesBegin (D 385 (x1 + (1 : Int32)).toNatClampNeg) (D 385 (x1 + (2 : Int32)).toNatClampNeg) (D 385 (x1 + (3 : Int32)).toNatClampNeg) D) (fun (r9 : Int32) (D10 : dT) => some (r9, D10)) else none else if (D 385 x1.toNatClampNeg) = (106 : Int32) then if inR (x1 + (3 : Int32)) 252 then if inR (x1 + (4 : Int32)) 252 then if inR (x1 + (5 : Int32)) 252 then bd (F_X6_refusesJob (D 385 (x1 + (1 : Int32)).toNatClampNeg) (D 385 (x1 + (2 : Int32)).toNatClampNeg) (D 385 (x1 + (3 : Int32)).toNatClampNeg) (D 385 (x1 + (4 : Int32)).toNatClampNeg) (D 385 (x1 + (5 : Int32)).toNatClampNeg) D) (fun (r16 : Int32) (D17 : dT) => some (r16, D17)) else none else none else none else if (D 385 x1.toNatClampNeg) = (110 : Int32) then bd (F_X6_refusesHours (D 385 (x1 + (1 : Int32)).toNatClampNeg) D) (fun (r20 : Int32) (D21 : dT) => some (r20, D21)) else if (D 385 x1.toNatClampNeg) = (119 : Int32) then bd (F_X6_refusesPerson (D 385 (x1 + (1 : Int32)).toNatClampNeg) D) (fun (r24 : Int32) (D25 : dT) => some (r24, D25)) else if (D 385 x1.toNatClampNeg) = (120 : Int32) then bd (F_X6_refusesCall (D 385 (x1 + (1 : Int32)).toNatClampNeg) D) (fun (r28 : Int32) (D29 : dT) => some (r28, D29)) else some ((0 : Int32), D) else none else none else none
set_option maxRecDepth 20000 in
theorem e_X6_refuses (l : Launch) (E : eE) (d : Nat) (x1 : Int32) (D : dT) : ev l E (d + 5) yX6_refuses cX6_refuses 4 (some .int) 0 [(0, .inr (.inr 378)), (1, .inl x1)] [] D eI (F_X6_refuses x1 D) := by
  unfold F_X6_refuses
  refine ev_s (fun Q k => rn_aload_n (j := 0) 0 rfl rfl (okO_0 ok_378) dX6_refuses_0 k) ?_
  refine ev_s (fun Q k => rn_getr (q := 385) f_X6_29 ok_378.1 ok_378.2.1 (okO_1 ok_378) rfl rfl dX6_refuses_1 k) ?_
  refine ev_s (fun Q k => rn_iload_n (j := 1) 1 rfl rfl dX6_refuses_4 k) ?_
  refine ev_s (fun Q k => rn_iconst (v := 1) (by decide) dX6_refuses_5 k) ?_
  refine ev_s (fun Q k => rn_iadd dX6_refuses_6 k) ?_
  refine ev_gd (fun g1 => ?_)
  refine ev_s (fun Q k => rn_iald ok_385.1 ok_385.2.1 ok_385.2.2 (inR_vp g1) dX6_refuses_7 k) ?_
  refine ev_s (fun Q k => rn_istore_n (j := 2) (ls' := [(2, .inl (D 385 (x1 + (1 : Int32)).toNatClampNeg)), (0, .inr (.inr 378)), (1, .inl x1)]) rfl (by decide) rfl dX6_refuses_8 k) ?_
  refine ev_s (fun Q k => rn_aload_n (j := 0) 1 rfl rfl (okO_0 ok_378) dX6_refuses_9 k) ?_
  refine ev_s (fun Q k => rn_getr (q := 385) f_X6_29 ok_378.1 ok_378.2.1 (okO_1 ok_378) rfl rfl dX6_refuses_10 k) ?_
  refine ev_s (fun Q k => rn_iload_n (j := 1) 2 rfl rfl dX6_refuses_13 k) ?_
  refine ev_s (fun Q k => rn_iconst (v := 2) (by decide) dX6_refuses_14 k) ?_
  refine ev_s (fun Q k => rn_iadd dX6_refuses_15 k) ?_
  refine ev_gd (fun g2 => ?_)
  refine ev_s (fun Q k => rn_iald ok_385.1 ok_385.2.1 ok_385.2.2 (inR_vp g2) dX6_refuses_16 k) ?_
  refine ev_s (fun Q k => rn_istore_n (j := 3) (ls' := [(3, .inl (D 385 (x1 + (2 : Int32)).toNatClampNeg)), (2, .inl (D 385 (x1 + (1 : Int32)).toNatClampNeg)), (0, .inr (.inr 378)), (1, .inl x1)]) rfl (by decide) rfl dX6_refuses_17 k) ?_
  refine ev_s (fun Q k => rn_aload_n (j := 0) 2 rfl rfl (okO_0 ok_378) dX6_refuses_18 k) ?_
  refine ev_s (fun Q k => rn_getr (q := 385) f_X6_29 ok_378.1 ok_378.2.1 (okO_1 ok_378) rfl rfl dX6_refuses_19 k) ?_
  refine ev_s (fun Q k => rn_iload_n (j := 1) 3 rfl rfl dX6_refuses_22 k) ?_
  refine ev_gd (fun g3 => ?_)
  refine ev_s (fun Q k => rn_iald ok_385.1 ok_385.2.1 ok_385.2.2 (inR_vp g3) dX6_refuses_23 k) ?_
  refine ev_ite (fun c6 => ?_) (fun c7 => ?_)
  · refine ev_s (fun Q k => rn_lsw (off := 112) (tgt := 136) dX6_refuses_24 (by decide) (by rw [c6]; rfl) (by decide) k) ?_
    refine ev_s (fun Q k => rn_aload_n (j := 0) 2 rfl rfl (okO_0 ok_378) dX6_refuses_136 k) ?_
    refine ev_s (fun Q k => rn_iload_n (j := 2) 1 rfl rfl dX6_refuses_137 k) ?_
    refine ev_s (fun Q k => rn_iload_n (j := 3) 0 rfl rfl dX6_refuses_138 k) ?_
    refine ev_bindI (as := [.inr (.inr 378), .inl (D 385 (x1 + (1 : Int32)).toNatClampNeg), .inl (D 385 (x1 + (2 : Int32)).toNatClampNeg)]) (fun Q Q1 => rn_callV (as := [.inl (D 385 (x1 + (1 : Int32)).toNatClampNeg), .inl (D 385 (x1 + (2 : Int32)).toNatClampNeg)]) (rest := []) (o := 378) m_X6_148 dX6_refuses_139 (rcv_own ok_378.1 ok_378.2.1 (by decide) (okO_1 ok_378)) rfl rfl (Nat.le_of_ble_eq_true rfl)) pl_X6_refusesDelay (Nat.le_of_ble_eq_true rfl) rfl (e_X6_refusesDelay l E (d + 2) (D 385 (x1 + (1 : Int32)).toNatClampNeg) (D 385 (x1 + (2 : Int32)).toNatClampNeg) D) (fun r4 D5 => ?_)
    exact ev_ret (fun Q q => rn_ret q .int rfl rfl dX6_refuses_142)
  · refine ev_ite (fun c11 => ?_) (fun c12 => ?_)
    · refine ev_s (fun Q k => rn_lsw (off := 97) (tgt := 121) dX6_refuses_24 (by decide) (by rw [c11]; rfl) (by decide) k) ?_
      refine ev_s (fun Q k => rn_aload_n (j := 0) 2 rfl rfl (okO_0 ok_378) dX6_refuses_121 k) ?_
      refine ev_s (fun Q k => rn_iload_n (j := 2) 1 rfl rfl dX6_refuses_122 k) ?_
      refine ev_s (fun Q k => rn_iload_n (j := 3) 0 rfl rfl dX6_refuses_123 k) ?_
      refine ev_s (fun Q k => rn_aload_n (j := 0) 2 rfl rfl (okO_0 ok_378) dX6_refuses_124 k) ?_
      refine ev_s (fun Q k => rn_getr (q := 385) f_X6_29 ok_378.1 ok_378.2.1 (okO_1 ok_378) rfl rfl dX6_refuses_125 k) ?_
      refine ev_s (fun Q k => rn_iload_n (j := 1) 3 rfl rfl dX6_refuses_128 k) ?_
      refine ev_s (fun Q k => rn_iconst (v := 3) (by decide) dX6_refuses_129 k) ?_
      refine ev_s (fun Q k => rn_iadd dX6_refuses_130 k) ?_
      refine ev_gd (fun g8 => ?_)
      refine ev_s (fun Q k => rn_iald ok_385.1 ok_385.2.1 ok_385.2.2 (inR_vp g8) dX6_refuses_131 k) ?_
      refine ev_bindI (as := [.inr (.inr 378), .inl (D 385 (x1 + (1 : Int32)).toNatClampNeg), .inl (D 385 (x1 + (2 : Int32)).toNatClampNeg), .inl (D 385 (x1 + (3 : Int32)).toNatClampNeg)]) (fun Q Q1 => rn_callV (as := [.inl (D 385 (x1 + (1 : Int32)).toNatClampNeg), .inl (D 385 (x1 + (2 : Int32)).toNatClampNeg), .inl (D 385 (x1 + (3 : Int32)).toNatClampNeg)]) (rest := []) (o := 378) m_X6_142 dX6_refuses_132 (rcv_own ok_378.1 ok_378.2.1 (by decide) (okO_1 ok_378)) rfl rfl (Nat.le_of_ble_eq_true rfl)) pl_X6_refusesBegin (Nat.le_of_ble_eq_true rfl) rfl (e_X6_refusesBegin l E d (D 385 (x1 + (1 : Int32)).toNatClampNeg) (D 385 (x1 + (2 : Int32)).toNatClampNeg) (D 385 (x1 + (3 : Int32)).toNatClampNeg) D) (fun r9 D10 => ?_)
      exact ev_ret (fun Q q => rn_ret q .int rfl rfl dX6_refuses_135)
    · refine ev_ite (fun c18 => ?_) (fun c19 => ?_)
      · refine ev_s (fun Q k => rn_lsw (off := 66) (tgt := 90) dX6_refuses_24 (by decide) (by rw [c18]; rfl) (by decide) k) ?_
        refine ev_s (fun Q k => rn_aload_n (j := 0) 2 rfl rfl (okO_0 ok_378) dX6_refuses_90 k) ?_
        refine ev_s (fun Q k => rn_iload_n (j := 2) 1 rfl rfl dX6_refuses_91 k) ?_
        refine ev_s (fun Q k => rn_iload_n (j := 3) 0 rfl rfl dX6_refuses_92 k) ?_
        refine ev_s (fun Q k => rn_aload_n (j := 0) 2 rfl rfl (okO_0 ok_378) dX6_refuses_93 k) ?_
        refine ev_s (fun Q k => rn_getr (q := 385) f_X6_29 ok_378.1 ok_378.2.1 (okO_1 ok_378) rfl rfl dX6_refuses_94 k) ?_
        refine ev_s (fun Q k => rn_iload_n (j := 1) 3 rfl rfl dX6_refuses_97 k) ?_
        refine ev_s (fun Q k => rn_iconst (v := 3) (by decide) dX6_refuses_98 k) ?_
        refine ev_s (fun Q k => rn_iadd dX6_refuses_99 k) ?_
        refine ev_gd (fun g13 => ?_)
        refine ev_s (fun Q k => rn_iald ok_385.1 ok_385.2.1 ok_385.2.2 (inR_vp g13) dX6_refuses_100 k) ?_
        refine ev_s (fun Q k => rn_aload_n (j := 0) 2 rfl rfl (okO_0 ok_378) dX6_refuses_101 k) ?_
        refine ev_s (fun Q k => rn_getr (q := 385) f_X6_29 ok_378.1 ok_378.2.1 (okO_1 ok_378) rfl rfl dX6_refuses_102 k) ?_
        refine ev_s (fun Q k => rn_iload_n (j := 1) 3 rfl rfl dX6_refuses_105 k) ?_
        refine ev_s (fun Q k => rn_iconst (v := 4) (by decide) dX6_refuses_106 k) ?_
        refine ev_s (fun Q k => rn_iadd dX6_refuses_107 k) ?_
        refine ev_gd (fun g14 => ?_)
        refine ev_s (fun Q k => rn_iald ok_385.1 ok_385.2.1 ok_385.2.2 (inR_vp g14) dX6_refuses_108 k) ?_
        refine ev_s (fun Q k => rn_aload_n (j := 0) 2 rfl rfl (okO_0 ok_378) dX6_refuses_109 k) ?_
        refine ev_s (fun Q k => rn_getr (q := 385) f_X6_29 ok_378.1 ok_378.2.1 (okO_1 ok_378) rfl rfl dX6_refuses_110 k) ?_
        refine ev_s (fun Q k => rn_iload_n (j := 1) 3 rfl rfl dX6_refuses_113 k) ?_
        refine ev_s (fun Q k => rn_iconst (v := 5) (by decide) dX6_refuses_114 k) ?_
        refine ev_s (fun Q k => rn_iadd dX6_refuses_115 k) ?_
        refine ev_gd (fun g15 => ?_)
        refine ev_s (fun Q k => rn_iald ok_385.1 ok_385.2.1 ok_385.2.2 (inR_vp g15) dX6_refuses_116 k) ?_
        refine ev_bindI (as := [.inr (.inr 378), .inl (D 385 (x1 + (1 : Int32)).toNatClampNeg), .inl (D 385 (x1 + (2 : Int32)).toNatClampNeg), .inl (D 385 (x1 + (3 : Int32)).toNatClampNeg), .inl (D 385 (x1 + (4 : Int32)).toNatClampNeg), .inl (D 385 (x1 + (5 : Int32)).toNatClampNeg)]) (fun Q Q1 => rn_callV (as := [.inl (D 385 (x1 + (1 : Int32)).toNatClampNeg), .inl (D 385 (x1 + (2 : Int32)).toNatClampNeg), .inl (D 385 (x1 + (3 : Int32)).toNatClampNeg), .inl (D 385 (x1 + (4 : Int32)).toNatClampNeg), .inl (D 385 (x1 + (5 : Int32)).toNatClampNeg)]) (rest := []) (o := 378) m_X6_126 dX6_refuses_117 (rcv_own ok_378.1 ok_378.2.1 (by decide) (okO_1 ok_378)) rfl rfl (Nat.le_of_ble_eq_true rfl)) pl_X6_refusesJob (Nat.le_of_ble_eq_true rfl) rfl (e_X6_refusesJob l E (d + 3) (D 385 (x1 + (1 : Int32)).toNatClampNeg) (D 385 (x1 + (2 : Int32)).toNatClampNeg) (D 385 (x1 + (3 : Int32)).toNatClampNeg) (D 385 (x1 + (4 : Int32)).toNatClampNeg) (D 385 (x1 + (5 : Int32)).toNatClampNeg) D) (fun r16 D17 => ?_)
        exact ev_ret (fun Q q => rn_ret q .int rfl rfl dX6_refuses_120)
      · refine ev_ite (fun c22 => ?_) (fun c23 => ?_)
        · refine ev_s (fun Q k => rn_lsw (off := 125) (tgt := 149) dX6_refuses_24 (by decide) (by rw [c22]; rfl) (by decide) k) ?_
          refine ev_s (fun Q k => rn_aload_n (j := 0) 2 rfl rfl (okO_0 ok_378) dX6_refuses_149 k) ?_
          refine ev_s (fun Q k => rn_iload_n (j := 2) 1 rfl rfl dX6_refuses_150 k) ?_
          refine ev_bindI (as := [.inr (.inr 378), .inl (D 385 (x1 + (1 : Int32)).toNatClampNeg)]) (fun Q Q1 => rn_callV (as := [.inl (D 385 (x1 + (1 : Int32)).toNatClampNeg)]) (rest := []) (o := 378) m_X6_163 dX6_refuses_151 (rcv_own ok_378.1 ok_378.2.1 (by decide) (okO_1 ok_378)) rfl rfl (Nat.le_of_ble_eq_true rfl)) pl_X6_refusesHours (Nat.le_of_ble_eq_true rfl) rfl (e_X6_refusesHours l E (d + 3) (D 385 (x1 + (1 : Int32)).toNatClampNeg) D) (fun r20 D21 => ?_)
          exact ev_ret (fun Q q => rn_ret q .int rfl rfl dX6_refuses_154)
        · refine ev_ite (fun c26 => ?_) (fun c27 => ?_)
          · refine ev_s (fun Q k => rn_lsw (off := 60) (tgt := 84) dX6_refuses_24 (by decide) (by rw [c26]; rfl) (by decide) k) ?_
            refine ev_s (fun Q k => rn_aload_n (j := 0) 2 rfl rfl (okO_0 ok_378) dX6_refuses_84 k) ?_
            refine ev_s (fun Q k => rn_iload_n (j := 2) 1 rfl rfl dX6_refuses_85 k) ?_
            refine ev_bindI (as := [.inr (.inr 378), .inl (D 385 (x1 + (1 : Int32)).toNatClampNeg)]) (fun Q Q1 => rn_callV (as := [.inl (D 385 (x1 + (1 : Int32)).toNatClampNeg)]) (rest := []) (o := 378) m_X6_120 dX6_refuses_86 (rcv_own ok_378.1 ok_378.2.1 (by decide) (okO_1 ok_378)) rfl rfl (Nat.le_of_ble_eq_true rfl)) pl_X6_refusesPerson (Nat.le_of_ble_eq_true rfl) rfl (e_X6_refusesPerson l E (d + 3) (D 385 (x1 + (1 : Int32)).toNatClampNeg) D) (fun r24 D25 => ?_)
            exact ev_ret (fun Q q => rn_ret q .int rfl rfl dX6_refuses_89)
          · refine ev_ite (fun c30 => ?_) (fun c31 => ?_)
            · refine ev_s (fun Q k => rn_lsw (off := 119) (tgt := 143) dX6_refuses_24 (by decide) (by rw [c30]; rfl) (by decide) k) ?_
              refine ev_s (fun Q k => rn_aload_n (j := 0) 2 rfl rfl (okO_0 ok_378) dX6_refuses_143 k) ?_
              refine ev_s (fun Q k => rn_iload_n (j := 2) 1 rfl rfl dX6_refuses_144 k) ?_
              refine ev_bindI (as := [.inr (.inr 378), .inl (D 385 (x1 + (1 : Int32)).toNatClampNeg)]) (fun Q Q1 => rn_callV (as := [.inl (D 385 (x1 + (1 : Int32)).toNatClampNeg)]) (rest := []) (o := 378) m_X6_154 dX6_refuses_145 (rcv_own ok_378.1 ok_378.2.1 (by decide) (okO_1 ok_378)) rfl rfl (Nat.le_of_ble_eq_true rfl)) pl_X6_refusesCall (Nat.le_of_ble_eq_true rfl) rfl (e_X6_refusesCall l E (d + 2) (D 385 (x1 + (1 : Int32)).toNatClampNeg) D) (fun r28 D29 => ?_)
              exact ev_ret (fun Q q => rn_ret q .int rfl rfl dX6_refuses_148)
            · refine ev_s (fun Q k => rn_lsw (off := 131) (tgt := 155) dX6_refuses_24 (by decide) ((lv_osw (k := 100) c7 (by decide)).trans ((lv_osw (k := 103) c12 (by decide)).trans ((lv_osw (k := 106) c19 (by decide)).trans ((lv_osw (k := 110) c23 (by decide)).trans ((lv_osw (k := 119) c27 (by decide)).trans ((lv_osw (k := 120) c31 (by decide)).trans rfl)))))) (by decide) k) ?_
              refine ev_s (fun Q k => rn_iconst (v := 0) (by decide) dX6_refuses_155 k) ?_
              exact ev_ret (fun Q q => rn_ret q .int rfl rfl dX6_refuses_156)

def F_X6_does (x1 : Int32) (D : dT) : Option (Int32 × dT) := if inR (x1 + (1 : Int32)) 252 then if inR (x1 + (2 : Int32)) 252 then if inR x1 252 then if (D 385 x1.toNatClampNeg) = (100 : Int32) then bd (F_X6_delays (D 385 (x1 + (1 : Int32)).toNatClampNeg) (D 385 (x1 + (2 : Int32)).toNatClampNeg) D) (fun (r4 : Int32) (D5 : dT) => some ((0 : Int32), D5)) else if (D 385 x1.toNatClampNeg) = (103 : Int32) then if inR (x1 + (3 : Int32)) 252 then bd (F_X6_begins (D 385 (x1 + (1 : Int32)).toNatClampNeg) (D 385 (x1 + (2 : Int32)).toNatClampNeg) (D 385 (x1 + (3 : Int32)).toNatClampNeg) D) (fun (r9 : Int32) (D10 : dT) => some ((0 : Int32), D10)) else none else if (D 385 x1.toNatClampNeg) = (106 : Int32) then if inR (x1 + (3 : Int32)) 252 then if inR (x1 + (4 : Int32)) 252 then if inR (x1 + (5 : Int32)) 252 then bd (F_X6_addsJob (D 385 (x1 + (1 : Int32)).toNatClampNeg) (D 385 (x1 + (2 : Int32)).toNatClampNeg) (D 385 (x1 + (3 : Int32)).toNatClampNeg) (D 385 (x1 + (4 : Int32)).toNatClampNeg) (D 385 (x1 + (5 : Int32)).toNatClampNeg) D) (fun (r16 : Int32) (D17 : dT) => some ((0 : Int32), D17)) else none else none else none else if (D 385 x1.toNatClampNeg) = (110 : Int32) then bd (F_X6_passes (D 385 (x1 + (1 : Int32)).toNatClampNeg) D) (fun (r20 : Int32) (D21 : dT) => some ((0 : Int32), D21)) else if (D 385 x1.toNatClampNeg) = (119 : Int32) then bd (F_X6_addsPerson (D 385 (x1 + (1 : Int32)).toNatClampNeg) D) (fun (r24 : Int32) (D25 : dT) => some ((0 : Int32), D25)) else if (D 385 x1.toNatClampNeg) = (120 : Int32) then bd (F_X6_callsOff (D 385 (x1 + (1 : Int32)).toNatClampNeg) D) (fun (r28 : Int32) (D29 : dT) => some ((0 : Int32), D29)) else bd (F_X6_assigns  D) (fun (r32 : Int32) (D33 : dT) => some ((0 : Int32), D33)) else none else none else none
set_option maxRecDepth 20000 in
theorem e_X6_does (l : Launch) (E : eE) (d : Nat) (x1 : Int32) (D : dT) : ev l E (d + 6) yX6_does cX6_does 4 none 0 [(0, .inr (.inr 378)), (1, .inl x1)] [] D eU (F_X6_does x1 D) := by
  unfold F_X6_does
  refine ev_s (fun Q k => rn_aload_n (j := 0) 0 rfl rfl (okO_0 ok_378) dX6_does_0 k) ?_
  refine ev_s (fun Q k => rn_getr (q := 385) f_X6_29 ok_378.1 ok_378.2.1 (okO_1 ok_378) rfl rfl dX6_does_1 k) ?_
  refine ev_s (fun Q k => rn_iload_n (j := 1) 1 rfl rfl dX6_does_4 k) ?_
  refine ev_s (fun Q k => rn_iconst (v := 1) (by decide) dX6_does_5 k) ?_
  refine ev_s (fun Q k => rn_iadd dX6_does_6 k) ?_
  refine ev_gd (fun g1 => ?_)
  refine ev_s (fun Q k => rn_iald ok_385.1 ok_385.2.1 ok_385.2.2 (inR_vp g1) dX6_does_7 k) ?_
  refine ev_s (fun Q k => rn_istore_n (j := 2) (ls' := [(2, .inl (D 385 (x1 + (1 : Int32)).toNatClampNeg)), (0, .inr (.inr 378)), (1, .inl x1)]) rfl (by decide) rfl dX6_does_8 k) ?_
  refine ev_s (fun Q k => rn_aload_n (j := 0) 1 rfl rfl (okO_0 ok_378) dX6_does_9 k) ?_
  refine ev_s (fun Q k => rn_getr (q := 385) f_X6_29 ok_378.1 ok_378.2.1 (okO_1 ok_378) rfl rfl dX6_does_10 k) ?_
  refine ev_s (fun Q k => rn_iload_n (j := 1) 2 rfl rfl dX6_does_13 k) ?_
  refine ev_s (fun Q k => rn_iconst (v := 2) (by decide) dX6_does_14 k) ?_
  refine ev_s (fun Q k => rn_iadd dX6_does_15 k) ?_
  refine ev_gd (fun g2 => ?_)
  refine ev_s (fun Q k => rn_iald ok_385.1 ok_385.2.1 ok_385.2.2 (inR_vp g2) dX6_does_16 k) ?_
  refine ev_s (fun Q k => rn_istore_n (j := 3) (ls' := [(3, .inl (D 385 (x1 + (2 : Int32)).toNatClampNeg)), (2, .inl (D 385 (x1 + (1 : Int32)).toNatClampNeg)), (0, .inr (.inr 378)), (1, .inl x1)]) rfl (by decide) rfl dX6_does_17 k) ?_
  refine ev_s (fun Q k => rn_aload_n (j := 0) 2 rfl rfl (okO_0 ok_378) dX6_does_18 k) ?_
  refine ev_s (fun Q k => rn_getr (q := 385) f_X6_29 ok_378.1 ok_378.2.1 (okO_1 ok_378) rfl rfl dX6_does_19 k) ?_
  refine ev_s (fun Q k => rn_iload_n (j := 1) 3 rfl rfl dX6_does_22 k) ?_
  refine ev_gd (fun g3 => ?_)
  refine ev_s (fun Q k => rn_iald ok_385.1 ok_385.2.1 ok_385.2.2 (inR_vp g3) dX6_does_23 k) ?_
  refine ev_ite (fun c6 => ?_) (fun c7 => ?_)
  · refine ev_s (fun Q k => rn_lsw (off := 121) (tgt := 145) dX6_does_24 (by decide) (by rw [c6]; rfl) (by decide) k) ?_
    refine ev_s (fun Q k => rn_aload_n (j := 0) 2 rfl rfl (okO_0 ok_378) dX6_does_145 k) ?_
    refine ev_s (fun Q k => rn_iload_n (j := 2) 1 rfl rfl dX6_does_146 k) ?_
    refine ev_s (fun Q k => rn_iload_n (j := 3) 0 rfl rfl dX6_does_147 k) ?_
    refine ev_bindI (as := [.inr (.inr 378), .inl (D 385 (x1 + (1 : Int32)).toNatClampNeg), .inl (D 385 (x1 + (2 : Int32)).toNatClampNeg)]) (fun Q Q1 => rn_callV (as := [.inl (D 385 (x1 + (1 : Int32)).toNatClampNeg), .inl (D 385 (x1 + (2 : Int32)).toNatClampNeg)]) (rest := []) (o := 378) m_X6_151 dX6_does_148 (rcv_own ok_378.1 ok_378.2.1 (by decide) (okO_1 ok_378)) rfl rfl (Nat.le_of_ble_eq_true rfl)) pl_X6_delays (Nat.le_of_ble_eq_true rfl) rfl (e_X6_delays l E (d + 4) (D 385 (x1 + (1 : Int32)).toNatClampNeg) (D 385 (x1 + (2 : Int32)).toNatClampNeg) D) (fun r4 D5 => ?_)
    refine ev_s (fun Q k => rn_pop rfl dX6_does_151 k) ?_
    refine ev_s (fun Q k => rn_goto (tgt := 178) dX6_does_152 (by decide) k) ?_
    exact ev_ret (fun Q q => rn_retv q rfl dX6_does_178)
  · refine ev_ite (fun c11 => ?_) (fun c12 => ?_)
    · refine ev_s (fun Q k => rn_lsw (off := 103) (tgt := 127) dX6_does_24 (by decide) (by rw [c11]; rfl) (by decide) k) ?_
      refine ev_s (fun Q k => rn_aload_n (j := 0) 2 rfl rfl (okO_0 ok_378) dX6_does_127 k) ?_
      refine ev_s (fun Q k => rn_iload_n (j := 2) 1 rfl rfl dX6_does_128 k) ?_
      refine ev_s (fun Q k => rn_iload_n (j := 3) 0 rfl rfl dX6_does_129 k) ?_
      refine ev_s (fun Q k => rn_aload_n (j := 0) 2 rfl rfl (okO_0 ok_378) dX6_does_130 k) ?_
      refine ev_s (fun Q k => rn_getr (q := 385) f_X6_29 ok_378.1 ok_378.2.1 (okO_1 ok_378) rfl rfl dX6_does_131 k) ?_
      refine ev_s (fun Q k => rn_iload_n (j := 1) 3 rfl rfl dX6_does_134 k) ?_
      refine ev_s (fun Q k => rn_iconst (v := 3) (by decide) dX6_does_135 k) ?_
      refine ev_s (fun Q k => rn_iadd dX6_does_136 k) ?_
      refine ev_gd (fun g8 => ?_)
      refine ev_s (fun Q k => rn_iald ok_385.1 ok_385.2.1 ok_385.2.2 (inR_vp g8) dX6_does_137 k) ?_
      refine ev_bindI (as := [.inr (.inr 378), .inl (D 385 (x1 + (1 : Int32)).toNatClampNeg), .inl (D 385 (x1 + (2 : Int32)).toNatClampNeg), .inl (D 385 (x1 + (3 : Int32)).toNatClampNeg)]) (fun Q Q1 => rn_callV (as := [.inl (D 385 (x1 + (1 : Int32)).toNatClampNeg), .inl (D 385 (x1 + (2 : Int32)).toNatClampNeg), .inl (D 385 (x1 + (3 : Int32)).toNatClampNeg)]) (rest := []) (o := 378) m_X6_90 dX6_does_138 (rcv_own ok_378.1 ok_378.2.1 (by decide) (okO_1 ok_378)) rfl rfl (Nat.le_of_ble_eq_true rfl)) pl_X6_begins (Nat.le_of_ble_eq_true rfl) rfl (e_X6_begins l E (d + 3) (D 385 (x1 + (1 : Int32)).toNatClampNeg) (D 385 (x1 + (2 : Int32)).toNatClampNeg) (D 385 (x1 + (3 : Int32)).toNatClampNeg) D) (fun r9 D10 => ?_)
      refine ev_s (fun Q k => rn_pop rfl dX6_does_141 k) ?_
      refine ev_s (fun Q k => rn_goto (tgt := 178) dX6_does_142 (by decide) k) ?_
      exact ev_ret (fun Q q => rn_retv q rfl dX6_does_178)
    · refine ev_ite (fun c18 => ?_) (fun c19 => ?_)
      · refine ev_s (fun Q k => rn_lsw (off := 69) (tgt := 93) dX6_does_24 (by decide) (by rw [c18]; rfl) (by decide) k) ?_
        refine ev_s (fun Q k => rn_aload_n (j := 0) 2 rfl rfl (okO_0 ok_378) dX6_does_93 k) ?_
        refine ev_s (fun Q k => rn_iload_n (j := 2) 1 rfl rfl dX6_does_94 k) ?_
        refine ev_s (fun Q k => rn_iload_n (j := 3) 0 rfl rfl dX6_does_95 k) ?_
        refine ev_s (fun Q k => rn_aload_n (j := 0) 2 rfl rfl (okO_0 ok_378) dX6_does_96 k) ?_
        refine ev_s (fun Q k => rn_getr (q := 385) f_X6_29 ok_378.1 ok_378.2.1 (okO_1 ok_378) rfl rfl dX6_does_97 k) ?_
        refine ev_s (fun Q k => rn_iload_n (j := 1) 3 rfl rfl dX6_does_100 k) ?_
        refine ev_s (fun Q k => rn_iconst (v := 3) (by decide) dX6_does_101 k) ?_
        refine ev_s (fun Q k => rn_iadd dX6_does_102 k) ?_
        refine ev_gd (fun g13 => ?_)
        refine ev_s (fun Q k => rn_iald ok_385.1 ok_385.2.1 ok_385.2.2 (inR_vp g13) dX6_does_103 k) ?_
        refine ev_s (fun Q k => rn_aload_n (j := 0) 2 rfl rfl (okO_0 ok_378) dX6_does_104 k) ?_
        refine ev_s (fun Q k => rn_getr (q := 385) f_X6_29 ok_378.1 ok_378.2.1 (okO_1 ok_378) rfl rfl dX6_does_105 k) ?_
        refine ev_s (fun Q k => rn_iload_n (j := 1) 3 rfl rfl dX6_does_108 k) ?_
        refine ev_s (fun Q k => rn_iconst (v := 4) (by decide) dX6_does_109 k) ?_
        refine ev_s (fun Q k => rn_iadd dX6_does_110 k) ?_
        refine ev_gd (fun g14 => ?_)
        refine ev_s (fun Q k => rn_iald ok_385.1 ok_385.2.1 ok_385.2.2 (inR_vp g14) dX6_does_111 k) ?_
        refine ev_s (fun Q k => rn_aload_n (j := 0) 2 rfl rfl (okO_0 ok_378) dX6_does_112 k) ?_
        refine ev_s (fun Q k => rn_getr (q := 385) f_X6_29 ok_378.1 ok_378.2.1 (okO_1 ok_378) rfl rfl dX6_does_113 k) ?_
        refine ev_s (fun Q k => rn_iload_n (j := 1) 3 rfl rfl dX6_does_116 k) ?_
        refine ev_s (fun Q k => rn_iconst (v := 5) (by decide) dX6_does_117 k) ?_
        refine ev_s (fun Q k => rn_iadd dX6_does_118 k) ?_
        refine ev_gd (fun g15 => ?_)
        refine ev_s (fun Q k => rn_iald ok_385.1 ok_385.2.1 ok_385.2.2 (inR_vp g15) dX6_does_119 k) ?_
        refine ev_bindI (as := [.inr (.inr 378), .inl (D 385 (x1 + (1 : Int32)).toNatClampNeg), .inl (D 385 (x1 + (2 : Int32)).toNatClampNeg), .inl (D 385 (x1 + (3 : Int32)).toNatClampNeg), .inl (D 385 (x1 + (4 : Int32)).toNatClampNeg), .inl (D 385 (x1 + (5 : Int32)).toNatClampNeg)]) (fun Q Q1 => rn_callV (as := [.inl (D 385 (x1 + (1 : Int32)).toNatClampNeg), .inl (D 385 (x1 + (2 : Int32)).toNatClampNeg), .inl (D 385 (x1 + (3 : Int32)).toNatClampNeg), .inl (D 385 (x1 + (4 : Int32)).toNatClampNeg), .inl (D 385 (x1 + (5 : Int32)).toNatClampNeg)]) (rest := []) (o := 378) m_X6_130 dX6_does_120 (rcv_own ok_378.1 ok_378.2.1 (by decide) (okO_1 ok_378)) rfl rfl (Nat.le_of_ble_eq_true rfl)) pl_X6_addsJob (Nat.le_of_ble_eq_true rfl) rfl (e_X6_addsJob l E (d + 4) (D 385 (x1 + (1 : Int32)).toNatClampNeg) (D 385 (x1 + (2 : Int32)).toNatClampNeg) (D 385 (x1 + (3 : Int32)).toNatClampNeg) (D 385 (x1 + (4 : Int32)).toNatClampNeg) (D 385 (x1 + (5 : Int32)).toNatClampNeg) D) (fun r16 D17 => ?_)
        refine ev_s (fun Q k => rn_pop rfl dX6_does_123 k) ?_
        refine ev_s (fun Q k => rn_goto (tgt := 178) dX6_does_124 (by decide) k) ?_
        exact ev_ret (fun Q q => rn_retv q rfl dX6_does_178)
      · refine ev_ite (fun c22 => ?_) (fun c23 => ?_)
        · refine ev_s (fun Q k => rn_lsw (off := 140) (tgt := 164) dX6_does_24 (by decide) (by rw [c22]; rfl) (by decide) k) ?_
          refine ev_s (fun Q k => rn_aload_n (j := 0) 2 rfl rfl (okO_0 ok_378) dX6_does_164 k) ?_
          refine ev_s (fun Q k => rn_iload_n (j := 2) 1 rfl rfl dX6_does_165 k) ?_
          refine ev_bindI (as := [.inr (.inr 378), .inl (D 385 (x1 + (1 : Int32)).toNatClampNeg)]) (fun Q Q1 => rn_callV (as := [.inl (D 385 (x1 + (1 : Int32)).toNatClampNeg)]) (rest := []) (o := 378) m_X6_166 dX6_does_166 (rcv_own ok_378.1 ok_378.2.1 (by decide) (okO_1 ok_378)) rfl rfl (Nat.le_of_ble_eq_true rfl)) pl_X6_passes (Nat.le_of_ble_eq_true rfl) rfl (e_X6_passes l E (d + 1) (D 385 (x1 + (1 : Int32)).toNatClampNeg) D) (fun r20 D21 => ?_)
          refine ev_s (fun Q k => rn_pop rfl dX6_does_169 k) ?_
          refine ev_s (fun Q k => rn_goto (tgt := 178) dX6_does_170 (by decide) k) ?_
          exact ev_ret (fun Q q => rn_retv q rfl dX6_does_178)
        · refine ev_ite (fun c26 => ?_) (fun c27 => ?_)
          · refine ev_s (fun Q k => rn_lsw (off := 60) (tgt := 84) dX6_does_24 (by decide) (by rw [c26]; rfl) (by decide) k) ?_
            refine ev_s (fun Q k => rn_aload_n (j := 0) 2 rfl rfl (okO_0 ok_378) dX6_does_84 k) ?_
            refine ev_s (fun Q k => rn_iload_n (j := 2) 1 rfl rfl dX6_does_85 k) ?_
            refine ev_bindI (as := [.inr (.inr 378), .inl (D 385 (x1 + (1 : Int32)).toNatClampNeg)]) (fun Q Q1 => rn_callV (as := [.inl (D 385 (x1 + (1 : Int32)).toNatClampNeg)]) (rest := []) (o := 378) m_X6_123 dX6_does_86 (rcv_own ok_378.1 ok_378.2.1 (by decide) (okO_1 ok_378)) rfl rfl (Nat.le_of_ble_eq_true rfl)) pl_X6_addsPerson (Nat.le_of_ble_eq_true rfl) rfl (e_X6_addsPerson l E (d + 4) (D 385 (x1 + (1 : Int32)).toNatClampNeg) D) (fun r24 D25 => ?_)
            refine ev_s (fun Q k => rn_pop rfl dX6_does_89 k) ?_
            refine ev_s (fun Q k => rn_goto (tgt := 178) dX6_does_90 (by decide) k) ?_
            exact ev_ret (fun Q q => rn_retv q rfl dX6_does_178)
          · refine ev_ite (fun c30 => ?_) (fun c31 => ?_)
            · refine ev_s (fun Q k => rn_lsw (off := 131) (tgt := 155) dX6_does_24 (by decide) (by rw [c30]; rfl) (by decide) k) ?_
              refine ev_s (fun Q k => rn_aload_n (j := 0) 2 rfl rfl (okO_0 ok_378) dX6_does_155 k) ?_
              refine ev_s (fun Q k => rn_iload_n (j := 2) 1 rfl rfl dX6_does_156 k) ?_
              refine ev_bindI (as := [.inr (.inr 378), .inl (D 385 (x1 + (1 : Int32)).toNatClampNeg)]) (fun Q Q1 => rn_callV (as := [.inl (D 385 (x1 + (1 : Int32)).toNatClampNeg)]) (rest := []) (o := 378) m_X6_157 dX6_does_157 (rcv_own ok_378.1 ok_378.2.1 (by decide) (okO_1 ok_378)) rfl rfl (Nat.le_of_ble_eq_true rfl)) pl_X6_callsOff (Nat.le_of_ble_eq_true rfl) rfl (e_X6_callsOff l E (d + 4) (D 385 (x1 + (1 : Int32)).toNatClampNeg) D) (fun r28 D29 => ?_)
              refine ev_s (fun Q k => rn_pop rfl dX6_does_160 k) ?_
              refine ev_s (fun Q k => rn_goto (tgt := 178) dX6_does_161 (by decide) k) ?_
              exact ev_ret (fun Q q => rn_retv q rfl dX6_does_178)
            · refine ev_s (fun Q k => rn_lsw (off := 149) (tgt := 173) dX6_does_24 (by decide) ((lv_osw (k := 100) c7 (by decide)).trans ((lv_osw (k := 103) c12 (by decide)).trans ((lv_osw (k := 106) c19 (by decide)).trans ((lv_osw (k := 110) c23 (by decide)).trans ((lv_osw (k := 119) c27 (by decide)).trans ((lv_osw (k := 120) c31 (by decide)).trans rfl)))))) (by decide) k) ?_
              refine ev_s (fun Q k => rn_aload_n (j := 0) 2 rfl rfl (okO_0 ok_378) dX6_does_173 k) ?_
              refine ev_bindI (as := [.inr (.inr 378)]) (fun Q Q1 => rn_callV (as := []) (rest := []) (o := 378) m_X6_145 dX6_does_174 (rcv_own ok_378.1 ok_378.2.1 (by decide) (okO_1 ok_378)) rfl rfl (Nat.le_of_ble_eq_true rfl)) pl_X6_assigns (Nat.le_of_ble_eq_true rfl) rfl (e_X6_assigns l E d  D) (fun r32 D33 => ?_)
              refine ev_s (fun Q k => rn_pop rfl dX6_does_177 k) ?_
              exact ev_ret (fun Q q => rn_retv q rfl dX6_does_178)

def F_X6_carryOut_28 (fuel : Nat)   (v1 : Int32) (D : dT) : Option (Int32 × dT) := match fuel with
  | 0 => none
  | fu + 1 => if (D 378 12) ≤ v1 then some (v1, D) else bd (F_X6_refuses ((6 : Int32) * v1) D) (fun (r1 : Int32) (D2 : dT) => if r1 = 0 then bd (F_X6_does ((6 : Int32) * v1) D2) (fun (r3 : Int32) (D4 : dT) => F_X6_carryOut_28 fu (v1 + (1 : Int32)) D4) else some (v1, D2))
def F_X6_carryOut  (D : dT) : Option (Int32 × dT) := bd (F_X6_reads  (up2 D 378 0 (0 : Int32))) (fun (r1 : Int32) (D2 : dT) => if r1 = (-6 : Int32) then bd (F_X6_records  D2) (fun (r3 : Int32) (D4 : dT) => F_X6_carryOut_28 lim (0 : Int32) (up2 D4 378 8 (0 : Int32))) else some ((-3 : Int32), D2))
set_option maxRecDepth 20000 in
theorem e_X6_carryOut_28 (l : Launch) (E : eE) (d : Nat)   (fuel : Nat) : ∀ (v1 : Int32) (D : dT), ev l E (d + 7) yX6_carryOut cX6_carryOut 2 (some .int) 28 [(0, .inr (.inr 378)), (1, .inl v1)] [] D eI (F_X6_carryOut_28 fuel v1 D) := by
  induction fuel with
  | zero =>
    intro v1 D
    exact ev_none
  | succ fu ih =>
    intro v1 D
    rw [F_X6_carryOut_28]
    refine ev_s (fun Q k => rn_iload_n (j := 1) 1 rfl rfl dX6_carryOut_28 k) ?_
    refine ev_s (fun Q k => rn_aload_n (j := 0) 0 rfl rfl (okO_0 ok_378) dX6_carryOut_29 k) ?_
    refine ev_s (fun Q k => rn_geti f_X6_208 ok_378.1 ok_378.2.1 (okO_1 ok_378) rfl dX6_carryOut_30 k) ?_
    refine ev_if (fun Q => rn_icmp_ge (tgt := 61) dX6_carryOut_33 (by decide)) (fun c7 => ?_) (fun c8 => ?_)
    · refine ev_s (fun Q k => rn_iload_n (j := 1) 1 rfl rfl dX6_carryOut_61 k) ?_
      exact ev_ret (fun Q q => rn_ret q .int rfl rfl dX6_carryOut_62)
    · refine ev_s (fun Q k => rn_aload_n (j := 0) 0 rfl rfl (okO_0 ok_378) dX6_carryOut_36 k) ?_
      refine ev_s (fun Q k => rn_bipush (v := 6) (by decide) dX6_carryOut_37 k) ?_
      refine ev_s (fun Q k => rn_iload_n (j := 1) 1 rfl rfl dX6_carryOut_39 k) ?_
      refine ev_s (fun Q k => rn_imul dX6_carryOut_40 k) ?_
      refine ev_bindI (as := [.inr (.inr 378), .inl ((6 : Int32) * v1)]) (fun Q Q1 => rn_callV (as := [.inl ((6 : Int32) * v1)]) (rest := []) (o := 378) m_X6_226 dX6_carryOut_41 (rcv_own ok_378.1 ok_378.2.1 (by decide) (okO_1 ok_378)) rfl rfl (Nat.le_of_ble_eq_true rfl)) pl_X6_refuses (Nat.le_of_ble_eq_true rfl) rfl (e_X6_refuses l E (d + 1) ((6 : Int32) * v1) D) (fun r1 D2 => ?_)
      refine ev_if (fun Q => rn_if_ne (tgt := 61) dX6_carryOut_44 (by decide)) (fun c5 => ?_) (fun c6 => ?_)
      · refine ev_s (fun Q k => rn_aload_n (j := 0) 0 rfl rfl (okO_0 ok_378) dX6_carryOut_47 k) ?_
        refine ev_s (fun Q k => rn_bipush (v := 6) (by decide) dX6_carryOut_48 k) ?_
        refine ev_s (fun Q k => rn_iload_n (j := 1) 1 rfl rfl dX6_carryOut_50 k) ?_
        refine ev_s (fun Q k => rn_imul dX6_carryOut_51 k) ?_
        refine ev_bindU (as := [.inr (.inr 378), .inl ((6 : Int32) * v1)]) (fun Q Q1 => rn_callV (as := [.inl ((6 : Int32) * v1)]) (rest := []) (o := 378) m_X6_229 dX6_carryOut_52 (rcv_own ok_378.1 ok_378.2.1 (by decide) (okO_1 ok_378)) rfl rfl (Nat.le_of_ble_eq_true rfl)) pl_X6_does (Nat.le_of_ble_eq_true rfl) rfl (e_X6_does l E d ((6 : Int32) * v1) D2) (fun r3 D4 => ?_)
        refine ev_s (fun Q k => rn_iinc (v := (v1 + (1 : Int32))) (ls' := [(1, .inl (v1 + (1 : Int32))), (0, .inr (.inr 378))]) 1 rfl rfl (by decide) rfl dX6_carryOut_55 k) ?_
        refine ev_s (fun Q k => rn_goto (tgt := 28) dX6_carryOut_58 (by decide) k) ?_
        refine ev_s (fun Q k => rn_sub (ls' := [(0, .inr (.inr 378)), (1, .inl (v1 + (1 : Int32)))]) [1, 0] rfl k) ?_
        exact ih (v1 + (1 : Int32)) D4
      · refine ev_s (fun Q k => rn_iload_n (j := 1) 1 rfl rfl dX6_carryOut_61 k) ?_
        exact ev_ret (fun Q q => rn_ret q .int rfl rfl dX6_carryOut_62)

set_option maxRecDepth 20000 in
theorem e_X6_carryOut (l : Launch) (E : eE) (d : Nat)  (D : dT) : ev l E (d + 7) yX6_carryOut cX6_carryOut 2 (some .int) 0 [(0, .inr (.inr 378))] [] D eI (F_X6_carryOut D) := by
  unfold F_X6_carryOut
  refine ev_s (fun Q k => rn_aload_n (j := 0) 0 rfl rfl (okO_0 ok_378) dX6_carryOut_0 k) ?_
  refine ev_s (fun Q k => rn_iconst (v := 0) (by decide) dX6_carryOut_1 k) ?_
  refine ev_s (fun Q k => rn_puti f_X6_32 ok_378.1 ok_378.2.1 (okO_1 ok_378) rfl rfl rfl rfl dX6_carryOut_2 k) ?_
  refine ev_s (fun Q k => rn_aload_n (j := 0) 0 rfl rfl (okO_0 ok_378) dX6_carryOut_5 k) ?_
  refine ev_bindI (as := [.inr (.inr 378)]) (fun Q Q1 => rn_callV (as := []) (rest := []) (o := 378) m_X6_223 dX6_carryOut_6 (rcv_own ok_378.1 ok_378.2.1 (by decide) (okO_1 ok_378)) rfl rfl (Nat.le_of_ble_eq_true rfl)) pl_X6_reads (Nat.le_of_ble_eq_true rfl) rfl (e_X6_reads l E (d + 1)  (up2 D 378 0 (0 : Int32))) (fun r1 D2 => ?_)
  refine ev_s (fun Q k => rn_bipush (v := -6) (by decide) dX6_carryOut_9 k) ?_
  refine ev_if (fun Q => rn_icmp_eq (tgt := 17) dX6_carryOut_11 (by decide)) (fun c5 => ?_) (fun c6 => ?_)
  · refine ev_s (fun Q k => rn_aload_n (j := 0) 0 rfl rfl (okO_0 ok_378) dX6_carryOut_17 k) ?_
    refine ev_bindU (as := [.inr (.inr 378)]) (fun Q Q1 => rn_callV (as := []) (rest := []) (o := 378) m_X6_117 dX6_carryOut_18 (rcv_own ok_378.1 ok_378.2.1 (by decide) (okO_1 ok_378)) rfl rfl (Nat.le_of_ble_eq_true rfl)) pl_X6_records (Nat.le_of_ble_eq_true rfl) rfl (e_X6_records l E (d + 6)  D2) (fun r3 D4 => ?_)
    refine ev_s (fun Q k => rn_aload_n (j := 0) 0 rfl rfl (okO_0 ok_378) dX6_carryOut_21 k) ?_
    refine ev_s (fun Q k => rn_iconst (v := 0) (by decide) dX6_carryOut_22 k) ?_
    refine ev_s (fun Q k => rn_puti f_X6_178 ok_378.1 ok_378.2.1 (okO_1 ok_378) rfl rfl rfl rfl dX6_carryOut_23 k) ?_
    refine ev_s (fun Q k => rn_iconst (v := 0) (by decide) dX6_carryOut_26 k) ?_
    refine ev_s (fun Q k => rn_istore_n (j := 1) (ls' := [(1, .inl (0 : Int32)), (0, .inr (.inr 378))]) rfl (by decide) rfl dX6_carryOut_27 k) ?_
    refine ev_s (fun Q k => rn_sub (ls' := [(0, .inr (.inr 378)), (1, .inl (0 : Int32))]) [1, 0] rfl k) ?_
    exact e_X6_carryOut_28 l E d   lim (0 : Int32) (up2 D4 378 8 (0 : Int32))
  · refine ev_s (fun Q k => rn_bipush (v := -3) (by decide) dX6_carryOut_14 k) ?_
    exact ev_ret (fun Q q => rn_ret q .int rfl rfl dX6_carryOut_16)

