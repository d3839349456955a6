def F_X5_job (x1 : Int32) (x2 : Int32) (x3 : Int32) (x4 : Int32) (x5 : Int32) (D : dT) : Option (Int32 × dT) := bd (F_X1_note 19 D) (fun (r1 : Int32) (D2 : dT) => bd (F_X0_addJob 19 x1 x2 x3 x4 x5 D2) (fun (r3 : Int32) (D4 : dT) => bd (F_X1_keepUnlessError r3 D4) (fun (r5 : Int32) (D6 : dT) => some (r5, D6))))
set_option maxRecDepth 20000 in
theorem e_X5_job (l : Launch) (E : eE) (d : Nat) (x1 : Int32) (x2 : Int32) (x3 : Int32) (x4 : Int32) (x5 : Int32) (D : dT) : ev l E (d + 3) yX5_job cX5_job 6 (some .int) 0 [(0, .inr (.inr 18)), (1, .inl x1), (2, .inl x2), (3, .inl x3), (4, .inl x4), (5, .inl x5)] [] D eI (F_X5_job x1 x2 x3 x4 x5 D) := by
  unfold F_X5_job
  refine ev_s (fun Q k => rn_aload_n (j := 0) 0 rfl rfl (okO_0 ok_18) dX5_job_0 k) ?_
  refine ev_s (fun Q k => rn_getr (q := 85) f_X5_30 ok_18.1 ok_18.2.1 (okO_1 ok_18) rfl rfl dX5_job_1 k) ?_
  refine ev_s (fun Q k => rn_aload_n (j := 0) 0 rfl rfl (okO_0 ok_18) dX5_job_4 k) ?_
  refine ev_s (fun Q k => rn_getr (q := 19) f_X5_10 ok_18.1 ok_18.2.1 (okO_1 ok_18) rfl rfl dX5_job_5 k) ?_
  refine ev_bindU (as := [.inr (.inr 85), .inr (.inr 19)]) (fun Q Q1 => rn_callV (as := [.inr (.inr 19)]) (rest := []) (o := 85) m_X5_41 dX5_job_8 (rcv_own ok_85.1 ok_85.2.1 (by decide) (okO_1 ok_85)) rfl rfl (Nat.le_of_ble_eq_true rfl)) pl_X1_note (Nat.le_of_ble_eq_true rfl) rfl (e_X1_note l E d 19 isF_19 D) (fun r1 D2 => ?_)
  refine ev_s (fun Q k => rn_aload_n (j := 0) 0 rfl rfl (okO_0 ok_18) dX5_job_11 k) ?_
  refine ev_s (fun Q k => rn_getr (q := 85) f_X5_30 ok_18.1 ok_18.2.1 (okO_1 ok_18) rfl rfl dX5_job_12 k) ?_
  refine ev_s (fun Q k => rn_aload_n (j := 0) 0 rfl rfl (okO_0 ok_18) dX5_job_15 k) ?_
  refine ev_s (fun Q k => rn_getr (q := 19) f_X5_10 ok_18.1 ok_18.2.1 (okO_1 ok_18) rfl rfl dX5_job_16 k) ?_
  refine ev_s (fun Q k => rn_iload_n (j := 1) 1 rfl rfl dX5_job_19 k) ?_
  refine ev_s (fun Q k => rn_iload_n (j := 2) 2 rfl rfl dX5_job_20 k) ?_
  refine ev_s (fun Q k => rn_iload_n (j := 3) 3 rfl rfl dX5_job_21 k) ?_
  refine ev_s (fun Q k => rn_iload (j := 4) 4 rfl dX5_job_22 k) ?_
  refine ev_s (fun Q k => rn_iload (j := 5) 5 rfl dX5_job_24 k) ?_
  refine ev_bindI (as := [.inr (.inr 19), .inl x1, .inl x2, .inl x3, .inl x4, .inl x5]) (fun Q Q1 => rn_callV (as := [.inl x1, .inl x2, .inl x3, .inl x4, .inl x5]) (rest := [.inr (.inr 85)]) (o := 19) m_X5_59 dX5_job_26 (rcv_own (oF isF_19).1 (oF isF_19).2.1 (by decide) (okO_1 (oF isF_19))) rfl rfl (Nat.le_of_ble_eq_true rfl)) pl_X0_addJob (Nat.le_of_ble_eq_true rfl) rfl (e_X0_addJob l E (d + 1) 19 isF_19 x1 x2 x3 x4 x5 D2) (fun r3 D4 => ?_)
  refine ev_bindI (as := [.inr (.inr 85), .inl r3]) (fun Q Q1 => rn_callV (as := [.inl r3]) (rest := []) (o := 85) m_X5_49 dX5_job_29 (rcv_own ok_85.1 ok_85.2.1 (by decide) (okO_1 ok_85)) rfl rfl (Nat.le_of_ble_eq_true rfl)) pl_X1_keepUnlessError (Nat.le_of_ble_eq_true rfl) rfl (e_X1_keepUnlessError l E d r3 D4) (fun r5 D6 => ?_)
  exact ev_ret (fun Q q => rn_ret q .int rfl rfl dX5_job_32)

def F_X0_addStraps (B : Nat) (x1 : Int32) (D : dT) : Option (Int32 × dT) := bd (F_X5_isKind x1 D) (fun (r1 : Int32) (D2 : dT) => if r1 = 0 then some ((-1 : Int32), D2) else if inR x1 3 then if (D2 (B + 2) x1.toNatClampNeg) < (9 : Int32) then if inR x1 3 then if inR x1 3 then if inR x1 3 then if inR x1 3 then if inR x1 3 then some (((up2 (up2 D2 (B + 2) x1.toNatClampNeg ((D2 (B + 2) x1.toNatClampNeg) + (1 : Int32))) (B + 3) x1.toNatClampNeg (((up2 D2 (B + 2) x1.toNatClampNeg ((D2 (B + 2) x1.toNatClampNeg) + (1 : Int32))) (B + 3) x1.toNatClampNeg) + (1 : Int32))) (B + 2) x1.toNatClampNeg), (up2 (up2 D2 (B + 2) x1.toNatClampNeg ((D2 (B + 2) x1.toNatClampNeg) + (1 : Int32))) (B + 3) x1.toNatClampNeg (((up2 D2 (B + 2) x1.toNatClampNeg ((D2 (B + 2) x1.toNatClampNeg) + (1 : Int32))) (B + 3) x1.toNatClampNeg) + (1 : Int32)))) else none else none else none else none else none else some ((-4 : Int32), D2) else none)
set_option maxRecDepth 20000 in
theorem e_X0_addStraps (l : Launch) (E : eE) (d : Nat) (B : Nat) (hB : isF B) (x1 : Int32) (D : dT) : ev l E (d + 1) yX0_addStraps cX0_addStraps 2 (some .int) 0 [(0, .inr (.inr B)), (1, .inl x1)] [] D eI (F_X0_addStraps B x1 D) := by
  unfold F_X0_addStraps
  refine ev_s (fun Q k => rn_iload_n (j := 1) 1 rfl rfl dX0_addStraps_0 k) ?_
  refine ev_bindI (as := [.inl x1]) (fun Q Q1 => rn_callSN (as := [.inl x1]) (rest := []) m_X0_78 dX0_addStraps_1 rfl rfl (Nat.le_of_ble_eq_true rfl)) pl_X5_isKind (Nat.le_of_ble_eq_true rfl) rfl (e_X5_isKind l E d x1 D) (fun r1 D2 => ?_)
  refine ev_if (fun Q => rn_if_ne (tgt := 9) dX0_addStraps_4 (by decide)) (fun c11 => ?_) (fun c12 => ?_)
  · refine ev_s (fun Q k => rn_iconst (v := -1) (by decide) dX0_addStraps_7 k) ?_
    exact ev_ret (fun Q q => rn_ret q .int rfl rfl dX0_addStraps_8)
  · refine ev_s (fun Q k => rn_aload_n (j := 0) 0 rfl rfl (okO_0 (oF hB)) dX0_addStraps_9 k) ?_
    refine ev_s (fun Q k => rn_getr (q := (B + 2)) f_X0_15 (oF hB).1 (oF hB).2.1 (okO_1 (oF hB)) rfl (rF1 hB) dX0_addStraps_10 k) ?_
    refine ev_s (fun Q k => rn_iload_n (j := 1) 1 rfl rfl dX0_addStraps_13 k) ?_
    refine ev_gd (fun g3 => ?_)
    refine ev_s (fun Q k => rn_iald (oF2 hB).1 (oF2 hB).2.1 (oF2 hB).2.2 (inR_vp g3) dX0_addStraps_14 k) ?_
    refine ev_s (fun Q k => rn_bipush (v := 9) (by decide) dX0_addStraps_15 k) ?_
    refine ev_if (fun Q => rn_icmp_lt (tgt := 23) dX0_addStraps_17 (by decide)) (fun c9 => ?_) (fun c10 => ?_)
    · refine ev_s (fun Q k => rn_aload_n (j := 0) 0 rfl rfl (okO_0 (oF hB)) dX0_addStraps_23 k) ?_
      refine ev_s (fun Q k => rn_getr (q := (B + 2)) f_X0_15 (oF hB).1 (oF hB).2.1 (okO_1 (oF hB)) rfl (rF1 hB) dX0_addStraps_24 k) ?_
      refine ev_s (fun Q k => rn_iload_n (j := 1) 1 rfl rfl dX0_addStraps_27 k) ?_
      refine ev_s (fun Q k => rn_dup2 rfl rfl dX0_addStraps_28 k) ?_
      refine ev_gd (fun g4 => ?_)
      refine ev_s (fun Q k => rn_iald (oF2 hB).1 (oF2 hB).2.1 (oF2 hB).2.2 (inR_vp g4) dX0_addStraps_29 k) ?_
      refine ev_s (fun Q k => rn_iconst (v := 1) (by decide) dX0_addStraps_30 k) ?_
      refine ev_s (fun Q k => rn_iadd dX0_addStraps_31 k) ?_
      refine ev_gd (fun g5 => ?_)
      refine ev_s (fun Q k => rn_iast (oF2 hB).1 (oF2 hB).2.1 (oF2 hB).2.2 (inR_vp g5) dX0_addStraps_32 k) ?_
      refine ev_s (fun Q k => rn_aload_n (j := 0) 0 rfl rfl (okO_0 (oF hB)) dX0_addStraps_33 k) ?_
      refine ev_s (fun Q k => rn_getr (q := (B + 3)) f_X0_18 (oF hB).1 (oF hB).2.1 (okO_1 (oF hB)) rfl (rF2 hB) dX0_addStraps_34 k) ?_
      refine ev_s (fun Q k => rn_iload_n (j := 1) 1 rfl rfl dX0_addStraps_37 k) ?_
      refine ev_s (fun Q k => rn_dup2 rfl rfl dX0_addStraps_38 k) ?_
      refine ev_gd (fun g6 => ?_)
      refine ev_s (fun Q k => rn_iald (oF3 hB).1 (oF3 hB).2.1 (oF3 hB).2.2 (inR_vp g6) dX0_addStraps_39 k) ?_
      refine ev_s (fun Q k => rn_iconst (v := 1) (by decide) dX0_addStraps_40 k) ?_
      refine ev_s (fun Q k => rn_iadd dX0_addStraps_41 k) ?_
      refine ev_gd (fun g7 => ?_)
      refine ev_s (fun Q k => rn_iast (oF3 hB).1 (oF3 hB).2.1 (oF3 hB).2.2 (inR_vp g7) dX0_addStraps_42 k) ?_
      refine ev_s (fun Q k => rn_aload_n (j := 0) 0 rfl rfl (okO_0 (oF hB)) dX0_addStraps_43 k) ?_
      refine ev_s (fun Q k => rn_getr (q := (B + 2)) f_X0_15 (oF hB).1 (oF hB).2.1 (okO_1 (oF hB)) rfl (rF1 hB) dX0_addStraps_44 k) ?_
      refine ev_s (fun Q k => rn_iload_n (j := 1) 1 rfl rfl dX0_addStraps_47 k) ?_
      refine ev_gd (fun g8 => ?_)
      refine ev_s (fun Q k => rn_iald (oF2 hB).1 (oF2 hB).2.1 (oF2 hB).2.2 (inR_vp g8) dX0_addStraps_48 k) ?_
      exact ev_ret (fun Q q => rn_ret q .int rfl rfl dX0_addStraps_49)
    · refine ev_s (fun Q k => rn_bipush (v := -4) (by decide) dX0_addStraps_20 k) ?_
      exact ev_ret (fun Q q => rn_ret q .int rfl rfl dX0_addStraps_22)

def F_X5_buy (x1 : Int32) (D : dT) : Option (Int32 × dT) := bd (F_X1_note 19 D) (fun (r1 : Int32) (D2 : dT) => bd (F_X0_addStraps 19 x1 D2) (fun (r3 : Int32) (D4 : dT) => bd (F_X1_keepUnlessError r3 D4) (fun (r5 : Int32) (D6 : dT) => some (r5, D6))))
set_option maxRecDepth 20000 in
theorem e_X5_buy (l : Launch) (E : eE) (d : Nat) (x1 : Int32) (D : dT) : ev l E (d + 3) yX5_buy cX5_buy 2 (some .int) 0 [(0, .inr (.inr 18)), (1, .inl x1)] [] D eI (F_X5_buy x1 D) := by
  unfold F_X5_buy
  refine ev_s (fun Q k => rn_aload_n (j := 0) 0 rfl rfl (okO_0 ok_18) dX5_buy_0 k) ?_
  refine ev_s (fun Q k => rn_getr (q := 85) f_X5_30 ok_18.1 ok_18.2.1 (okO_1 ok_18) rfl rfl dX5_buy_1 k) ?_
  refine ev_s (fun Q k => rn_aload_n (j := 0) 0 rfl rfl (okO_0 ok_18) dX5_buy_4 k) ?_
  refine ev_s (fun Q k => rn_getr (q := 19) f_X5_10 ok_18.1 ok_18.2.1 (okO_1 ok_18) rfl rfl dX5_buy_5 k) ?_
  refine ev_bindU (as := [.inr (.inr 85), .inr (.inr 19)]) (fun Q Q1 => rn_callV (as := [.inr (.inr 19)]) (rest := []) (o := 85) m_X5_41 dX5_buy_8 (rcv_own ok_85.1 ok_85.2.1 (by decide) (okO_1 ok_85)) rfl rfl (Nat.le_of_ble_eq_true rfl)) pl_X1_note (Nat.le_of_ble_eq_true rfl) rfl (e_X1_note l E d 19 isF_19 D) (fun r1 D2 => ?_)
  refine ev_s (fun Q k => rn_aload_n (j := 0) 0 rfl rfl (okO_0 ok_18) dX5_buy_11 k) ?_
  refine ev_s (fun Q k => rn_getr (q := 85) f_X5_30 ok_18.1 ok_18.2.1 (okO_1 ok_18) rfl rfl dX5_buy_12 k) ?_
  refine ev_s (fun Q k => rn_aload_n (j := 0) 0 rfl rfl (okO_0 ok_18) dX5_buy_15 k) ?_
  refine ev_s (fun Q k => rn_getr (q := 19) f_X5_10 ok_18.1 ok_18.2.1 (okO_1 ok_18) rfl rfl dX5_buy_16 k) ?_
  refine ev_s (fun Q k => rn_iload_n (j := 1) 1 rfl rfl dX5_buy_19 k) ?_
  refine ev_bindI (as := [.inr (.inr 19), .inl x1]) (fun Q Q1 => rn_callV (as := [.inl x1]) (rest := [.inr (.inr 85)]) (o := 19) m_X5_56 dX5_buy_20 (rcv_own (oF isF_19).1 (oF isF_19).2.1 (by decide) (okO_1 (oF isF_19))) rfl rfl (Nat.le_of_ble_eq_true rfl)) pl_X0_addStraps (Nat.le_of_ble_eq_true rfl) rfl (e_X0_addStraps l E (d + 1) 19 isF_19 x1 D2) (fun r3 D4 => ?_)
  refine ev_bindI (as := [.inr (.inr 85), .inl r3]) (fun Q Q1 => rn_callV (as := [.inl r3]) (rest := []) (o := 85) m_X5_49 dX5_buy_23 (rcv_own ok_85.1 ok_85.2.1 (by decide) (okO_1 ok_85)) rfl rfl (Nat.le_of_ble_eq_true rfl)) pl_X1_keepUnlessError (Nat.le_of_ble_eq_true rfl) rfl (e_X1_keepUnlessError l E d r3 D4) (fun r5 D6 => ?_)
  exact ev_ret (fun Q q => rn_ret q .int rfl rfl dX5_buy_26)

def F_X5_isKindOrNone (x1 : Int32) (D : dT) : Option (Int32 × dT) := if x1 = (-6 : Int32) then some ((1 : Int32), D) else bd (F_X5_isKind x1 D) (fun (r1 : Int32) (D2 : dT) => if r1 = 0 then some ((0 : Int32), D2) else some ((1 : Int32), D2))
set_option maxRecDepth 20000 in
theorem e_X5_isKindOrNone (l : Launch) (E : eE) (d : Nat) (x1 : Int32) (D : dT) : ev l E (d + 1) yX5_isKindOrNone cX5_isKindOrNone 1 (some .boolean) 0 [(0, .inl x1)] [] D eI (F_X5_isKindOrNone x1 D) := by
  unfold F_X5_isKindOrNone
  refine ev_s (fun Q k => rn_iload_n (j := 0) 0 rfl rfl dX5_isKindOrNone_0 k) ?_
  refine ev_s (fun Q k => rn_bipush (v := -6) (by decide) dX5_isKindOrNone_1 k) ?_
  refine ev_if (fun Q => rn_icmp_eq (tgt := 13) dX5_isKindOrNone_3 (by decide)) (fun c5 => ?_) (fun c6 => ?_)
  · refine ev_s (fun Q k => rn_iconst (v := 1) (by decide) dX5_isKindOrNone_13 k) ?_
    refine ev_s (fun Q k => rn_goto (tgt := 18) dX5_isKindOrNone_14 (by decide) k) ?_
    exact ev_ret (fun Q q => rn_ret q .boolean rfl rfl dX5_isKindOrNone_18)
  · refine ev_s (fun Q k => rn_iload_n (j := 0) 0 rfl rfl dX5_isKindOrNone_6 k) ?_
    refine ev_bindI (as := [.inl x1]) (fun Q Q1 => rn_callS (as := [.inl x1]) (rest := []) m_X5_111 dX5_isKindOrNone_7 rfl rfl (Nat.le_of_ble_eq_true rfl)) pl_X5_isKind (Nat.le_of_ble_eq_true rfl) rfl (e_X5_isKind l E d x1 D) (fun r1 D2 => ?_)
    refine ev_if (fun Q => rn_if_eq (tgt := 17) dX5_isKindOrNone_10 (by decide)) (fun c3 => ?_) (fun c4 => ?_)
    · refine ev_s (fun Q k => rn_iconst (v := 0) (by decide) dX5_isKindOrNone_17 k) ?_
      exact ev_ret (fun Q q => rn_ret q .boolean rfl rfl dX5_isKindOrNone_18)
    · refine ev_s (fun Q k => rn_iconst (v := 1) (by decide) dX5_isKindOrNone_13 k) ?_
      refine ev_s (fun Q k => rn_goto (tgt := 18) dX5_isKindOrNone_14 (by decide) k) ?_
      exact ev_ret (fun Q q => rn_ret q .boolean rfl rfl dX5_isKindOrNone_18)

def F_J6_bitCount_0f7a4 (x1 : Int32) (D : dT) : Option (Int32 × dT) := some (((((((((x1 - (((x1.toUInt32 >>> ((1 : Int32).toUInt32 &&& Int32.toUInt32 31)).toInt32) &&& (1431655765 : Int32))) &&& (858993459 : Int32)) + ((((x1 - (((x1.toUInt32 >>> ((1 : Int32).toUInt32 &&& Int32.toUInt32 31)).toInt32) &&& (1431655765 : Int32))).toUInt32 >>> ((2 : Int32).toUInt32 &&& Int32.toUInt32 31)).toInt32) &&& (858993459 : Int32))) + (((((x1 - (((x1.toUInt32 >>> ((1 : Int32).toUInt32 &&& Int32.toUInt32 31)).toInt32) &&& (1431655765 : Int32))) &&& (858993459 : Int32)) + ((((x1 - (((x1.toUInt32 >>> ((1 : Int32).toUInt32 &&& Int32.toUInt32 31)).toInt32) &&& (1431655765 : Int32))).toUInt32 >>> ((2 : Int32).toUInt32 &&& Int32.toUInt32 31)).toInt32) &&& (858993459 : Int32))).toUInt32 >>> ((4 : Int32).toUInt32 &&& Int32.toUInt32 31)).toInt32)) &&& (252645135 : Int32)) + (((((((x1 - (((x1.toUInt32 >>> ((1 : Int32).toUInt32 &&& Int32.toUInt32 31)).toInt32) &&& (1431655765 : Int32))) &&& (858993459 : Int32)) + ((((x1 - (((x1.toUInt32 >>> ((1 : Int32).toUInt32 &&& Int32.toUInt32 31)).toInt32) &&& (1431655765 : Int32))).toUInt32 >>> ((2 : Int32).toUInt32 &&& Int32.toUInt32 31)).toInt32) &&& (858993459 : Int32))) + (((((x1 - (((x1.toUInt32 >>> ((1 : Int32).toUInt32 &&& Int32.toUInt32 31)).toInt32) &&& (1431655765 : Int32))) &&& (858993459 : Int32)) + ((((x1 - (((x1.toUInt32 >>> ((1 : Int32).toUInt32 &&& Int32.toUInt32 31)).toInt32) &&& (1431655765 : Int32))).toUInt32 >>> ((2 : Int32).toUInt32 &&& Int32.toUInt32 31)).toInt32) &&& (858993459 : Int32))).toUInt32 >>> ((4 : Int32).toUInt32 &&& Int32.toUInt32 31)).toInt32)) &&& (252645135 : Int32)).toUInt32 >>> ((8 : Int32).toUInt32 &&& Int32.toUInt32 31)).toInt32)) + ((((((((x1 - (((x1.toUInt32 >>> ((1 : Int32).toUInt32 &&& Int32.toUInt32 31)).toInt32) &&& (1431655765 : Int32))) &&& (858993459 : Int32)) + ((((x1 - (((x1.toUInt32 >>> ((1 : Int32).toUInt32 &&& Int32.toUInt32 31)).toInt32) &&& (1431655765 : Int32))).toUInt32 >>> ((2 : Int32).toUInt32 &&& Int32.toUInt32 31)).toInt32) &&& (858993459 : Int32))) + (((((x1 - (((x1.toUInt32 >>> ((1 : Int32).toUInt32 &&& Int32.toUInt32 31)).toInt32) &&& (1431655765 : Int32))) &&& (858993459 : Int32)) + ((((x1 - (((x1.toUInt32 >>> ((1 : Int32).toUInt32 &&& Int32.toUInt32 31)).toInt32) &&& (1431655765 : Int32))).toUInt32 >>> ((2 : Int32).toUInt32 &&& Int32.toUInt32 31)).toInt32) &&& (858993459 : Int32))).toUInt32 >>> ((4 : Int32).toUInt32 &&& Int32.toUInt32 31)).toInt32)) &&& (252645135 : Int32)) + (((((((x1 - (((x1.toUInt32 >>> ((1 : Int32).toUInt32 &&& Int32.toUInt32 31)).toInt32) &&& (1431655765 : Int32))) &&& (858993459 : Int32)) + ((((x1 - (((x1.toUInt32 >>> ((1 : Int32).toUInt32 &&& Int32.toUInt32 31)).toInt32) &&& (1431655765 : Int32))).toUInt32 >>> ((2 : Int32).toUInt32 &&& Int32.toUInt32 31)).toInt32) &&& (858993459 : Int32))) + (((((x1 - (((x1.toUInt32 >>> ((1 : Int32).toUInt32 &&& Int32.toUInt32 31)).toInt32) &&& (1431655765 : Int32))) &&& (858993459 : Int32)) + ((((x1 - (((x1.toUInt32 >>> ((1 : Int32).toUInt32 &&& Int32.toUInt32 31)).toInt32) &&& (1431655765 : Int32))).toUInt32 >>> ((2 : Int32).toUInt32 &&& Int32.toUInt32 31)).toInt32) &&& (858993459 : Int32))).toUInt32 >>> ((4 : Int32).toUInt32 &&& Int32.toUInt32 31)).toInt32)) &&& (252645135 : Int32)).toUInt32 >>> ((8 : Int32).toUInt32 &&& Int32.toUInt32 31)).toInt32)).toUInt32 >>> ((16 : Int32).toUInt32 &&& Int32.toUInt32 31)).toInt32)) &&& (63 : Int32)), D)
set_option maxRecDepth 20000 in
theorem e_J6_bitCount_0f7a4 (l : Launch) (E : eE) (d : Nat) (x1 : Int32) (D : dT) : ev l E d yJ6_bitCount_0f7a4 cJ6_bitCount_0f7a4 1 (some .int) 0 [(0, .inl x1)] [] D eI (F_J6_bitCount_0f7a4 x1 D) := by
  unfold F_J6_bitCount_0f7a4
  refine ev_s (fun Q k => rn_iload_n (j := 0) 0 rfl rfl dJ6_bitCount_0f7a4_0 k) ?_
  refine ev_s (fun Q k => rn_iload_n (j := 0) 0 rfl rfl dJ6_bitCount_0f7a4_1 k) ?_
  refine ev_s (fun Q k => rn_iconst (v := 1) (by decide) dJ6_bitCount_0f7a4_2 k) ?_
  refine ev_s (fun Q k => rn_iushr (v := (x1.toUInt32 >>> ((1 : Int32).toUInt32 &&& Int32.toUInt32 31)).toInt32) rfl dJ6_bitCount_0f7a4_3 k) ?_
  refine ev_s (fun Q k => rn_ldcw (v := 1431655765) cn_J6_265 dJ6_bitCount_0f7a4_4 k) ?_
  refine ev_s (fun Q k => rn_iand dJ6_bitCount_0f7a4_7 k) ?_
  refine ev_s (fun Q k => rn_isub dJ6_bitCount_0f7a4_8 k) ?_
  refine ev_s (fun Q k => rn_istore_n (j := 0) (ls' := [(0, .inl (x1 - (((x1.toUInt32 >>> ((1 : Int32).toUInt32 &&& Int32.toUInt32 31)).toInt32) &&& (1431655765 : Int32))))]) rfl (by decide) rfl dJ6_bitCount_0f7a4_9 k) ?_
  refine ev_s (fun Q k => rn_iload_n (j := 0) 0 rfl rfl dJ6_bitCount_0f7a4_10 k) ?_
  refine ev_s (fun Q k => rn_ldcw (v := 858993459) cn_J6_266 dJ6_bitCount_0f7a4_11 k) ?_
  refine ev_s (fun Q k => rn_iand dJ6_bitCount_0f7a4_14 k) ?_
  refine ev_s (fun Q k => rn_iload_n (j := 0) 0 rfl rfl dJ6_bitCount_0f7a4_15 k) ?_
  refine ev_s (fun Q k => rn_iconst (v := 2) (by decide) dJ6_bitCount_0f7a4_16 k) ?_
  refine ev_s (fun Q k => rn_iushr (v := ((x1 - (((x1.toUInt32 >>> ((1 : Int32).toUInt32 &&& Int32.toUInt32 31)).toInt32) &&& (1431655765 : Int32))).toUInt32 >>> ((2 : Int32).toUInt32 &&& Int32.toUInt32 31)).toInt32) rfl dJ6_bitCount_0f7a4_17 k) ?_
  refine ev_s (fun Q k => rn_ldcw (v := 858993459) cn_J6_266 dJ6_bitCount_0f7a4_18 k) ?_
  refine ev_s (fun Q k => rn_iand dJ6_bitCount_0f7a4_21 k) ?_
  refine ev_s (fun Q k => rn_iadd dJ6_bitCount_0f7a4_22 k) ?_
  refine ev_s (fun Q k => rn_istore_n (j := 0) (ls' := [(0, .inl (((x1 - (((x1.toUInt32 >>> ((1 : Int32).toUInt32 &&& Int32.toUInt32 31)).toInt32) &&& (1431655765 : Int32))) &&& (858993459 : Int32)) + ((((x1 - (((x1.toUInt32 >>> ((1 : Int32).toUInt32 &&& Int32.toUInt32 31)).toInt32) &&& (1431655765 : Int32))).toUInt32 >>> ((2 : Int32).toUInt32 &&& Int32.toUInt32 31)).toInt32) &&& (858993459 : Int32))))]) rfl (by decide) rfl dJ6_bitCount_0f7a4_23 k) ?_
  refine ev_s (fun Q k => rn_iload_n (j := 0) 0 rfl rfl dJ6_bitCount_0f7a4_24 k) ?_
  refine ev_s (fun Q k => rn_iload_n (j := 0) 0 rfl rfl dJ6_bitCount_0f7a4_25 k) ?_
  refine ev_s (fun Q k => rn_iconst (v := 4) (by decide) dJ6_bitCount_0f7a4_26 k) ?_
  refine ev_s (fun Q k => rn_iushr (v := ((((x1 - (((x1.toUInt32 >>> ((1 : Int32).toUInt32 &&& Int32.toUInt32 31)).toInt32) &&& (1431655765 : Int32))) &&& (858993459 : Int32)) + ((((x1 - (((x1.toUInt32 >>> ((1 : Int32).toUInt32 &&& Int32.toUInt32 31)).toInt32) &&& (1431655765 : Int32))).toUInt32 >>> ((2 : Int32).toUInt32 &&& Int32.toUInt32 31)).toInt32) &&& (858993459 : Int32))).toUInt32 >>> ((4 : Int32).toUInt32 &&& Int32.toUInt32 31)).toInt32) rfl dJ6_bitCount_0f7a4_27 k) ?_
  refine ev_s (fun Q k => rn_iadd dJ6_bitCount_0f7a4_28 k) ?_
  refine ev_s (fun Q k => rn_ldcw (v := 252645135) cn_J6_267 dJ6_bitCount_0f7a4_29 k) ?_
  refine ev_s (fun Q k => rn_iand dJ6_bitCount_0f7a4_32 k) ?_
  refine ev_s (fun Q k => rn_istore_n (j := 0) (ls' := [(0, .inl (((((x1 - (((x1.toUInt32 >>> ((1 : Int32).toUInt32 &&& Int32.toUInt32 31)).toInt32) &&& (1431655765 : Int32))) &&& (858993459 : Int32)) + ((((x1 - (((x1.toUInt32 >>> ((1 : Int32).toUInt32 &&& Int32.toUInt32 31)).toInt32) &&& (1431655765 : Int32))).toUInt32 >>> ((2 : Int32).toUInt32 &&& Int32.toUInt32 31)).toInt32) &&& (858993459 : Int32))) + (((((x1 - (((x1.toUInt32 >>> ((1 : Int32).toUInt32 &&& Int32.toUInt32 31)).toInt32) &&& (1431655765 : Int32))) &&& (858993459 : Int32)) + ((((x1 - (((x1.toUInt32 >>> ((1 : Int32).toUInt32 &&& Int32.toUInt32 31)).toInt32) &&& (1431655765 : Int32))).toUInt32 >>> ((2 : Int32).toUInt32 &&& Int32.toUInt32 31)).toInt32) &&& (858993459 : Int32))).toUInt32 >>> ((4 : Int32).toUInt32 &&& Int32.toUInt32 31)).toInt32)) &&& (252645135 : Int32)))]) rfl (by decide) rfl dJ6_bitCount_0f7a4_33 k) ?_
  refine ev_s (fun Q k => rn_iload_n (j := 0) 0 rfl rfl dJ6_bitCount_0f7a4_34 k) ?_
  refine ev_s (fun Q k => rn_iload_n (j := 0) 0 rfl rfl dJ6_bitCount_0f7a4_35 k) ?_
  refine ev_s (fun Q k => rn_bipush (v := 8) (by decide) dJ6_bitCount_0f7a4_36 k) ?_
  refine ev_s (fun Q k => rn_iushr (v := ((((((x1 - (((x1.toUInt32 >>> ((1 : Int32).toUInt32 &&& Int32.toUInt32 31)).toInt32) &&& (1431655765 : Int32))) &&& (858993459 : Int32)) + ((((x1 - (((x1.toUInt32 >>> ((1 : Int32).toUInt32 &&& Int32.toUInt32 31)).toInt32) &&& (1431655765 : Int32))).toUInt32 >>> ((2 : Int32).toUInt32 &&& Int32.toUInt32 31)).toInt32) &&& (858993459 : Int32))) + (((((x1 - (((x1.toUInt32 >>> ((1 : Int32).toUInt32 &&& Int32.toUInt32 31)).toInt32) &&& (1431655765 : Int32))) &&& (858993459 : Int32)) + ((((x1 - (((x1.toUInt32 >>> ((1 : Int32).toUInt32 &&& Int32.toUInt32 31)).toInt32) &&& (1431655765 : Int32))).toUInt32 >>> ((2 : Int32).toUInt32 &&& Int32.toUInt32 31)).toInt32) &&& (858993459 : Int32))).toUInt32 >>> ((4 : Int32).toUInt32 &&& Int32.toUInt32 31)).toInt32)) &&& (252645135 : Int32)).toUInt32 >>> ((8 : Int32).toUInt32 &&& Int32.toUInt32 31)).toInt32) rfl dJ6_bitCount_0f7a4_38 k) ?_
  refine ev_s (fun Q k => rn_iadd dJ6_bitCount_0f7a4_39 k) ?_
  refine ev_s (fun Q k => rn_istore_n (j := 0) (ls' := [(0, .inl ((((((x1 - (((x1.toUInt32 >>> ((1 : Int32).toUInt32 &&& Int32.toUInt32 31)).toInt32) &&& (1431655765 : Int32))) &&& (858993459 : Int32)) + ((((x1 - (((x1.toUInt32 >>> ((1 : Int32).toUInt32 &&& Int32.toUInt32 31)).toInt32) &&& (1431655765 : Int32))).toUInt32 >>> ((2 : Int32).toUInt32 &&& Int32.toUInt32 31)).toInt32) &&& (858993459 : Int32))) + (((((x1 - (((x1.toUInt32 >>> ((1 : Int32).toUInt32 &&& Int32.toUInt32 31)).toInt32) &&& (1431655765 : Int32))) &&& (858993459 : Int32)) + ((((x1 - (((x1.toUInt32 >>> ((1 : Int32).toUInt32 &&& Int32.toUInt32 31)).toInt32) &&& (1431655765 : Int32))).toUInt32 >>> ((2 : Int32).toUInt32 &&& Int32.toUInt32 31)).toInt32) &&& (858993459 : Int32))).toUInt32 >>> ((4 : Int32).toUInt32 &&& Int32.toUInt32 31)).toInt32)) &&& (252645135 : Int32)) + (((((((x1 - (((x1.toUInt32 >>> ((1 : Int32).toUInt32 &&& Int32.toUInt32 31)).toInt32) &&& (1431655765 : Int32))) &&& (858993459 : Int32)) + ((((x1 - (((x1.toUInt32 >>> ((1 : Int32).toUInt32 &&& Int32.toUInt32 31)).toInt32) &&& (1431655765 : Int32))).toUInt32 >>> ((2 : Int32).toUInt32 &&& Int32.toUInt32 31)).toInt32) &&& (858993459 : Int32))) + (((((x1 - (((x1.toUInt32 >>> ((1 : Int32).toUInt32 &&& Int32.toUInt32 31)).toInt32) &&& (1431655765 : Int32))) &&& (858993459 : Int32)) + ((((x1 - (((x1.toUInt32 >>> ((1 : Int32).toUInt32 &&& Int32.toUInt32 31)).toInt32) &&& (1431655765 : Int32))).toUInt32 >>> ((2 : Int32).toUInt32 &&& Int32.toUInt32 31)).toInt32) &&& (858993459 : Int32))).toUInt32 >>> ((4 : Int32).toUInt32 &&& Int32.toUInt32 31)).toInt32)) &&& (252645135 : Int32)).toUInt32 >>> ((8 : Int32).toUInt32 &&& Int32.toUInt32 31)).toInt32)))]) rfl (by decide) rfl dJ6_bitCount_0f7a4_40 k) ?_
  refine ev_s (fun Q k => rn_iload_n (j := 0) 0 rfl rfl dJ6_bitCount_0f7a4_41 k) ?_
  refine ev_s (fun Q k => rn_iload_n (j := 0) 0 rfl rfl dJ6_bitCount_0f7a4_42 k) ?_
  refine ev_s (fun Q k => rn_bipush (v := 16) (by decide) dJ6_bitCount_0f7a4_43 k) ?_
  refine ev_s (fun Q k => rn_iushr (v := (((((((x1 - (((x1.toUInt32 >>> ((1 : Int32).toUInt32 &&& Int32.toUInt32 31)).toInt32) &&& (1431655765 : Int32))) &&& (858993459 : Int32)) + ((((x1 - (((x1.toUInt32 >>> ((1 : Int32).toUInt32 &&& Int32.toUInt32 31)).toInt32) &&& (1431655765 : Int32))).toUInt32 >>> ((2 : Int32).toUInt32 &&& Int32.toUInt32 31)).toInt32) &&& (858993459 : Int32))) + (((((x1 - (((x1.toUInt32 >>> ((1 : Int32).toUInt32 &&& Int32.toUInt32 31)).toInt32) &&& (1431655765 : Int32))) &&& (858993459 : Int32)) + ((((x1 - (((x1.toUInt32 >>> ((1 : Int32).toUInt32 &&& Int32.toUInt32 31)).toInt32) &&& (1431655765 : Int32))).toUInt32 >>> ((2 : Int32).toUInt32 &&& Int32.toUInt32 31)).toInt32) &&& (858993459 : Int32))).toUInt32 >>> ((4 : Int32).toUInt32 &&& Int32.toUInt32 31)).toInt32)) &&& (252645135 : Int32)) + (((((((x1 - (((x1.toUInt32 >>> ((1 : Int32).toUInt32 &&& Int32.toUInt32 31)).toInt32) &&& (1431655765 : Int32))) &&& (858993459 : Int32)) + ((((x1 - (((x1.toUInt32 >>> ((1 : Int32).toUInt32 &&& Int32.toUInt32 31)).toInt32) &&& (1431655765 : Int32))).toUInt32 >>> ((2 : Int32).toUInt32 &&& Int32.toUInt32 31)).toInt32) &&& (858993459 : Int32))) + (((((x1 - (((x1.toUInt32 >>> ((1 : Int32).toUInt32 &&& Int32.toUInt32 31)).toInt32) &&& (1431655765 : Int32))) &&& (858993459 : Int32)) + ((((x1 - (((x1.toUInt32 >>> ((1 : Int32).toUInt32 &&& Int32.toUInt32 31)).toInt32) &&& (1431655765 : Int32))).toUInt32 >>> ((2 : Int32).toUInt32 &&& Int32.toUInt32 31)).toInt32) &&& (858993459 : Int32))).toUInt32 >>> ((4 : Int32).toUInt32 &&& Int32.toUInt32 31)).toInt32)) &&& (252645135 : Int32)).toUInt32 >>> ((8 : Int32).toUInt32 &&& Int32.toUInt32 31)).toInt32)).toUInt32 >>> ((16 : Int32).toUInt32 &&& Int32.toUInt32 31)).toInt32) rfl dJ6_bitCount_0f7a4_45 k) ?_
  refine ev_s (fun Q k => rn_iadd dJ6_bitCount_0f7a4_46 k) ?_
  refine ev_s (fun Q k => rn_istore_n (j := 0) (ls' := [(0, .inl (((((((x1 - (((x1.toUInt32 >>> ((1 : Int32).toUInt32 &&& Int32.toUInt32 31)).toInt32) &&& (1431655765 : Int32))) &&& (858993459 : Int32)) + ((((x1 - (((x1.toUInt32 >>> ((1 : Int32).toUInt32 &&& Int32.toUInt32 31)).toInt32) &&& (1431655765 : Int32))).toUInt32 >>> ((2 : Int32).toUInt32 &&& Int32.toUInt32 31)).toInt32) &&& (858993459 : Int32))) + (((((x1 - (((x1.toUInt32 >>> ((1 : Int32).toUInt32 &&& Int32.toUInt32 31)).toInt32) &&& (1431655765 : Int32))) &&& (858993459 : Int32)) + ((((x1 - (((x1.toUInt32 >>> ((1 : Int32).toUInt32 &&& Int32.toUInt32 31)).toInt32) &&& (1431655765 : Int32))).toUInt32 >>> ((2 : Int32).toUInt32 &&& Int32.toUInt32 31)).toInt32) &&& (858993459 : Int32))).toUInt32 >>> ((4 : Int32).toUInt32 &&& Int32.toUInt32 31)).toInt32)) &&& (252645135 : Int32)) + (((((((x1 - (((x1.toUInt32 >>> ((1 : Int32).toUInt32 &&& Int32.toUInt32 31)).toInt32) &&& (1431655765 : Int32))) &&& (858993459 : Int32)) + ((((x1 - (((x1.toUInt32 >>> ((1 : Int32).toUInt32 &&& Int32.toUInt32 31)).toInt32) &&& (1431655765 : Int32))).toUInt32 >>> ((2 : Int32).toUInt32 &&& Int32.toUInt32 31)).toInt32) &&& (858993459 : Int32))) + (((((x1 - (((x1.toUInt32 >>> ((1 : Int32).toUInt32 &&& Int32.toUInt32 31)).toInt32) &&& (1431655765 : Int32))) &&& (858993459 : Int32)) + ((((x1 - (((x1.toUInt32 >>> ((1 : Int32).toUInt32 &&& Int32.toUInt32 31)).toInt32) &&& (1431655765 : Int32))).toUInt32 >>> ((2 : Int32).toUInt32 &&& Int32.toUInt32 31)).toInt32) &&& (858993459 : Int32))).toUInt32 >>> ((4 : Int32).toUInt32 &&& Int32.toUInt32 31)).toInt32)) &&& (252645135 : Int32)).toUInt32 >>> ((8 : Int32).toUInt32 &&& Int32.toUInt32 31)).toInt32)) + ((((((((x1 - (((x1.toUInt32 >>> ((1 : Int32).toUInt32 &&& Int32.toUInt32 31)).toInt32) &&& (1431655765 : Int32))) &&& (858993459 : Int32)) + ((((x1 - (((x1.toUInt32 >>> ((1 : Int32).toUInt32 &&& Int32.toUInt32 31)).toInt32) &&& (1431655765 : Int32))).toUInt32 >>> ((2 : Int32).toUInt32 &&& Int32.toUInt32 31)).toInt32) &&& (858993459 : Int32))) + (((((x1 - (((x1.toUInt32 >>> ((1 : Int32).toUInt32 &&& Int32.toUInt32 31)).toInt32) &&& (1431655765 : Int32))) &&& (858993459 : Int32)) + ((((x1 - (((x1.toUInt32 >>> ((1 : Int32).toUInt32 &&& Int32.toUInt32 31)).toInt32) &&& (1431655765 : Int32))).toUInt32 >>> ((2 : Int32).toUInt32 &&& Int32.toUInt32 31)).toInt32) &&& (858993459 : Int32))).toUInt32 >>> ((4 : Int32).toUInt32 &&& Int32.toUInt32 31)).toInt32)) &&& (252645135 : Int32)) + (((((((x1 - (((x1.toUInt32 >>> ((1 : Int32).toUInt32 &&& Int32.toUInt32 31)).toInt32) &&& (1431655765 : Int32))) &&& (858993459 : Int32)) + ((((x1 - (((x1.toUInt32 >>> ((1 : Int32).toUInt32 &&& Int32.toUInt32 31)).toInt32) &&& (1431655765 : Int32))).toUInt32 >>> ((2 : Int32).toUInt32 &&& Int32.toUInt32 31)).toInt32) &&& (858993459 : Int32))) + (((((x1 - (((x1.toUInt32 >>> ((1 : Int32).toUInt32 &&& Int32.toUInt32 31)).toInt32) &&& (1431655765 : Int32))) &&& (858993459 : Int32)) + ((((x1 - (((x1.toUInt32 >>> ((1 : Int32).toUInt32 &&& Int32.toUInt32 31)).toInt32) &&& (1431655765 : Int32))).toUInt32 >>> ((2 : Int32).toUInt32 &&& Int32.toUInt32 31)).toInt32) &&& (858993459 : Int32))).toUInt32 >>> ((4 : Int32).toUInt32 &&& Int32.toUInt32 31)).toInt32)) &&& (252645135 : Int32)).toUInt32 >>> ((8 : Int32).toUInt32 &&& Int32.toUInt32 31)).toInt32)).toUInt32 >>> ((16 : Int32).toUInt32 &&& Int32.toUInt32 31)).toInt32)))]) rfl (by decide) rfl dJ6_bitCount_0f7a4_47 k) ?_
  refine ev_s (fun Q k => rn_iload_n (j := 0) 0 rfl rfl dJ6_bitCount_0f7a4_48 k) ?_
  refine ev_s (fun Q k => rn_bipush (v := 63) (by decide) dJ6_bitCount_0f7a4_49 k) ?_
  refine ev_s (fun Q k => rn_iand dJ6_bitCount_0f7a4_51 k) ?_
  exact ev_ret (fun Q q => rn_ret q .int rfl rfl dJ6_bitCount_0f7a4_52)

def F_X0_isCrew (B : Nat) (x1 : Int32) (D : dT) : Option (Int32 × dT) := if x1 = 0 then some ((0 : Int32), D) else if (x1 &&& ((((1 : Int32) <<< ((D B 5) &&& 31)) - (1 : Int32)) ^^^ (-1 : Int32))) = 0 then bd (F_J6_bitCount_0f7a4 x1 D) (fun (r1 : Int32) (D2 : dT) => if inR (3 : Int32) 4 then if (D2 (B + 1) (3 : Int32).toNatClampNeg) < r1 then some ((0 : Int32), D2) else some ((1 : Int32), D2) else none) else some ((0 : Int32), D)
set_option maxRecDepth 20000 in
theorem e_X0_isCrew (l : Launch) (E : eE) (d : Nat) (B : Nat) (hB : isF B) (x1 : Int32) (D : dT) : ev l E (d + 1) yX0_isCrew cX0_isCrew 3 (some .boolean) 0 [(0, .inr (.inr B)), (1, .inl x1)] [] D eI (F_X0_isCrew B x1 D) := by
  unfold F_X0_isCrew
  refine ev_s (fun Q k => rn_iconst (v := 1) (by decide) dX0_isCrew_0 k) ?_
  refine ev_s (fun Q k => rn_aload_n (j := 0) 0 rfl rfl (okO_0 (oF hB)) dX0_isCrew_1 k) ?_
  refine ev_s (fun Q k => rn_geti f_X0_41 (oF hB).1 (oF hB).2.1 (okO_1 (oF hB)) rfl dX0_isCrew_2 k) ?_
  refine ev_s (fun Q k => rn_ishl dX0_isCrew_5 k) ?_
  refine ev_s (fun Q k => rn_iconst (v := 1) (by decide) dX0_isCrew_6 k) ?_
  refine ev_s (fun Q k => rn_isub dX0_isCrew_7 k) ?_
  refine ev_s (fun Q k => rn_istore_n (j := 2) (ls' := [(2, .inl (((1 : Int32) <<< ((D B 5) &&& 31)) - (1 : Int32))), (0, .inr (.inr B)), (1, .inl x1)]) rfl (by decide) rfl dX0_isCrew_8 k) ?_
  refine ev_s (fun Q k => rn_iload_n (j := 1) 2 rfl rfl dX0_isCrew_9 k) ?_
  refine ev_if (fun Q => rn_if_eq (tgt := 38) dX0_isCrew_10 (by decide)) (fun c8 => ?_) (fun c9 => ?_)
  · refine ev_s (fun Q k => rn_iconst (v := 0) (by decide) dX0_isCrew_38 k) ?_
    exact ev_ret (fun Q q => rn_ret q .boolean rfl rfl dX0_isCrew_39)
  · refine ev_s (fun Q k => rn_iload_n (j := 1) 2 rfl rfl dX0_isCrew_13 k) ?_
    refine ev_s (fun Q k => rn_iload_n (j := 2) 0 rfl rfl dX0_isCrew_14 k) ?_
    refine ev_s (fun Q k => rn_iconst (v := -1) (by decide) dX0_isCrew_15 k) ?_
    refine ev_s (fun Q k => rn_ixor dX0_isCrew_16 k) ?_
    refine ev_s (fun Q k => rn_iand dX0_isCrew_17 k) ?_
    refine ev_if (fun Q => rn_if_ne (tgt := 38) dX0_isCrew_18 (by decide)) (fun c6 => ?_) (fun c7 => ?_)
    · refine ev_s (fun Q k => rn_iload_n (j := 1) 2 rfl rfl dX0_isCrew_21 k) ?_
      refine ev_bindI (as := [.inl x1]) (fun Q Q1 => rn_callS (as := [.inl x1]) (rest := []) m_X0_108 dX0_isCrew_22 rfl rfl (Nat.le_of_ble_eq_true rfl)) pl_J6_bitCount_0f7a4 (Nat.le_of_ble_eq_true rfl) rfl (e_J6_bitCount_0f7a4 l E d x1 D) (fun r1 D2 => ?_)
      refine ev_s (fun Q k => rn_aload_n (j := 0) 1 rfl rfl (okO_0 (oF hB)) dX0_isCrew_25 k) ?_
      refine ev_s (fun Q k => rn_getr (q := (B + 1)) f_X0_9 (oF hB).1 (oF hB).2.1 (okO_1 (oF hB)) rfl (rF0 hB) dX0_isCrew_26 k) ?_
      refine ev_s (fun Q k => rn_iconst (v := 3) (by decide) dX0_isCrew_29 k) ?_
      refine ev_gd (fun g3 => ?_)
      refine ev_s (fun Q k => rn_iald (oF1 hB).1 (oF1 hB).2.1 (oF1 hB).2.2 (inR_vp g3) dX0_isCrew_30 k) ?_
      refine ev_if (fun Q => rn_icmp_gt (tgt := 38) dX0_isCrew_31 (by decide)) (fun c4 => ?_) (fun c5 => ?_)
      · refine ev_s (fun Q k => rn_iconst (v := 0) (by decide) dX0_isCrew_38 k) ?_
        exact ev_ret (fun Q q => rn_ret q .boolean rfl rfl dX0_isCrew_39)
      · refine ev_s (fun Q k => rn_iconst (v := 1) (by decide) dX0_isCrew_34 k) ?_
        refine ev_s (fun Q k => rn_goto (tgt := 39) dX0_isCrew_35 (by decide) k) ?_
        exact ev_ret (fun Q q => rn_ret q .boolean rfl rfl dX0_isCrew_39)
    · refine ev_s (fun Q k => rn_iconst (v := 0) (by decide) dX0_isCrew_38 k) ?_
      exact ev_ret (fun Q q => rn_ret q .boolean rfl rfl dX0_isCrew_39)

def F_X0_canHaveStraps (B : Nat) (o1 : Nat) (x2 : Int32) (D : dT) : Option (Int32 × dT) := bd (F_X5_isKind x2 D) (fun (r1 : Int32) (D2 : dT) => if r1 = 0 then some ((1 : Int32), D2) else if inR x2 3 then if (D2 (B + 3) x2.toNatClampNeg) ≤ 0 then some ((0 : Int32), D2) else if x2 = (2 : Int32) then if (D2 o1 1) = 0 then some ((1 : Int32), D2) else some ((0 : Int32), D2) else some ((1 : Int32), D2) else none)
set_option maxRecDepth 20000 in
theorem e_X0_canHaveStraps (l : Launch) (E : eE) (d : Nat) (B : Nat) (hB : isF B) (o1 : Nat) (ho1 : okO o1 2 0) (x2 : Int32) (D : dT) : ev l E (d + 1) yX0_canHaveStraps cX0_canHaveStraps 3 (some .boolean) 0 [(0, .inr (.inr B)), (1, .inr (.inr o1)), (2, .inl x2)] [] D eI (F_X0_canHaveStraps B o1 x2 D) := by
  unfold F_X0_canHaveStraps
  refine ev_s (fun Q k => rn_iload_n (j := 2) 2 rfl rfl dX0_canHaveStraps_0 k) ?_
  refine ev_bindI (as := [.inl x2]) (fun Q Q1 => rn_callSN (as := [.inl x2]) (rest := []) m_X0_78 dX0_canHaveStraps_1 rfl rfl (Nat.le_of_ble_eq_true rfl)) pl_X5_isKind (Nat.le_of_ble_eq_true rfl) rfl (e_X5_isKind l E d x2 D) (fun r1 D2 => ?_)
  refine ev_if (fun Q => rn_if_ne (tgt := 9) dX0_canHaveStraps_4 (by decide)) (fun c10 => ?_) (fun c11 => ?_)
  · refine ev_s (fun Q k => rn_iconst (v := 1) (by decide) dX0_canHaveStraps_7 k) ?_
    exact ev_ret (fun Q q => rn_ret q .boolean rfl rfl dX0_canHaveStraps_8)
  · refine ev_s (fun Q k => rn_aload_n (j := 0) 0 rfl rfl (okO_0 (oF hB)) dX0_canHaveStraps_9 k) ?_
    refine ev_s (fun Q k => rn_getr (q := (B + 3)) f_X0_18 (oF hB).1 (oF hB).2.1 (okO_1 (oF hB)) rfl (rF2 hB) dX0_canHaveStraps_10 k) ?_
    refine ev_s (fun Q k => rn_iload_n (j := 2) 2 rfl rfl dX0_canHaveStraps_13 k) ?_
    refine ev_gd (fun g3 => ?_)
    refine ev_s (fun Q k => rn_iald (oF3 hB).1 (oF3 hB).2.1 (oF3 hB).2.2 (inR_vp g3) dX0_canHaveStraps_14 k) ?_
    refine ev_if (fun Q => rn_if_le (tgt := 34) dX0_canHaveStraps_15 (by decide)) (fun c8 => ?_) (fun c9 => ?_)
    · refine ev_s (fun Q k => rn_iconst (v := 0) (by decide) dX0_canHaveStraps_34 k) ?_
      exact ev_ret (fun Q q => rn_ret q .boolean rfl rfl dX0_canHaveStraps_35)
    · refine ev_s (fun Q k => rn_iload_n (j := 2) 2 rfl rfl dX0_canHaveStraps_18 k) ?_
      refine ev_s (fun Q k => rn_iconst (v := 2) (by decide) dX0_canHaveStraps_19 k) ?_
      refine ev_if (fun Q => rn_icmp_ne (tgt := 30) dX0_canHaveStraps_20 (by decide)) (fun c6 => ?_) (fun c7 => ?_)
      · refine ev_s (fun Q k => rn_aload_n (j := 1) 1 rfl rfl (okO_0 ho1) dX0_canHaveStraps_23 k) ?_
        refine ev_s (fun Q k => rn_geti f_X0_88 ho1.1 ho1.2.1 (okO_1 ho1) rfl dX0_canHaveStraps_24 k) ?_
        refine ev_if (fun Q => rn_if_ne (tgt := 34) dX0_canHaveStraps_27 (by decide)) (fun c4 => ?_) (fun c5 => ?_)
        · refine ev_s (fun Q k => rn_iconst (v := 1) (by decide) dX0_canHaveStraps_30 k) ?_
          refine ev_s (fun Q k => rn_goto (tgt := 35) dX0_canHaveStraps_31 (by decide) k) ?_
          exact ev_ret (fun Q q => rn_ret q .boolean rfl rfl dX0_canHaveStraps_35)
        · refine ev_s (fun Q k => rn_iconst (v := 0) (by decide) dX0_canHaveStraps_34 k) ?_
          exact ev_ret (fun Q q => rn_ret q .boolean rfl rfl dX0_canHaveStraps_35)
      · refine ev_s (fun Q k => rn_iconst (v := 1) (by decide) dX0_canHaveStraps_30 k) ?_
        refine ev_s (fun Q k => rn_goto (tgt := 35) dX0_canHaveStraps_31 (by decide) k) ?_
        exact ev_ret (fun Q q => rn_ret q .boolean rfl rfl dX0_canHaveStraps_35)

def F_X5_isIn (x1 : Int32) (x2 : Int32) (D : dT) : Option (Int32 × dT) := if (x2 &&& ((1 : Int32) <<< (x1 &&& 31))) = 0 then some ((0 : Int32), D) else some ((1 : Int32), D)
set_option maxRecDepth 20000 in
theorem e_X5_isIn (l : Launch) (E : eE) (d : Nat) (x1 : Int32) (x2 : Int32) (D : dT) : ev l E d yX5_isIn cX5_isIn 2 (some .boolean) 0 [(0, .inl x1), (1, .inl x2)] [] D eI (F_X5_isIn x1 x2 D) := by
  unfold F_X5_isIn
  refine ev_s (fun Q k => rn_iload_n (j := 1) 1 rfl rfl dX5_isIn_0 k) ?_
  refine ev_s (fun Q k => rn_iconst (v := 1) (by decide) dX5_isIn_1 k) ?_
  refine ev_s (fun Q k => rn_iload_n (j := 0) 0 rfl rfl dX5_isIn_2 k) ?_
  refine ev_s (fun Q k => rn_ishl dX5_isIn_3 k) ?_
  refine ev_s (fun Q k => rn_iand dX5_isIn_4 k) ?_
  refine ev_if (fun Q => rn_if_eq (tgt := 12) dX5_isIn_5 (by decide)) (fun c1 => ?_) (fun c2 => ?_)
  · refine ev_s (fun Q k => rn_iconst (v := 0) (by decide) dX5_isIn_12 k) ?_
    exact ev_ret (fun Q q => rn_ret q .boolean rfl rfl dX5_isIn_13)
  · refine ev_s (fun Q k => rn_iconst (v := 1) (by decide) dX5_isIn_8 k) ?_
    refine ev_s (fun Q k => rn_goto (tgt := 13) dX5_isIn_9 (by decide) k) ?_
    exact ev_ret (fun Q q => rn_ret q .boolean rfl rfl dX5_isIn_13)

def F_X0_strengthOf_4 (fuel : Nat) (B : Nat) (x1 : Int32)  (v2 : Int32) (v3 : Int32) (D : dT) : Option (Int32 × dT) := match fuel with
  | 0 => none
  | fu + 1 => if (D B 5) ≤ v3 then some (v2, D) else bd (F_X5_isIn v3 x1 D) (fun (r1 : Int32) (D2 : dT) => if r1 = 0 then F_X0_strengthOf_4 fu B x1 v2 (v3 + (1 : Int32)) D2 else if inR v3 10 then F_X0_strengthOf_4 fu B x1 (v2 + (D2 (B + 6 + v3.toNatClampNeg) 1)) (v3 + (1 : Int32)) D2 else none)
def F_X0_strengthOf (B : Nat) (x1 : Int32) (D : dT) : Option (Int32 × dT) := F_X0_strengthOf_4 lim B x1 (0 : Int32) (0 : Int32) D
set_option maxRecDepth 20000 in
theorem e_X0_strengthOf_4 (l : Launch) (E : eE) (d : Nat) (B : Nat) (hB : isF B) (x1 : Int32)  (fuel : Nat) : ∀ (v2 : Int32) (v3 : Int32) (D : dT), ev l E (d + 1) yX0_strengthOf cX0_strengthOf 4 (some .int) 4 [(0, .inr (.inr B)), (1, .inl x1), (2, .inl v2), (3, .inl v3)] [] D eI (F_X0_strengthOf_4 fuel B x1 v2 v3 D) := by
  induction fuel with
  | zero =>
    intro v2 v3 D
    exact ev_none
  | succ fu ih =>
    intro v2 v3 D
    rw [F_X0_strengthOf_4]
    refine ev_s (fun Q k => rn_iload_n (j := 3) 3 rfl rfl dX0_strengthOf_4 k) ?_
    refine ev_s (fun Q k => rn_aload_n (j := 0) 0 rfl rfl (okO_0 (oF hB)) dX0_strengthOf_5 k) ?_
    refine ev_s (fun Q k => rn_geti f_X0_41 (oF hB).1 (oF hB).2.1 (okO_1 (oF hB)) rfl dX0_strengthOf_6 k) ?_
    refine ev_if (fun Q => rn_icmp_ge (tgt := 38) dX0_strengthOf_9 (by decide)) (fun c6 => ?_) (fun c7 => ?_)
    · refine ev_s (fun Q k => rn_iload_n (j := 2) 2 rfl rfl dX0_strengthOf_38 k) ?_
      exact ev_ret (fun Q q => rn_ret q .int rfl rfl dX0_strengthOf_39)
    · refine ev_s (fun Q k => rn_iload_n (j := 3) 3 rfl rfl dX0_strengthOf_12 k) ?_
      refine ev_s (fun Q k => rn_iload_n (j := 1) 1 rfl rfl dX0_strengthOf_13 k) ?_
      refine ev_bindI (as := [.inl v3, .inl x1]) (fun Q Q1 => rn_callSN (as := [.inl v3, .inl x1]) (rest := []) m_X0_101 dX0_strengthOf_14 rfl rfl (Nat.le_of_ble_eq_true rfl)) pl_X5_isIn (Nat.le_of_ble_eq_true rfl) rfl (e_X5_isIn l E d v3 x1 D) (fun r1 D2 => ?_)
      refine ev_if (fun Q => rn_if_eq (tgt := 32) dX0_strengthOf_17 (by decide)) (fun c4 => ?_) (fun c5 => ?_)
      · refine ev_s (fun Q k => rn_iinc (v := (v3 + (1 : Int32))) (ls' := [(3, .inl (v3 + (1 : Int32))), (0, .inr (.inr B)), (1, .inl x1), (2, .inl v2)]) 3 rfl rfl (by decide) rfl dX0_strengthOf_32 k) ?_
        refine ev_s (fun Q k => rn_goto (tgt := 4) dX0_strengthOf_35 (by decide) k) ?_
        refine ev_s (fun Q k => rn_sub (ls' := [(0, .inr (.inr B)), (1, .inl x1), (2, .inl v2), (3, .inl (v3 + (1 : Int32)))]) [1, 2, 3, 0] rfl k) ?_
        exact ih v2 (v3 + (1 : Int32)) D2
      · refine ev_s (fun Q k => rn_iload_n (j := 2) 2 rfl rfl dX0_strengthOf_20 k) ?_
        refine ev_s (fun Q k => rn_aload_n (j := 0) 0 rfl rfl (okO_0 (oF hB)) dX0_strengthOf_21 k) ?_
        refine ev_s (fun Q k => rn_getr (q := (B + 4)) f_X0_23 (oF hB).1 (oF hB).2.1 (okO_1 (oF hB)) rfl (rF3 hB) dX0_strengthOf_22 k) ?_
        refine ev_s (fun Q k => rn_iload_n (j := 3) 3 rfl rfl dX0_strengthOf_25 k) ?_
        refine ev_gd (fun g3 => ?_)
        refine ev_s (fun Q k => rn_aald (q := (B + 6 + v3.toNatClampNeg)) (oF4 hB).1 (oF4 hB).2.1 (by decide) (by decide) (oF4 hB).2.2 (inR_vp g3) (rP hB g3.2) dX0_strengthOf_26 k) ?_
        refine ev_s (fun Q k => rn_geti f_X0_105 (oP hB g3.2).1 (oP hB g3.2).2.1 (okO_1 (oP hB g3.2)) rfl dX0_strengthOf_27 k) ?_
        refine ev_s (fun Q k => rn_iadd dX0_strengthOf_30 k) ?_
        refine ev_s (fun Q k => rn_istore_n (j := 2) (ls' := [(2, .inl (v2 + (D2 (B + 6 + v3.toNatClampNeg) 1))), (0, .inr (.inr B)), (1, .inl x1), (3, .inl v3)]) rfl (by decide) rfl dX0_strengthOf_31 k) ?_
        refine ev_s (fun Q k => rn_iinc (v := (v3 + (1 : Int32))) (ls' := [(3, .inl (v3 + (1 : Int32))), (2, .inl (v2 + (D2 (B + 6 + v3.toNatClampNeg) 1))), (0, .inr (.inr B)), (1, .inl x1)]) 3 rfl rfl (by decide) rfl dX0_strengthOf_32 k) ?_
        refine ev_s (fun Q k => rn_goto (tgt := 4) dX0_strengthOf_35 (by decide) k) ?_
        refine ev_s (fun Q k => rn_sub (ls' := [(0, .inr (.inr B)), (1, .inl x1), (2, .inl (v2 + (D2 (B + 6 + v3.toNatClampNeg) 1))), (3, .inl (v3 + (1 : Int32)))]) [2, 3, 1, 0] rfl k) ?_
        exact ih (v2 + (D2 (B + 6 + v3.toNatClampNeg) 1)) (v3 + (1 : Int32)) D2

set_option maxRecDepth 20000 in
theorem e_X0_strengthOf (l : Launch) (E : eE) (d : Nat) (B : Nat) (hB : isF B) (x1 : Int32) (D : dT) : ev l E (d + 1) yX0_strengthOf cX0_strengthOf 4 (some .int) 0 [(0, .inr (.inr B)), (1, .inl x1)] [] D eI (F_X0_strengthOf B x1 D) := by
  unfold F_X0_strengthOf
  refine ev_s (fun Q k => rn_iconst (v := 0) (by decide) dX0_strengthOf_0 k) ?_
  refine ev_s (fun Q k => rn_istore_n (j := 2) (ls' := [(2, .inl (0 : Int32)), (0, .inr (.inr B)), (1, .inl x1)]) rfl (by decide) rfl dX0_strengthOf_1 k) ?_
  refine ev_s (fun Q k => rn_iconst (v := 0) (by decide) dX0_strengthOf_2 k) ?_
  refine ev_s (fun Q k => rn_istore_n (j := 3) (ls' := [(3, .inl (0 : Int32)), (2, .inl (0 : Int32)), (0, .inr (.inr B)), (1, .inl x1)]) rfl (by decide) rfl dX0_strengthOf_3 k) ?_
  refine ev_s (fun Q k => rn_sub (ls' := [(0, .inr (.inr B)), (1, .inl x1), (2, .inl (0 : Int32)), (3, .inl (0 : Int32))]) [2, 3, 1, 0] rfl k) ?_
  exact e_X0_strengthOf_4 l E d B hB x1  lim (0 : Int32) (0 : Int32) D

def F_X0_loadWith_16 (B : Nat) (o1 : Nat) (x2 : Int32)  (s0 : Int32) (D : dT) : Option (Int32 × dT) := bd (F_X0_loadNow B o1 D) (fun (r1 : Int32) (D2 : dT) => some (((r1 * ((100 : Int32) - s0)) / (100 : Int32)), D2))
def F_X0_loadWith (B : Nat) (o1 : Nat) (x2 : Int32) (D : dT) : Option (Int32 × dT) := bd (F_X5_isKind x2 D) (fun (r1 : Int32) (D2 : dT) => if r1 = 0 then F_X0_loadWith_16 B o1 x2 (0 : Int32) D2 else if inR x2 3 then F_X0_loadWith_16 B o1 x2 (sDat 3 x2.toNatClampNeg) D2 else none)
set_option maxRecDepth 20000 in
theorem e_X0_loadWith_16 (l : Launch) (E : eE) (d : Nat) (B : Nat) (hB : isF B) (o1 : Nat) (ho1 : okO o1 2 0) (x2 : Int32)  (s0 : Int32) (D : dT) : ev l E (d + 1) yX0_loadWith cX0_loadWith 4 (some .int) 16 [(0, .inr (.inr B)), (1, .inr (.inr o1))] [.inl s0] D eI (F_X0_loadWith_16 B o1 x2 s0 D) := by
  unfold F_X0_loadWith_16
  refine ev_s (fun Q k => rn_istore_n (j := 3) (ls' := [(3, .inl s0), (0, .inr (.inr B)), (1, .inr (.inr o1))]) rfl (by decide) rfl dX0_loadWith_16 k) ?_
  refine ev_s (fun Q k => rn_aload_n (j := 0) 1 rfl rfl (okO_0 (oF hB)) dX0_loadWith_17 k) ?_
  refine ev_s (fun Q k => rn_aload_n (j := 1) 2 rfl rfl (okO_0 ho1) dX0_loadWith_18 k) ?_
  refine ev_bindI (as := [.inr (.inr B), .inr (.inr o1)]) (fun Q Q1 => rn_callV (as := [.inr (.inr o1)]) (rest := []) (o := B) m_X0_94 dX0_loadWith_19 (rcv_own (oF hB).1 (oF hB).2.1 (by decide) (okO_1 (oF hB))) rfl rfl (Nat.le_of_ble_eq_true rfl)) pl_X0_loadNow (Nat.le_of_ble_eq_true rfl) rfl (e_X0_loadNow l E d B hB o1 ho1 D) (fun r1 D2 => ?_)
  refine ev_s (fun Q k => rn_bipush (v := 100) (by decide) dX0_loadWith_22 k) ?_
  refine ev_s (fun Q k => rn_iload_n (j := 3) 0 rfl rfl dX0_loadWith_24 k) ?_
  refine ev_s (fun Q k => rn_isub dX0_loadWith_25 k) ?_
  refine ev_s (fun Q k => rn_imul dX0_loadWith_26 k) ?_
  refine ev_s (fun Q k => rn_bipush (v := 100) (by decide) dX0_loadWith_27 k) ?_
  refine ev_s (fun Q k => rn_idiv (by decide) dX0_loadWith_29 k) ?_
  exact ev_ret (fun Q q => rn_ret q .int rfl rfl dX0_loadWith_30)

set_option maxRecDepth 20000 in
theorem e_X0_loadWith (l : Launch) (E : eE) (d : Nat) (B : Nat) (hB : isF B) (o1 : Nat) (ho1 : okO o1 2 0) (x2 : Int32) (D : dT) : ev l E (d + 1) yX0_loadWith cX0_loadWith 4 (some .int) 0 [(0, .inr (.inr B)), (1, .inr (.inr o1)), (2, .inl x2)] [] D eI (F_X0_loadWith B o1 x2 D) := by
  unfold F_X0_loadWith
  refine ev_s (fun Q k => rn_iload_n (j := 2) 2 rfl rfl dX0_loadWith_0 k) ?_
  refine ev_bindI (as := [.inl x2]) (fun Q Q1 => rn_callSN (as := [.inl x2]) (rest := []) m_X0_78 dX0_loadWith_1 rfl rfl (Nat.le_of_ble_eq_true rfl)) pl_X5_isKind (Nat.le_of_ble_eq_true rfl) rfl (e_X5_isKind l E d x2 D) (fun r1 D2 => ?_)
  refine ev_if (fun Q => rn_if_eq (tgt := 15) dX0_loadWith_4 (by decide)) (fun c4 => ?_) (fun c5 => ?_)
  · refine ev_s (fun Q k => rn_iconst (v := 0) (by decide) dX0_loadWith_15 k) ?_
    refine ev_s (fun Q k => rn_sub (ls' := [(0, .inr (.inr B)), (1, .inr (.inr o1))]) [0, 1] rfl k) ?_
    exact e_X0_loadWith_16 l E d B hB o1 ho1 x2   (0 : Int32) D2
  · refine ev_s (fun Q k => rn_gets (k := 3) (by decide) (by decide) (by decide +kernel) dX0_loadWith_7 k) ?_
    refine ev_s (fun Q k => rn_iload_n (j := 2) 2 rfl rfl dX0_loadWith_10 k) ?_
    refine ev_gd (fun g3 => ?_)
    refine ev_s (fun Q k => rn_siald (by decide) (by decide) (inR_vp g3) dX0_loadWith_11 k) ?_
    refine ev_s (fun Q k => rn_goto (tgt := 16) dX0_loadWith_12 (by decide) k) ?_
    refine ev_s (fun Q k => rn_sub (ls' := [(0, .inr (.inr B)), (1, .inr (.inr o1))]) [0, 1] rfl k) ?_
    exact e_X0_loadWith_16 l E d B hB o1 ho1 x2   (sDat 3 x2.toNatClampNeg) D2

def F_X0_whyNot (B : Nat) (x1 : Int32) (x2 : Int32) (x3 : Int32) (D : dT) : Option (Int32 × dT) := bd (F_X0_hasJob B x1 D) (fun (r1 : Int32) (D2 : dT) => if r1 = 0 then some ((-1 : Int32), D2) else bd (F_X5_isKindOrNone x3 D2) (fun (r3 : Int32) (D4 : dT) => if r3 = 0 then some ((-2 : Int32), D4) else if inR x1 16 then if (D4 (B + 16 + x1.toNatClampNeg) 5) = 0 then bd (F_X0_isCrew B x2 D4) (fun (r6 : Int32) (D7 : dT) => if r6 = 0 then some ((2 : Int32), D7) else bd (F_X0_busyPeople B D7) (fun (r8 : Int32) (D9 : dT) => if (x2 &&& r8) = 0 then if inR x1 16 then bd (F_X0_canHaveStraps B (B + 16 + x1.toNatClampNeg) x3 D9) (fun (r11 : Int32) (D12 : dT) => if r11 = 0 then some ((4 : Int32), D12) else bd (F_X0_strengthOf B x2 D12) (fun (r13 : Int32) (D14 : dT) => if inR x1 16 then bd (F_X0_loadWith B (B + 16 + x1.toNatClampNeg) x3 D14) (fun (r16 : Int32) (D17 : dT) => if r16 ≤ r13 then some ((0 : Int32), D17) else some ((5 : Int32), D17)) else none)) else none else some ((3 : Int32), D9))) else some ((1 : Int32), D4) else none))
set_option maxRecDepth 20000 in
theorem e_X0_whyNot (l : Launch) (E : eE) (d : Nat) (B : Nat) (hB : isF B) (x1 : Int32) (x2 : Int32) (x3 : Int32) (D : dT) : ev l E (d + 2) yX0_whyNot cX0_whyNot 4 (some .int) 0 [(0, .inr (.inr B)), (1, .inl x1), (2, .inl x2), (3, .inl x3)] [] D eI (F_X0_whyNot B x1 x2 x3 D) := by
  unfold F_X0_whyNot
  refine ev_s (fun Q k => rn_aload_n (j := 0) 0 rfl rfl (okO_0 (oF hB)) dX0_whyNot_0 k) ?_
  refine ev_s (fun Q k => rn_iload_n (j := 1) 1 rfl rfl dX0_whyNot_1 k) ?_
  refine ev_bindI (as := [.inr (.inr B), .inl x1]) (fun Q Q1 => rn_callV (as := [.inl x1]) (rest := []) (o := B) m_X0_114 dX0_whyNot_2 (rcv_own (oF hB).1 (oF hB).2.1 (by decide) (okO_1 (oF hB))) rfl rfl (Nat.le_of_ble_eq_true rfl)) pl_X0_hasJob (Nat.le_of_ble_eq_true rfl) rfl (e_X0_hasJob l E (d + 1) B hB x1 D) (fun r1 D2 => ?_)
  refine ev_if (fun Q => rn_if_ne (tgt := 10) dX0_whyNot_5 (by decide)) (fun c30 => ?_) (fun c31 => ?_)
  · refine ev_s (fun Q k => rn_iconst (v := -1) (by decide) dX0_whyNot_8 k) ?_
    exact ev_ret (fun Q q => rn_ret q .int rfl rfl dX0_whyNot_9)
  · refine ev_s (fun Q k => rn_iload_n (j := 3) 3 rfl rfl dX0_whyNot_10 k) ?_
    refine ev_bindI (as := [.inl x3]) (fun Q Q1 => rn_callSN (as := [.inl x3]) (rest := []) m_X0_117 dX0_whyNot_11 rfl rfl (Nat.le_of_ble_eq_true rfl)) pl_X5_isKindOrNone (Nat.le_of_ble_eq_true rfl) rfl (e_X5_isKindOrNone l E d x3 D2) (fun r3 D4 => ?_)
    refine ev_if (fun Q => rn_if_ne (tgt := 20) dX0_whyNot_14 (by decide)) (fun c28 => ?_) (fun c29 => ?_)
    · refine ev_s (fun Q k => rn_bipush (v := -2) (by decide) dX0_whyNot_17 k) ?_
      exact ev_ret (fun Q q => rn_ret q .int rfl rfl dX0_whyNot_19)
    · refine ev_s (fun Q k => rn_aload_n (j := 0) 0 rfl rfl (okO_0 (oF hB)) dX0_whyNot_20 k) ?_
      refine ev_s (fun Q k => rn_getr (q := (B + 5)) f_X0_29 (oF hB).1 (oF hB).2.1 (okO_1 (oF hB)) rfl (rF4 hB) dX0_whyNot_21 k) ?_
      refine ev_s (fun Q k => rn_iload_n (j := 1) 1 rfl rfl dX0_whyNot_24 k) ?_
      refine ev_gd (fun g5 => ?_)
      refine ev_s (fun Q k => rn_aald (q := (B + 16 + x1.toNatClampNeg)) (oF5 hB).1 (oF5 hB).2.1 (by decide) (by decide) (oF5 hB).2.2 (inR_vp g5) (rJ hB g5.2) dX0_whyNot_25 k) ?_
      refine ev_s (fun Q k => rn_geti f_X0_120 (oJ hB g5.2).1 (oJ hB g5.2).2.1 (okO_1 (oJ hB g5.2)) rfl dX0_whyNot_26 k) ?_
      refine ev_if (fun Q => rn_if_eq (tgt := 34) dX0_whyNot_29 (by decide)) (fun c26 => ?_) (fun c27 => ?_)
      · refine ev_s (fun Q k => rn_aload_n (j := 0) 0 rfl rfl (okO_0 (oF hB)) dX0_whyNot_34 k) ?_
        refine ev_s (fun Q k => rn_iload_n (j := 2) 2 rfl rfl dX0_whyNot_35 k) ?_
        refine ev_bindI (as := [.inr (.inr B), .inl x2]) (fun Q Q1 => rn_callV (as := [.inl x2]) (rest := []) (o := B) m_X0_123 dX0_whyNot_36 (rcv_own (oF hB).1 (oF hB).2.1 (by decide) (okO_1 (oF hB))) rfl rfl (Nat.le_of_ble_eq_true rfl)) pl_X0_isCrew (Nat.le_of_ble_eq_true rfl) rfl (e_X0_isCrew l E d B hB x2 D4) (fun r6 D7 => ?_)
        refine ev_if (fun Q => rn_if_ne (tgt := 44) dX0_whyNot_39 (by decide)) (fun c24 => ?_) (fun c25 => ?_)
        · refine ev_s (fun Q k => rn_iconst (v := 2) (by decide) dX0_whyNot_42 k) ?_
          exact ev_ret (fun Q q => rn_ret q .int rfl rfl dX0_whyNot_43)
        · refine ev_s (fun Q k => rn_iload_n (j := 2) 2 rfl rfl dX0_whyNot_44 k) ?_
          refine ev_s (fun Q k => rn_aload_n (j := 0) 0 rfl rfl (okO_0 (oF hB)) dX0_whyNot_45 k) ?_
          refine ev_bindI (as := [.inr (.inr B)]) (fun Q Q1 => rn_callV (as := []) (rest := [.inl x2]) (o := B) m_X0_126 dX0_whyNot_46 (rcv_own (oF hB).1 (oF hB).2.1 (by decide) (okO_1 (oF hB))) rfl rfl (Nat.le_of_ble_eq_true rfl)) pl_X0_busyPeople (Nat.le_of_ble_eq_true rfl) rfl (e_X0_busyPeople l E (d + 1) B hB D7) (fun r8 D9 => ?_)
          refine ev_s (fun Q k => rn_iand dX0_whyNot_49 k) ?_
          refine ev_if (fun Q => rn_if_eq (tgt := 55) dX0_whyNot_50 (by decide)) (fun c22 => ?_) (fun c23 => ?_)
          · refine ev_s (fun Q k => rn_aload_n (j := 0) 0 rfl rfl (okO_0 (oF hB)) dX0_whyNot_55 k) ?_
            refine ev_s (fun Q k => rn_aload_n (j := 0) 0 rfl rfl (okO_0 (oF hB)) dX0_whyNot_56 k) ?_
            refine ev_s (fun Q k => rn_getr (q := (B + 5)) f_X0_29 (oF hB).1 (oF hB).2.1 (okO_1 (oF hB)) rfl (rF4 hB) dX0_whyNot_57 k) ?_
            refine ev_s (fun Q k => rn_iload_n (j := 1) 1 rfl rfl dX0_whyNot_60 k) ?_
            refine ev_gd (fun g10 => ?_)
            refine ev_s (fun Q k => rn_aald (q := (B + 16 + x1.toNatClampNeg)) (oF5 hB).1 (oF5 hB).2.1 (by decide) (by decide) (oF5 hB).2.2 (inR_vp g10) (rJ hB g10.2) dX0_whyNot_61 k) ?_
            refine ev_s (fun Q k => rn_iload_n (j := 3) 3 rfl rfl dX0_whyNot_62 k) ?_
            refine ev_bindI (as := [.inr (.inr B), .inr (.inr (B + 16 + x1.toNatClampNeg)), .inl x3]) (fun Q Q1 => rn_callV (as := [.inr (.inr (B + 16 + x1.toNatClampNeg)), .inl x3]) (rest := []) (o := B) m_X0_130 dX0_whyNot_63 (rcv_own (oF hB).1 (oF hB).2.1 (by decide) (okO_1 (oF hB))) rfl rfl (Nat.le_of_ble_eq_true rfl)) pl_X0_canHaveStraps (Nat.le_of_ble_eq_true rfl) rfl (e_X0_canHaveStraps l E d B hB (B + 16 + x1.toNatClampNeg) (oJ hB g10.2) x3 D9) (fun r11 D12 => ?_)
            refine ev_if (fun Q => rn_if_ne (tgt := 71) dX0_whyNot_66 (by decide)) (fun c20 => ?_) (fun c21 => ?_)
            · refine ev_s (fun Q k => rn_iconst (v := 4) (by decide) dX0_whyNot_69 k) ?_
              exact ev_ret (fun Q q => rn_ret q .int rfl rfl dX0_whyNot_70)
            · refine ev_s (fun Q k => rn_aload_n (j := 0) 0 rfl rfl (okO_0 (oF hB)) dX0_whyNot_71 k) ?_
              refine ev_s (fun Q k => rn_iload_n (j := 2) 2 rfl rfl dX0_whyNot_72 k) ?_
              refine ev_bindI (as := [.inr (.inr B), .inl x2]) (fun Q Q1 => rn_callV (as := [.inl x2]) (rest := []) (o := B) m_X0_134 dX0_whyNot_73 (rcv_own (oF hB).1 (oF hB).2.1 (by decide) (okO_1 (oF hB))) rfl rfl (Nat.le_of_ble_eq_true rfl)) pl_X0_strengthOf (Nat.le_of_ble_eq_true rfl) rfl (e_X0_strengthOf l E d B hB x2 D12) (fun r13 D14 => ?_)
              refine ev_s (fun Q k => rn_aload_n (j := 0) 0 rfl rfl (okO_0 (oF hB)) dX0_whyNot_76 k) ?_
              refine ev_s (fun Q k => rn_aload_n (j := 0) 0 rfl rfl (okO_0 (oF hB)) dX0_whyNot_77 k) ?_
              refine ev_s (fun Q k => rn_getr (q := (B + 5)) f_X0_29 (oF hB).1 (oF hB).2.1 (okO_1 (oF hB)) rfl (rF4 hB) dX0_whyNot_78 k) ?_
              refine ev_s (fun Q k => rn_iload_n (j := 1) 1 rfl rfl dX0_whyNot_81 k) ?_
              refine ev_gd (fun g15 => ?_)
              refine ev_s (fun Q k => rn_aald (q := (B + 16 + x1.toNatClampNeg)) (oF5 hB).1 (oF5 hB).2.1 (by decide) (by decide) (oF5 hB).2.2 (inR_vp g15) (rJ hB g15.2) dX0_whyNot_82 k) ?_
              refine ev_s (fun Q k => rn_iload_n (j := 3) 3 rfl rfl dX0_whyNot_83 k) ?_
              refine ev_bindI (as := [.inr (.inr B), .inr (.inr (B + 16 + x1.toNatClampNeg)), .inl x3]) (fun Q Q1 => rn_callV (as := [.inr (.inr (B + 16 + x1.toNatClampNeg)), .inl x3]) (rest := [.inl r13]) (o := B) m_X0_137 dX0_whyNot_84 (rcv_own (oF hB).1 (oF hB).2.1 (by decide) (okO_1 (oF hB))) rfl rfl (Nat.le_of_ble_eq_true rfl)) pl_X0_loadWith (Nat.le_of_ble_eq_true rfl) rfl (e_X0_loadWith l E d B hB (B + 16 + x1.toNatClampNeg) (oJ hB g15.2) x3 D14) (fun r16 D17 => ?_)
              refine ev_if (fun Q => rn_icmp_ge (tgt := 94) dX0_whyNot_87 (by decide)) (fun c18 => ?_) (fun c19 => ?_)
              · refine ev_s (fun Q k => rn_iconst (v := 0) (by decide) dX0_whyNot_94 k) ?_
                exact ev_ret (fun Q q => rn_ret q .int rfl rfl dX0_whyNot_95)
              · refine ev_s (fun Q k => rn_iconst (v := 5) (by decide) dX0_whyNot_90 k) ?_
                refine ev_s (fun Q k => rn_goto (tgt := 95) dX0_whyNot_91 (by decide) k) ?_
                exact ev_ret (fun Q q => rn_ret q .int rfl rfl dX0_whyNot_95)
          · refine ev_s (fun Q k => rn_iconst (v := 3) (by decide) dX0_whyNot_53 k) ?_
            exact ev_ret (fun Q q => rn_ret q .int rfl rfl dX0_whyNot_54)
      · refine ev_s (fun Q k => rn_iconst (v := 1) (by decide) dX0_whyNot_32 k) ?_
        exact ev_ret (fun Q q => rn_ret q .int rfl rfl dX0_whyNot_33)

def F_X0_placeCrew_2 (fuel : Nat) (B : Nat) (x1 : Int32) (x2 : Int32)  (v3 : Int32) (D : dT) : Option (Int32 × dT) := match fuel with
  | 0 => none
  | fu + 1 => if (D B 5) ≤ v3 then some ((0 : Int32), D) else bd (F_X5_isIn v3 x1 D) (fun (r1 : Int32) (D2 : dT) => if r1 = 0 then F_X0_placeCrew_2 fu B x1 x2 (v3 + (1 : Int32)) D2 else if inR v3 10 then F_X0_placeCrew_2 fu B x1 x2 (v3 + (1 : Int32)) (up2 D2 (B + 6 + v3.toNatClampNeg) 2 x2) else none)
def F_X0_placeCrew (B : Nat) (x1 : Int32) (x2 : Int32) (D : dT) : Option (Int32 × dT) := F_X0_placeCrew_2 lim B x1 x2 (0 : Int32) D
set_option maxRecDepth 20000 in
theorem e_X0_placeCrew_2 (l : Launch) (E : eE) (d : Nat) (B : Nat) (hB : isF B) (x1 : Int32) (x2 : Int32)  (fuel : Nat) : ∀ (v3 : Int32) (D : dT), ev l E (d + 1) yX0_placeCrew cX0_placeCrew 4 none 2 [(0, .inr (.inr B)), (1, .inl x1), (2, .inl x2), (3, .inl v3)] [] D eU (F_X0_placeCrew_2 fuel B x1 x2 v3 D) := by
  induction fuel with
  | zero =>
    intro v3 D
    exact ev_none
  | succ fu ih =>
    intro v3 D
    rw [F_X0_placeCrew_2]
    refine ev_s (fun Q k => rn_iload_n (j := 3) 3 rfl rfl dX0_placeCrew_2 k) ?_
    refine ev_s (fun Q k => rn_aload_n (j := 0) 0 rfl rfl (okO_0 (oF hB)) dX0_placeCrew_3 k) ?_
    refine ev_s (fun Q k => rn_geti f_X0_41 (oF hB).1 (oF hB).2.1 (okO_1 (oF hB)) rfl dX0_placeCrew_4 k) ?_
    refine ev_if (fun Q => rn_icmp_ge (tgt := 34) dX0_placeCrew_7 (by decide)) (fun c6 => ?_) (fun c7 => ?_)
    · exact ev_ret (fun Q q => rn_retv q rfl dX0_placeCrew_34)
    · refine ev_s (fun Q k => rn_iload_n (j := 3) 3 rfl rfl dX0_placeCrew_10 k) ?_
      refine ev_s (fun Q k => rn_iload_n (j := 1) 1 rfl rfl dX0_placeCrew_11 k) ?_
      refine ev_bindI (as := [.inl v3, .inl x1]) (fun Q Q1 => rn_callSN (as := [.inl v3, .inl x1]) (rest := []) m_X0_101 dX0_placeCrew_12 rfl rfl (Nat.le_of_ble_eq_true rfl)) pl_X5_isIn (Nat.le_of_ble_eq_true rfl) rfl (e_X5_isIn l E d v3 x1 D) (fun r1 D2 => ?_)
      refine ev_if (fun Q => rn_if_eq (tgt := 28) dX0_placeCrew_15 (by decide)) (fun c4 => ?_) (fun c5 => ?_)
      · refine ev_s (fun Q k => rn_iinc (v := (v3 + (1 : Int32))) (ls' := [(3, .inl (v3 + (1 : Int32))), (0, .inr (.inr B)), (1, .inl x1), (2, .inl x2)]) 3 rfl rfl (by decide) rfl dX0_placeCrew_28 k) ?_
        refine ev_s (fun Q k => rn_goto (tgt := 2) dX0_placeCrew_31 (by decide) k) ?_
        refine ev_s (fun Q k => rn_sub (ls' := [(0, .inr (.inr B)), (1, .inl x1), (2, .inl x2), (3, .inl (v3 + (1 : Int32)))]) [1, 2, 3, 0] rfl k) ?_
        exact ih (v3 + (1 : Int32)) D2
      · refine ev_s (fun Q k => rn_aload_n (j := 0) 0 rfl rfl (okO_0 (oF hB)) dX0_placeCrew_18 k) ?_
        refine ev_s (fun Q k => rn_getr (q := (B + 4)) f_X0_23 (oF hB).1 (oF hB).2.1 (okO_1 (oF hB)) rfl (rF3 hB) dX0_placeCrew_19 k) ?_
        refine ev_s (fun Q k => rn_iload_n (j := 3) 3 rfl rfl dX0_placeCrew_22 k) ?_
        refine ev_gd (fun g3 => ?_)
        refine ev_s (fun Q k => rn_aald (q := (B + 6 + v3.toNatClampNeg)) (oF4 hB).1 (oF4 hB).2.1 (by decide) (by decide) (oF4 hB).2.2 (inR_vp g3) (rP hB g3.2) dX0_placeCrew_23 k) ?_
        refine ev_s (fun Q k => rn_iload_n (j := 2) 2 rfl rfl dX0_placeCrew_24 k) ?_
        refine ev_s (fun Q k => rn_puti f_X0_98 (oP hB g3.2).1 (oP hB g3.2).2.1 (okO_1 (oP hB g3.2)) rfl rfl rfl rfl dX0_placeCrew_25 k) ?_
        refine ev_s (fun Q k => rn_iinc (v := (v3 + (1 : Int32))) (ls' := [(3, .inl (v3 + (1 : Int32))), (0, .inr (.inr B)), (1, .inl x1), (2, .inl x2)]) 3 rfl rfl (by decide) rfl dX0_placeCrew_28 k) ?_
        refine ev_s (fun Q k => rn_goto (tgt := 2) dX0_placeCrew_31 (by decide) k) ?_
        refine ev_s (fun Q k => rn_sub (ls' := [(0, .inr (.inr B)), (1, .inl x1), (2, .inl x2), (3, .inl (v3 + (1 : Int32)))]) [1, 2, 3, 0] rfl k) ?_
        exact ih (v3 + (1 : Int32)) (up2 D2 (B + 6 + v3.toNatClampNeg) 2 x2)

set_option maxRecDepth 20000 in
theorem e_X0_placeCrew (l : Launch) (E : eE) (d : Nat) (B : Nat) (hB : isF B) (x1 : Int32) (x2 : Int32) (D : dT) : ev l E (d + 1) yX0_placeCrew cX0_placeCrew 4 none 0 [(0, .inr (.inr B)), (1, .inl x1), (2, .inl x2)] [] D eU (F_X0_placeCrew B x1 x2 D) := by
  unfold F_X0_placeCrew
  refine ev_s (fun Q k => rn_iconst (v := 0) (by decide) dX0_placeCrew_0 k) ?_
  refine ev_s (fun Q k => rn_istore_n (j := 3) (ls' := [(3, .inl (0 : Int32)), (0, .inr (.inr B)), (1, .inl x1), (2, .inl x2)]) rfl (by decide) rfl dX0_placeCrew_1 k) ?_
  refine ev_s (fun Q k => rn_sub (ls' := [(0, .inr (.inr B)), (1, .inl x1), (2, .inl x2), (3, .inl (0 : Int32))]) [1, 2, 3, 0] rfl k) ?_
  exact e_X0_placeCrew_2 l E d B hB x1 x2  lim (0 : Int32) D

def F_X0_beginJob_82 (B : Nat) (x1 : Int32) (x2 : Int32) (x3 : Int32)  (o5v : Nat) (D : dT) : Option (Int32 × dT) := bd (F_X0_placeCrew B x2 x1 D) (fun (r1 : Int32) (D2 : dT) => some ((D2 o5v 6), D2))
def F_X0_beginJob (B : Nat) (x1 : Int32) (x2 : Int32) (x3 : Int32) (D : dT) : Option (Int32 × dT) := bd (F_X0_whyNot B x1 x2 x3 D) (fun (r1 : Int32) (D2 : dT) => if r1 = 0 then if inR x1 16 then bd (F_X0_loadWith B (B + 16 + x1.toNatClampNeg) x3 D2) (fun (r4 : Int32) (D5 : dT) => bd (F_X5_isKind x3 (up2 (up2 (up2 (up2 D5 (B + 16 + x1.toNatClampNeg) 6 r4) (B + 16 + x1.toNatClampNeg) 5 (1 : Int32)) (B + 16 + x1.toNatClampNeg) 7 x2) (B + 16 + x1.toNatClampNeg) 8 x3)) (fun (r6 : Int32) (D7 : dT) => if r6 = 0 then F_X0_beginJob_82 B x1 x2 x3 (B + 16 + x1.toNatClampNeg) D7 else if inR x3 3 then if inR x3 3 then F_X0_beginJob_82 B x1 x2 x3 (B + 16 + x1.toNatClampNeg) (up2 D7 (B + 3) x3.toNatClampNeg ((D7 (B + 3) x3.toNatClampNeg) - (1 : Int32))) else none else none)) else none else if 0 ≤ r1 then some ((-5 : Int32), D2) else some (r1, D2))
set_option maxRecDepth 20000 in
theorem e_X0_beginJob_82 (l : Launch) (E : eE) (d : Nat) (B : Nat) (hB : isF B) (x1 : Int32) (x2 : Int32) (x3 : Int32)  (o5v : Nat) (ho5v : okO o5v 2 0) (D : dT) : ev l E (d + 3) yX0_beginJob cX0_beginJob 6 (some .int) 82 [(0, .inr (.inr B)), (1, .inl x1), (2, .inl x2), (5, .inr (.inr o5v))] [] D eI (F_X0_beginJob_82 B x1 x2 x3 o5v D) := by
  unfold F_X0_beginJob_82
  refine ev_s (fun Q k => rn_aload_n (j := 0) 0 rfl rfl (okO_0 (oF hB)) dX0_beginJob_82 k) ?_
  refine ev_s (fun Q k => rn_iload_n (j := 2) 2 rfl rfl dX0_beginJob_83 k) ?_
  refine ev_s (fun Q k => rn_iload_n (j := 1) 1 rfl rfl dX0_beginJob_84 k) ?_
  refine ev_bindU (as := [.inr (.inr B), .inl x2, .inl x1]) (fun Q Q1 => rn_callV (as := [.inl x2, .inl x1]) (rest := []) (o := B) m_X0_163 dX0_beginJob_85 (rcv_own (oF hB).1 (oF hB).2.1 (by decide) (okO_1 (oF hB))) rfl rfl (Nat.le_of_ble_eq_true rfl)) pl_X0_placeCrew (Nat.le_of_ble_eq_true rfl) rfl (e_X0_placeCrew l E (d + 1) B hB x2 x1 D) (fun r1 D2 => ?_)
  refine ev_s (fun Q k => rn_aload (j := 5) 3 rfl (okO_0 ho5v) dX0_beginJob_88 k) ?_
  refine ev_s (fun Q k => rn_geti f_X0_154 ho5v.1 ho5v.2.1 (okO_1 ho5v) rfl dX0_beginJob_90 k) ?_
  exact ev_ret (fun Q q => rn_ret q .int rfl rfl dX0_beginJob_93)

set_option maxRecDepth 20000 in
theorem e_X0_beginJob (l : Launch) (E : eE) (d : Nat) (B : Nat) (hB : isF B) (x1 : Int32) (x2 : Int32) (x3 : Int32) (D : dT) : ev l E (d + 3) yX0_beginJob cX0_beginJob 6 (some .int) 0 [(0, .inr (.inr B)), (1, .inl x1), (2, .inl x2), (3, .inl x3)] [] D eI (F_X0_beginJob B x1 x2 x3 D) := by
  unfold F_X0_beginJob
  refine ev_s (fun Q k => rn_aload_n (j := 0) 0 rfl rfl (okO_0 (oF hB)) dX0_beginJob_0 k) ?_
  refine ev_s (fun Q k => rn_iload_n (j := 1) 1 rfl rfl dX0_beginJob_1 k) ?_
  refine ev_s (fun Q k => rn_iload_n (j := 2) 2 rfl rfl dX0_beginJob_2 k) ?_
  refine ev_s (fun Q k => rn_iload_n (j := 3) 3 rfl rfl dX0_beginJob_3 k) ?_
  refine ev_bindI (as := [.inr (.inr B), .inl x1, .inl x2, .inl x3]) (fun Q Q1 => rn_callV (as := [.inl x1, .inl x2, .inl x3]) (rest := []) (o := B) m_X0_150 dX0_beginJob_4 (rcv_own (oF hB).1 (oF hB).2.1 (by decide) (okO_1 (oF hB))) rfl rfl (Nat.le_of_ble_eq_true rfl)) pl_X0_whyNot (Nat.le_of_ble_eq_true rfl) rfl (e_X0_whyNot l E d B hB x1 x2 x3 D) (fun r1 D2 => ?_)
  refine ev_s (fun Q k => rn_istore (j := 4) (ls' := [(4, .inl r1), (0, .inr (.inr B)), (1, .inl x1), (2, .inl x2), (3, .inl x3)]) (by decide) rfl dX0_beginJob_7 k) ?_
  refine ev_s (fun Q k => rn_iload (j := 4) 0 rfl dX0_beginJob_9 k) ?_
  refine ev_if (fun Q => rn_if_eq (tgt := 27) dX0_beginJob_11 (by decide)) (fun c14 => ?_) (fun c15 => ?_)
  · refine ev_s (fun Q k => rn_aload_n (j := 0) 1 rfl rfl (okO_0 (oF hB)) dX0_beginJob_27 k) ?_
    refine ev_s (fun Q k => rn_getr (q := (B + 5)) f_X0_29 (oF hB).1 (oF hB).2.1 (okO_1 (oF hB)) rfl (rF4 hB) dX0_beginJob_28 k) ?_
    refine ev_s (fun Q k => rn_iload_n (j := 1) 2 rfl rfl dX0_beginJob_31 k) ?_
    refine ev_gd (fun g3 => ?_)
    refine ev_s (fun Q k => rn_aald (q := (B + 16 + x1.toNatClampNeg)) (oF5 hB).1 (oF5 hB).2.1 (by decide) (by decide) (oF5 hB).2.2 (inR_vp g3) (rJ hB g3.2) dX0_beginJob_32 k) ?_
    refine ev_s (fun Q k => rn_astore (j := 5) (ls' := [(5, .inr (.inr (B + 16 + x1.toNatClampNeg))), (4, .inl r1), (0, .inr (.inr B)), (1, .inl x1), (2, .inl x2), (3, .inl x3)]) (by decide) (okO_0 (oJ hB g3.2)) rfl dX0_beginJob_33 k) ?_
    refine ev_s (fun Q k => rn_aload (j := 5) 0 rfl (okO_0 (oJ hB g3.2)) dX0_beginJob_35 k) ?_
    refine ev_s (fun Q k => rn_aload_n (j := 0) 2 rfl rfl (okO_0 (oF hB)) dX0_beginJob_37 k) ?_
    refine ev_s (fun Q k => rn_aload (j := 5) 0 rfl (okO_0 (oJ hB g3.2)) dX0_beginJob_38 k) ?_
    refine ev_s (fun Q k => rn_iload_n (j := 3) 5 rfl rfl dX0_beginJob_40 k) ?_
    refine ev_bindI (as := [.inr (.inr B), .inr (.inr (B + 16 + x1.toNatClampNeg)), .inl x3]) (fun Q Q1 => rn_callV (as := [.inr (.inr (B + 16 + x1.toNatClampNeg)), .inl x3]) (rest := [.inr (.inr (B + 16 + x1.toNatClampNeg))]) (o := B) m_X0_137 dX0_beginJob_41 (rcv_own (oF hB).1 (oF hB).2.1 (by decide) (okO_1 (oF hB))) rfl rfl (Nat.le_of_ble_eq_true rfl)) pl_X0_loadWith (Nat.le_of_ble_eq_true rfl) rfl (e_X0_loadWith l E (d + 1) B hB (B + 16 + x1.toNatClampNeg) (oJ hB g3.2) x3 D2) (fun r4 D5 => ?_)
    refine ev_s (fun Q k => rn_puti f_X0_154 (oJ hB g3.2).1 (oJ hB g3.2).2.1 (okO_1 (oJ hB g3.2)) rfl rfl rfl rfl dX0_beginJob_44 k) ?_
    refine ev_s (fun Q k => rn_aload (j := 5) 0 rfl (okO_0 (oJ hB g3.2)) dX0_beginJob_47 k) ?_
    refine ev_s (fun Q k => rn_iconst (v := 1) (by decide) dX0_beginJob_49 k) ?_
    refine ev_s (fun Q k => rn_puti f_X0_120 (oJ hB g3.2).1 (oJ hB g3.2).2.1 (okO_1 (oJ hB g3.2)) rfl rfl rfl rfl dX0_beginJob_50 k) ?_
    refine ev_s (fun Q k => rn_aload (j := 5) 0 rfl (okO_0 (oJ hB g3.2)) dX0_beginJob_53 k) ?_
    refine ev_s (fun Q k => rn_iload_n (j := 2) 4 rfl rfl dX0_beginJob_55 k) ?_
    refine ev_s (fun Q k => rn_puti f_X0_157 (oJ hB g3.2).1 (oJ hB g3.2).2.1 (okO_1 (oJ hB g3.2)) rfl rfl rfl rfl dX0_beginJob_56 k) ?_
    refine ev_s (fun Q k => rn_aload (j := 5) 0 rfl (okO_0 (oJ hB g3.2)) dX0_beginJob_59 k) ?_
    refine ev_s (fun Q k => rn_iload_n (j := 3) 5 rfl rfl dX0_beginJob_61 k) ?_
    refine ev_s (fun Q k => rn_puti f_X0_160 (oJ hB g3.2).1 (oJ hB g3.2).2.1 (okO_1 (oJ hB g3.2)) rfl rfl rfl rfl dX0_beginJob_62 k) ?_
    refine ev_s (fun Q k => rn_iload_n (j := 3) 5 rfl rfl dX0_beginJob_65 k) ?_
    refine ev_bindI (as := [.inl x3]) (fun Q Q1 => rn_callSN (as := [.inl x3]) (rest := []) m_X0_78 dX0_beginJob_66 rfl rfl (Nat.le_of_ble_eq_true rfl)) pl_X5_isKind (Nat.le_of_ble_eq_true rfl) rfl (e_X5_isKind l E (d + 2) x3 (up2 (up2 (up2 (up2 D5 (B + 16 + x1.toNatClampNeg) 6 r4) (B + 16 + x1.toNatClampNeg) 5 (1 : Int32)) (B + 16 + x1.toNatClampNeg) 7 x2) (B + 16 + x1.toNatClampNeg) 8 x3)) (fun r6 D7 => ?_)
    refine ev_if (fun Q => rn_if_eq (tgt := 82) dX0_beginJob_69 (by decide)) (fun c10 => ?_) (fun c11 => ?_)
    · refine ev_s (fun Q k => rn_sub (ls' := [(0, .inr (.inr B)), (1, .inl x1), (2, .inl x2), (5, .inr (.inr (B + 16 + x1.toNatClampNeg)))]) [2, 3, 4, 0] rfl k) ?_
      exact e_X0_beginJob_82 l E d B hB x1 x2 x3   (B + 16 + x1.toNatClampNeg) (oJ hB g3.2) D7
    · refine ev_s (fun Q k => rn_aload_n (j := 0) 2 rfl rfl (okO_0 (oF hB)) dX0_beginJob_72 k) ?_
      refine ev_s (fun Q k => rn_getr (q := (B + 3)) f_X0_18 (oF hB).1 (oF hB).2.1 (okO_1 (oF hB)) rfl (rF2 hB) dX0_beginJob_73 k) ?_
      refine ev_s (fun Q k => rn_iload_n (j := 3) 5 rfl rfl dX0_beginJob_76 k) ?_
      refine ev_s (fun Q k => rn_dup2 rfl rfl dX0_beginJob_77 k) ?_
      refine ev_gd (fun g8 => ?_)
      refine ev_s (fun Q k => rn_iald (oF3 hB).1 (oF3 hB).2.1 (oF3 hB).2.2 (inR_vp g8) dX0_beginJob_78 k) ?_
      refine ev_s (fun Q k => rn_iconst (v := 1) (by decide) dX0_beginJob_79 k) ?_
      refine ev_s (fun Q k => rn_isub dX0_beginJob_80 k) ?_
      refine ev_gd (fun g9 => ?_)
      refine ev_s (fun Q k => rn_iast (oF3 hB).1 (oF3 hB).2.1 (oF3 hB).2.2 (inR_vp g9) dX0_beginJob_81 k) ?_
      refine ev_s (fun Q k => rn_sub (ls' := [(0, .inr (.inr B)), (1, .inl x1), (2, .inl x2), (5, .inr (.inr (B + 16 + x1.toNatClampNeg)))]) [2, 3, 4, 0] rfl k) ?_
      exact e_X0_beginJob_82 l E d B hB x1 x2 x3   (B + 16 + x1.toNatClampNeg) (oJ hB g3.2) (up2 D7 (B + 3) x3.toNatClampNeg ((D7 (B + 3) x3.toNatClampNeg) - (1 : Int32)))
  · refine ev_s (fun Q k => rn_iload (j := 4) 0 rfl dX0_beginJob_14 k) ?_
    refine ev_if (fun Q => rn_if_ge (tgt := 24) dX0_beginJob_16 (by decide)) (fun c12 => ?_) (fun c13 => ?_)
    · refine ev_s (fun Q k => rn_bipush (v := -5) (by decide) dX0_beginJob_24 k) ?_
      exact ev_ret (fun Q q => rn_ret q .int rfl rfl dX0_beginJob_26)
    · refine ev_s (fun Q k => rn_iload (j := 4) 0 rfl dX0_beginJob_19 k) ?_
      refine ev_s (fun Q k => rn_goto (tgt := 26) dX0_beginJob_21 (by decide) k) ?_
      exact ev_ret (fun Q q => rn_ret q .int rfl rfl dX0_beginJob_26)

def F_X5_begin (x1 : Int32) (x2 : Int32) (x3 : Int32) (D : dT) : Option (Int32 × dT) := bd (F_X1_note 19 D) (fun (r1 : Int32) (D2 : dT) => bd (F_X0_beginJob 19 x1 x2 x3 D2) (fun (r3 : Int32) (D4 : dT) => bd (F_X1_keepUnlessError r3 D4) (fun (r5 : Int32) (D6 : dT) => some (r5, D6))))
set_option maxRecDepth 20000 in
theorem e_X5_begin (l : Launch) (E : eE) (d : Nat) (x1 : Int32) (x2 : Int32) (x3 : Int32) (D : dT) : ev l E (d + 4) yX5_begin cX5_begin 4 (some .int) 0 [(0, .inr (.inr 18)), (1, .inl x1), (2, .inl x2), (3, .inl x3)] [] D eI (F_X5_begin x1 x2 x3 D) := by
  unfold F_X5_begin
  refine ev_s (fun Q k => rn_aload_n (j := 0) 0 rfl rfl (okO_0 ok_18) dX5_begin_0 k) ?_
  refine ev_s (fun Q k => rn_getr (q := 85) f_X5_30 ok_18.1 ok_18.2.1 (okO_1 ok_18) rfl rfl dX5_begin_1 k) ?_
  refine ev_s (fun Q k => rn_aload_n (j := 0) 0 rfl rfl (okO_0 ok_18) dX5_begin_4 k) ?_
  refine ev_s (fun Q k => rn_getr (q := 19) f_X5_10 ok_18.1 ok_18.2.1 (okO_1 ok_18) rfl rfl dX5_begin_5 k) ?_
  refine ev_bindU (as := [.inr (.inr 85), .inr (.inr 19)]) (fun Q Q1 => rn_callV (as := [.inr (.inr 19)]) (rest := []) (o := 85) m_X5_41 dX5_begin_8 (rcv_own ok_85.1 ok_85.2.1 (by decide) (okO_1 ok_85)) rfl rfl (Nat.le_of_ble_eq_true rfl)) pl_X1_note (Nat.le_of_ble_eq_true rfl) rfl (e_X1_note l E (d + 1) 19 isF_19 D) (fun r1 D2 => ?_)
  refine ev_s (fun Q k => rn_aload_n (j := 0) 0 rfl rfl (okO_0 ok_18) dX5_begin_11 k) ?_
  refine ev_s (fun Q k => rn_getr (q := 85) f_X5_30 ok_18.1 ok_18.2.1 (okO_1 ok_18) rfl rfl dX5_begin_12 k) ?_
  refine ev_s (fun Q k => rn_aload_n (j := 0) 0 rfl rfl (okO_0 ok_18) dX5_begin_15 k) ?_
  refine ev_s (fun Q k => rn_getr (q := 19) f_X5_10 ok_18.1 ok_18.2.1 (okO_1 ok_18) rfl rfl dX5_begin_16 k) ?_
  refine ev_s (fun Q k => rn_iload_n (j := 1) 1 rfl rfl dX5_begin_19 k) ?_
  refine ev_s (fun Q k => rn_iload_n (j := 2) 2 rfl rfl dX5_begin_20 k) ?_
  refine ev_s (fun Q k => rn_iload_n (j := 3) 3 rfl rfl dX5_begin_21 k) ?_
  refine ev_bindI (as := [.inr (.inr 19), .inl x1, .inl x2, .inl x3]) (fun Q Q1 => rn_callV (as := [.inl x1, .inl x2, .inl x3]) (rest := [.inr (.inr 85)]) (o := 19) m_X5_63 dX5_begin_22 (rcv_own (oF isF_19).1 (oF isF_19).2.1 (by decide) (okO_1 (oF isF_19))) rfl rfl (Nat.le_of_ble_eq_true rfl)) pl_X0_beginJob (Nat.le_of_ble_eq_true rfl) rfl (e_X0_beginJob l E d 19 isF_19 x1 x2 x3 D2) (fun r3 D4 => ?_)
  refine ev_bindI (as := [.inr (.inr 85), .inl r3]) (fun Q Q1 => rn_callV (as := [.inl r3]) (rest := []) (o := 85) m_X5_49 dX5_begin_25 (rcv_own ok_85.1 ok_85.2.1 (by decide) (okO_1 ok_85)) rfl rfl (Nat.le_of_ble_eq_true rfl)) pl_X1_keepUnlessError (Nat.le_of_ble_eq_true rfl) rfl (e_X1_keepUnlessError l E (d + 1) r3 D4) (fun r5 D6 => ?_)
  exact ev_ret (fun Q q => rn_ret q .int rfl rfl dX5_begin_28)

def F_X2_isAheadOfLater (o : Nat) (o1 : Nat) (D : dT) : Option (Int32 × dT) := if (D o 3) = (D o1 3) then if (D o1 4) < (D o 4) then some ((0 : Int32), D) else some ((1 : Int32), D) else if (D o 3) ≤ (D o1 3) then some ((0 : Int32), D) else some ((1 : Int32), D)
set_option maxRecDepth 20000 in
theorem e_X2_isAheadOfLater (l : Launch) (E : eE) (d : Nat) (o : Nat) (ho : okO o 2 0) (o1 : Nat) (ho1 : okO o1 2 0) (D : dT) : ev l E d yX2_isAheadOfLater cX2_isAheadOfLater 2 (some .boolean) 0 [(0, .inr (.inr o)), (1, .inr (.inr o1))] [] D eI (F_X2_isAheadOfLater o o1 D) := by
  unfold F_X2_isAheadOfLater
  refine ev_s (fun Q k => rn_aload_n (j := 0) 0 rfl rfl (okO_0 ho) dX2_isAheadOfLater_0 k) ?_
  refine ev_s (fun Q k => rn_geti f_X2_21 ho.1 ho.2.1 (okO_1 ho) rfl dX2_isAheadOfLater_1 k) ?_
  refine ev_s (fun Q k => rn_aload_n (j := 1) 1 rfl rfl (okO_0 ho1) dX2_isAheadOfLater_4 k) ?_
  refine ev_s (fun Q k => rn_geti f_X2_21 ho1.1 ho1.2.1 (okO_1 ho1) rfl dX2_isAheadOfLater_5 k) ?_
  refine ev_if (fun Q => rn_icmp_eq (tgt := 30) dX2_isAheadOfLater_8 (by decide)) (fun c5 => ?_) (fun c6 => ?_)
  · refine ev_s (fun Q k => rn_aload_n (j := 0) 0 rfl rfl (okO_0 ho) dX2_isAheadOfLater_30 k) ?_
    refine ev_s (fun Q k => rn_geti f_X2_24 ho.1 ho.2.1 (okO_1 ho) rfl dX2_isAheadOfLater_31 k) ?_
    refine ev_s (fun Q k => rn_aload_n (j := 1) 1 rfl rfl (okO_0 ho1) dX2_isAheadOfLater_34 k) ?_
    refine ev_s (fun Q k => rn_geti f_X2_24 ho1.1 ho1.2.1 (okO_1 ho1) rfl dX2_isAheadOfLater_35 k) ?_
    refine ev_if (fun Q => rn_icmp_gt (tgt := 45) dX2_isAheadOfLater_38 (by decide)) (fun c1 => ?_) (fun c2 => ?_)
    · refine ev_s (fun Q k => rn_iconst (v := 0) (by decide) dX2_isAheadOfLater_45 k) ?_
      exact ev_ret (fun Q q => rn_ret q .boolean rfl rfl dX2_isAheadOfLater_46)
    · refine ev_s (fun Q k => rn_iconst (v := 1) (by decide) dX2_isAheadOfLater_41 k) ?_
      refine ev_s (fun Q k => rn_goto (tgt := 46) dX2_isAheadOfLater_42 (by decide) k) ?_
      exact ev_ret (fun Q q => rn_ret q .boolean rfl rfl dX2_isAheadOfLater_46)
  · refine ev_s (fun Q k => rn_aload_n (j := 0) 0 rfl rfl (okO_0 ho) dX2_isAheadOfLater_11 k) ?_
    refine ev_s (fun Q k => rn_geti f_X2_21 ho.1 ho.2.1 (okO_1 ho) rfl dX2_isAheadOfLater_12 k) ?_
    refine ev_s (fun Q k => rn_aload_n (j := 1) 1 rfl rfl (okO_0 ho1) dX2_isAheadOfLater_15 k) ?_
    refine ev_s (fun Q k => rn_geti f_X2_21 ho1.1 ho1.2.1 (okO_1 ho1) rfl dX2_isAheadOfLater_16 k) ?_
    refine ev_if (fun Q => rn_icmp_le (tgt := 26) dX2_isAheadOfLater_19 (by decide)) (fun c3 => ?_) (fun c4 => ?_)
    · refine ev_s (fun Q k => rn_iconst (v := 0) (by decide) dX2_isAheadOfLater_26 k) ?_
      refine ev_s (fun Q k => rn_goto (tgt := 46) dX2_isAheadOfLater_27 (by decide) k) ?_
      exact ev_ret (fun Q q => rn_ret q .boolean rfl rfl dX2_isAheadOfLater_46)
    · refine ev_s (fun Q k => rn_iconst (v := 1) (by decide) dX2_isAheadOfLater_22 k) ?_
      refine ev_s (fun Q k => rn_goto (tgt := 46) dX2_isAheadOfLater_23 (by decide) k) ?_
      exact ev_ret (fun Q q => rn_ret q .boolean rfl rfl dX2_isAheadOfLater_46)

def F_X0_isAhead (B : Nat) (x1 : Int32) (x2 : Int32) (D : dT) : Option (Int32 × dT) := if x2 ≤ x1 then if inR x2 16 then if inR x1 16 then bd (F_X2_isAheadOfLater (B + 16 + x2.toNatClampNeg) (B + 16 + x1.toNatClampNeg) D) (fun (r3 : Int32) (D4 : dT) => if r3 = 0 then some ((1 : Int32), D4) else some ((0 : Int32), D4)) else none else none else if inR x1 16 then if inR x2 16 then bd (F_X2_isAheadOfLater (B + 16 + x1.toNatClampNeg) (B + 16 + x2.toNatClampNeg) D) (fun (r9 : Int32) (D10 : dT) => if r9 = 0 ∨ r9 = 1 then some (r9, D10) else none) else none else none
set_option maxRecDepth 20000 in
theorem e_X0_isAhead (l : Launch) (E : eE) (d : Nat) (B : Nat) (hB : isF B) (x1 : Int32) (x2 : Int32) (D : dT) : ev l E (d + 1) yX0_isAhead cX0_isAhead 3 (some .boolean) 0 [(0, .inr (.inr B)), (1, .inl x1), (2, .inl x2)] [] D eI (F_X0_isAhead B x1 x2 D) := by
  unfold F_X0_isAhead
  refine ev_s (fun Q k => rn_iload_n (j := 1) 1 rfl rfl dX0_isAhead_0 k) ?_
  refine ev_s (fun Q k => rn_iload_n (j := 2) 2 rfl rfl dX0_isAhead_1 k) ?_
  refine ev_if (fun Q => rn_icmp_ge (tgt := 23) dX0_isAhead_2 (by decide)) (fun c12 => ?_) (fun c13 => ?_)
  · refine ev_s (fun Q k => rn_aload_n (j := 0) 0 rfl rfl (okO_0 (oF hB)) dX0_isAhead_23 k) ?_
    refine ev_s (fun Q k => rn_getr (q := (B + 5)) f_X0_29 (oF hB).1 (oF hB).2.1 (okO_1 (oF hB)) rfl (rF4 hB) dX0_isAhead_24 k) ?_
    refine ev_s (fun Q k => rn_iload_n (j := 2) 2 rfl rfl dX0_isAhead_27 k) ?_
    refine ev_gd (fun g1 => ?_)
    refine ev_s (fun Q k => rn_aald (q := (B + 16 + x2.toNatClampNeg)) (oF5 hB).1 (oF5 hB).2.1 (by decide) (by decide) (oF5 hB).2.2 (inR_vp g1) (rJ hB g1.2) dX0_isAhead_28 k) ?_
    refine ev_s (fun Q k => rn_aload_n (j := 0) 0 rfl rfl (okO_0 (oF hB)) dX0_isAhead_29 k) ?_
    refine ev_s (fun Q k => rn_getr (q := (B + 5)) f_X0_29 (oF hB).1 (oF hB).2.1 (okO_1 (oF hB)) rfl (rF4 hB) dX0_isAhead_30 k) ?_
    refine ev_s (fun Q k => rn_iload_n (j := 1) 1 rfl rfl dX0_isAhead_33 k) ?_
    refine ev_gd (fun g2 => ?_)
    refine ev_s (fun Q k => rn_aald (q := (B + 16 + x1.toNatClampNeg)) (oF5 hB).1 (oF5 hB).2.1 (by decide) (by decide) (oF5 hB).2.2 (inR_vp g2) (rJ hB g2.2) dX0_isAhead_34 k) ?_
    refine ev_bindI (as := [.inr (.inr (B + 16 + x2.toNatClampNeg)), .inr (.inr (B + 16 + x1.toNatClampNeg))]) (fun Q Q1 => rn_callV (as := [.inr (.inr (B + 16 + x1.toNatClampNeg))]) (rest := []) (o := (B + 16 + x2.toNatClampNeg)) m_X0_176 dX0_isAhead_35 (rcv_own (oJ hB g1.2).1 (oJ hB g1.2).2.1 (by decide) (okO_1 (oJ hB g1.2))) rfl rfl (Nat.le_of_ble_eq_true rfl)) pl_X2_isAheadOfLater (Nat.le_of_ble_eq_true rfl) rfl (e_X2_isAheadOfLater l E d (B + 16 + x2.toNatClampNeg) (oJ hB g1.2) (B + 16 + x1.toNatClampNeg) (oJ hB g2.2) D) (fun r3 D4 => ?_)
    refine ev_if (fun Q => rn_if_ne (tgt := 45) dX0_isAhead_38 (by decide)) (fun c5 => ?_) (fun c6 => ?_)
    · refine ev_s (fun Q k => rn_iconst (v := 1) (by decide) dX0_isAhead_41 k) ?_
      refine ev_s (fun Q k => rn_goto (tgt := 46) dX0_isAhead_42 (by decide) k) ?_
      exact ev_ret (fun Q q => rn_ret q .boolean rfl rfl dX0_isAhead_46)
    · refine ev_s (fun Q k => rn_iconst (v := 0) (by decide) dX0_isAhead_45 k) ?_
      exact ev_ret (fun Q q => rn_ret q .boolean rfl rfl dX0_isAhead_46)
  · refine ev_s (fun Q k => rn_aload_n (j := 0) 0 rfl rfl (okO_0 (oF hB)) dX0_isAhead_5 k) ?_
    refine ev_s (fun Q k => rn_getr (q := (B + 5)) f_X0_29 (oF hB).1 (oF hB).2.1 (okO_1 (oF hB)) rfl (rF4 hB) dX0_isAhead_6 k) ?_
    refine ev_s (fun Q k => rn_iload_n (j := 1) 1 rfl rfl dX0_isAhead_9 k) ?_
    refine ev_gd (fun g7 => ?_)
    refine ev_s (fun Q k => rn_aald (q := (B + 16 + x1.toNatClampNeg)) (oF5 hB).1 (oF5 hB).2.1 (by decide) (by decide) (oF5 hB).2.2 (inR_vp g7) (rJ hB g7.2) dX0_isAhead_10 k) ?_
    refine ev_s (fun Q k => rn_aload_n (j := 0) 0 rfl rfl (okO_0 (oF hB)) dX0_isAhead_11 k) ?_
    refine ev_s (fun Q k => rn_getr (q := (B + 5)) f_X0_29 (oF hB).1 (oF hB).2.1 (okO_1 (oF hB)) rfl (rF4 hB) dX0_isAhead_12 k) ?_
    refine ev_s (fun Q k => rn_iload_n (j := 2) 2 rfl rfl dX0_isAhead_15 k) ?_
    refine ev_gd (fun g8 => ?_)
    refine ev_s (fun Q k => rn_aald (q := (B + 16 + x2.toNatClampNeg)) (oF5 hB).1 (oF5 hB).2.1 (by decide) (by decide) (oF5 hB).2.2 (inR_vp g8) (rJ hB g8.2) dX0_isAhead_16 k) ?_
    refine ev_bindI (as := [.inr (.inr (B + 16 + x1.toNatClampNeg)), .inr (.inr (B + 16 + x2.toNatClampNeg))]) (fun Q Q1 => rn_callV (as := [.inr (.inr (B + 16 + x2.toNatClampNeg))]) (rest := []) (o := (B + 16 + x1.toNatClampNeg)) m_X0_176 dX0_isAhead_17 (rcv_own (oJ hB g7.2).1 (oJ hB g7.2).2.1 (by decide) (okO_1 (oJ hB g7.2))) rfl rfl (Nat.le_of_ble_eq_true rfl)) pl_X2_isAheadOfLater (Nat.le_of_ble_eq_true rfl) rfl (e_X2_isAheadOfLater l E d (B + 16 + x1.toNatClampNeg) (oJ hB g7.2) (B + 16 + x2.toNatClampNeg) (oJ hB g8.2) D) (fun r9 D10 => ?_)
    refine ev_s (fun Q k => rn_goto (tgt := 46) dX0_isAhead_20 (by decide) k) ?_
    refine ev_gd (fun g11 => ?_)
    exact ev_ret (fun Q q => rn_ret q .boolean rfl (nz_b g11) dX0_isAhead_46)

def F_X0_nextWaiting_75 (B : Nat) (x1 : Int32) (k4 : Int32 → Int32 → dT → Option (Int32 × dT)) (v3 : Int32) (D : dT) : Option (Int32 × dT) := k4 v3 (v3 + (1 : Int32)) D
def F_X0_nextWaiting_39 (B : Nat) (x1 : Int32) (k4 : Int32 → Int32 → dT → Option (Int32 × dT)) (v2 : Int32) (v3 : Int32) (s0 : Int32) (D : dT) : Option (Int32 × dT) := if inR v3 16 then if (D (B + 16 + v3.toNatClampNeg) 5) = 0 then if s0 = 0 then k4 v2 (v3 + (1 : Int32)) D else bd (F_X0_hasJob B v2 D) (fun (r2 : Int32) (D3 : dT) => if r2 = 0 then F_X0_nextWaiting_75 B x1 k4 v3 D3 else bd (F_X0_isAhead B v3 v2 D3) (fun (r4 : Int32) (D5 : dT) => if r4 = 0 then k4 v2 (v3 + (1 : Int32)) D5 else F_X0_nextWaiting_75 B x1 k4 v3 D5)) else k4 v2 (v3 + (1 : Int32)) D else none
def F_X0_nextWaiting_34 (B : Nat) (x1 : Int32) (k4 : Int32 → Int32 → dT → Option (Int32 × dT)) (v2 : Int32) (v3 : Int32) (D : dT) : Option (Int32 × dT) := F_X0_nextWaiting_39 B x1 k4 v2 v3 (1 : Int32) D
def F_X0_nextWaiting_38 (B : Nat) (x1 : Int32) (k4 : Int32 → Int32 → dT → Option (Int32 × dT)) (v2 : Int32) (v3 : Int32) (D : dT) : Option (Int32 × dT) := F_X0_nextWaiting_39 B x1 k4 v2 v3 (0 : Int32) D
def F_X0_nextWaiting_4 (fuel : Nat) (B : Nat) (x1 : Int32)  (v2 : Int32) (v3 : Int32) (D : dT) : Option (Int32 × dT) := match fuel with
  | 0 => none
  | fu + 1 => if (D B 6) ≤ v3 then some (v2, D) else bd (F_X0_hasJob B x1 D) (fun (r1 : Int32) (D2 : dT) => if r1 = 0 then F_X0_nextWaiting_34 B x1 (fun (v2_ : Int32) (v3_ : Int32) (D_ : dT) => F_X0_nextWaiting_4 fu B x1 v2_ v3_ D_) v2 v3 D2 else if v3 = x1 then F_X0_nextWaiting_38 B x1 (fun (v2_ : Int32) (v3_ : Int32) (D_ : dT) => F_X0_nextWaiting_4 fu B x1 v2_ v3_ D_) v2 v3 D2 else bd (F_X0_isAhead B x1 v3 D2) (fun (r3 : Int32) (D4 : dT) => if r3 = 0 then F_X0_nextWaiting_38 B x1 (fun (v2_ : Int32) (v3_ : Int32) (D_ : dT) => F_X0_nextWaiting_4 fu B x1 v2_ v3_ D_) v2 v3 D4 else F_X0_nextWaiting_34 B x1 (fun (v2_ : Int32) (v3_ : Int32) (D_ : dT) => F_X0_nextWaiting_4 fu B x1 v2_ v3_ D_) v2 v3 D4))
def F_X0_nextWaiting (B : Nat) (x1 : Int32) (D : dT) : Option (Int32 × dT) := F_X0_nextWaiting_4 lim B x1 (-1 : Int32) (0 : Int32) D
set_option maxRecDepth 20000 in
theorem e_X0_nextWaiting_75 (l : Launch) (E : eE) (d : Nat) (B : Nat) (hB : isF B) (x1 : Int32) (k4 : Int32 → Int32 → dT → Option (Int32 × dT)) (hk4 : ∀ (v2 : Int32) (v3 : Int32) (D : dT), ev l E (d + 2) yX0_nextWaiting cX0_nextWaiting 5 (some .int) 4 [(0, .inr (.inr B)), (1, .inl x1), (2, .inl v2), (3, .inl v3)] [] D eI (k4 v2 v3 D)) (v3 : Int32) (D : dT) : ev l E (d + 2) yX0_nextWaiting cX0_nextWaiting 5 (some .int) 75 [(0, .inr (.inr B)), (1, .inl x1), (3, .inl v3)] [] D eI (F_X0_nextWaiting_75 B x1 k4 v3 D) := by
  unfold F_X0_nextWaiting_75
  refine ev_s (fun Q k => rn_iload_n (j := 3) 2 rfl rfl dX0_nextWaiting_75 k) ?_
  refine ev_s (fun Q k => rn_istore_n (j := 2) (ls' := [(2, .inl v3), (0, .inr (.inr B)), (1, .inl x1), (3, .inl v3)]) rfl (by decide) rfl dX0_nextWaiting_76 k) ?_
  refine ev_s (fun Q k => rn_iinc (v := (v3 + (1 : Int32))) (ls' := [(3, .inl (v3 + (1 : Int32))), (2, .inl v3), (0, .inr (.inr B)), (1, .inl x1)]) 3 rfl rfl (by decide) rfl dX0_nextWaiting_77 k) ?_
  refine ev_s (fun Q k => rn_goto (tgt := 4) dX0_nextWaiting_80 (by decide) k) ?_
  refine ev_s (fun Q k => rn_sub (ls' := [(0, .inr (.inr B)), (1, .inl x1), (2, .inl v3), (3, .inl (v3 + (1 : Int32)))]) [2, 3, 1, 0] rfl k) ?_
  exact hk4 v3 (v3 + (1 : Int32)) D

set_option maxRecDepth 20000 in
theorem e_X0_nextWaiting_39 (l : Launch) (E : eE) (d : Nat) (B : Nat) (hB : isF B) (x1 : Int32) (k4 : Int32 → Int32 → dT → Option (Int32 × dT)) (hk4 : ∀ (v2 : Int32) (v3 : Int32) (D : dT), ev l E (d + 2) yX0_nextWaiting cX0_nextWaiting 5 (some .int) 4 [(0, .inr (.inr B)), (1, .inl x1), (2, .inl v2), (3, .inl v3)] [] D eI (k4 v2 v3 D)) (v2 : Int32) (v3 : Int32) (s0 : Int32) (D : dT) : ev l E (d + 2) yX0_nextWaiting cX0_nextWaiting 5 (some .int) 39 [(0, .inr (.inr B)), (1, .inl x1), (2, .inl v2), (3, .inl v3)] [.inl s0] D eI (F_X0_nextWaiting_39 B x1 k4 v2 v3 s0 D) := by
  unfold F_X0_nextWaiting_39
  refine ev_s (fun Q k => rn_istore (j := 4) (ls' := [(4, .inl s0), (0, .inr (.inr B)), (1, .inl x1), (2, .inl v2), (3, .inl v3)]) (by decide) rfl dX0_nextWaiting_39 k) ?_
  refine ev_s (fun Q k => rn_aload_n (j := 0) 1 rfl rfl (okO_0 (oF hB)) dX0_nextWaiting_41 k) ?_
  refine ev_s (fun Q k => rn_getr (q := (B + 5)) f_X0_29 (oF hB).1 (oF hB).2.1 (okO_1 (oF hB)) rfl (rF4 hB) dX0_nextWaiting_42 k) ?_
  refine ev_s (fun Q k => rn_iload_n (j := 3) 4 rfl rfl dX0_nextWaiting_45 k) ?_
  refine ev_gd (fun g1 => ?_)
  refine ev_s (fun Q k => rn_aald (q := (B + 16 + v3.toNatClampNeg)) (oF5 hB).1 (oF5 hB).2.1 (by decide) (by decide) (oF5 hB).2.2 (inR_vp g1) (rJ hB g1.2) dX0_nextWaiting_46 k) ?_
  refine ev_s (fun Q k => rn_geti f_X0_120 (oJ hB g1.2).1 (oJ hB g1.2).2.1 (okO_1 (oJ hB g1.2)) rfl dX0_nextWaiting_47 k) ?_
  refine ev_if (fun Q => rn_if_ne (tgt := 77) dX0_nextWaiting_50 (by decide)) (fun c12 => ?_) (fun c13 => ?_)
  · refine ev_s (fun Q k => rn_iload (j := 4) 0 rfl dX0_nextWaiting_53 k) ?_
    refine ev_if (fun Q => rn_if_eq (tgt := 77) dX0_nextWaiting_55 (by decide)) (fun c10 => ?_) (fun c11 => ?_)
    · refine ev_s (fun Q k => rn_iinc (v := (v3 + (1 : Int32))) (ls' := [(3, .inl (v3 + (1 : Int32))), (4, .inl s0), (0, .inr (.inr B)), (1, .inl x1), (2, .inl v2)]) 4 rfl rfl (by decide) rfl dX0_nextWaiting_77 k) ?_
      refine ev_s (fun Q k => rn_goto (tgt := 4) dX0_nextWaiting_80 (by decide) k) ?_
      refine ev_s (fun Q k => rn_sub (ls' := [(0, .inr (.inr B)), (1, .inl x1), (2, .inl v2), (3, .inl (v3 + (1 : Int32)))]) [2, 3, 4, 0] rfl k) ?_
      exact hk4 v2 (v3 + (1 : Int32)) D
    · refine ev_s (fun Q k => rn_aload_n (j := 0) 1 rfl rfl (okO_0 (oF hB)) dX0_nextWaiting_58 k) ?_
      refine ev_s (fun Q k => rn_iload_n (j := 2) 3 rfl rfl dX0_nextWaiting_59 k) ?_
      refine ev_bindI (as := [.inr (.inr B), .inl v2]) (fun Q Q1 => rn_callV (as := [.inl v2]) (rest := []) (o := B) m_X0_114 dX0_nextWaiting_60 (rcv_own (oF hB).1 (oF hB).2.1 (by decide) (okO_1 (oF hB))) rfl rfl (Nat.le_of_ble_eq_true rfl)) pl_X0_hasJob (Nat.le_of_ble_eq_true rfl) rfl (e_X0_hasJob l E (d + 1) B hB v2 D) (fun r2 D3 => ?_)
      refine ev_if (fun Q => rn_if_eq (tgt := 75) dX0_nextWaiting_63 (by decide)) (fun c8 => ?_) (fun c9 => ?_)
      · refine ev_s (fun Q k => rn_sub (ls' := [(0, .inr (.inr B)), (1, .inl x1), (3, .inl v3)]) [1, 2, 4] rfl k) ?_
        exact e_X0_nextWaiting_75 l E d B hB x1 k4 hk4  v3 D3
      · refine ev_s (fun Q k => rn_aload_n (j := 0) 1 rfl rfl (okO_0 (oF hB)) dX0_nextWaiting_66 k) ?_
        refine ev_s (fun Q k => rn_iload_n (j := 3) 4 rfl rfl dX0_nextWaiting_67 k) ?_
        refine ev_s (fun Q k => rn_iload_n (j := 2) 3 rfl rfl dX0_nextWaiting_68 k) ?_
        refine ev_bindI (as := [.inr (.inr B), .inl v3, .inl v2]) (fun Q Q1 => rn_callV (as := [.inl v3, .inl v2]) (rest := []) (o := B) m_X0_180 dX0_nextWaiting_69 (rcv_own (oF hB).1 (oF hB).2.1 (by decide) (okO_1 (oF hB))) rfl rfl (Nat.le_of_ble_eq_true rfl)) pl_X0_isAhead (Nat.le_of_ble_eq_true rfl) rfl (e_X0_isAhead l E d B hB v3 v2 D3) (fun r4 D5 => ?_)
        refine ev_if (fun Q => rn_if_eq (tgt := 77) dX0_nextWaiting_72 (by decide)) (fun c6 => ?_) (fun c7 => ?_)
        · refine ev_s (fun Q k => rn_iinc (v := (v3 + (1 : Int32))) (ls' := [(3, .inl (v3 + (1 : Int32))), (4, .inl s0), (0, .inr (.inr B)), (1, .inl x1), (2, .inl v2)]) 4 rfl rfl (by decide) rfl dX0_nextWaiting_77 k) ?_
          refine ev_s (fun Q k => rn_goto (tgt := 4) dX0_nextWaiting_80 (by decide) k) ?_
          refine ev_s (fun Q k => rn_sub (ls' := [(0, .inr (.inr B)), (1, .inl x1), (2, .inl v2), (3, .inl (v3 + (1 : Int32)))]) [2, 3, 4, 0] rfl k) ?_
          exact hk4 v2 (v3 + (1 : Int32)) D5
        · refine ev_s (fun Q k => rn_sub (ls' := [(0, .inr (.inr B)), (1, .inl x1), (3, .inl v3)]) [1, 2, 4] rfl k) ?_
          exact e_X0_nextWaiting_75 l E d B hB x1 k4 hk4  v3 D5
  · refine ev_s (fun Q k => rn_iinc (v := (v3 + (1 : Int32))) (ls' := [(3, .inl (v3 + (1 : Int32))), (4, .inl s0), (0, .inr (.inr B)), (1, .inl x1), (2, .inl v2)]) 4 rfl rfl (by decide) rfl dX0_nextWaiting_77 k) ?_
    refine ev_s (fun Q k => rn_goto (tgt := 4) dX0_nextWaiting_80 (by decide) k) ?_
    refine ev_s (fun Q k => rn_sub (ls' := [(0, .inr (.inr B)), (1, .inl x1), (2, .inl v2), (3, .inl (v3 + (1 : Int32)))]) [2, 3, 4, 0] rfl k) ?_
    exact hk4 v2 (v3 + (1 : Int32)) D

set_option maxRecDepth 20000 in
theorem e_X0_nextWaiting_34 (l : Launch) (E : eE) (d : Nat) (B : Nat) (hB : isF B) (x1 : Int32) (k4 : Int32 → Int32 → dT → Option (Int32 × dT)) (hk4 : ∀ (v2 : Int32) (v3 : Int32) (D : dT), ev l E (d + 2) yX0_nextWaiting cX0_nextWaiting 5 (some .int) 4 [(0, .inr (.inr B)), (1, .inl x1), (2, .inl v2), (3, .inl v3)] [] D eI (k4 v2 v3 D)) (v2 : Int32) (v3 : Int32) (D : dT) : ev l E (d + 2) yX0_nextWaiting cX0_nextWaiting 5 (some .int) 34 [(0, .inr (.inr B)), (1, .inl x1), (2, .inl v2), (3, .inl v3)] [] D eI (F_X0_nextWaiting_34 B x1 k4 v2 v3 D) := by
  unfold F_X0_nextWaiting_34
  refine ev_s (fun Q k => rn_iconst (v := 1) (by decide) dX0_nextWaiting_34 k) ?_
  refine ev_s (fun Q k => rn_goto (tgt := 39) dX0_nextWaiting_35 (by decide) k) ?_
  exact e_X0_nextWaiting_39 l E d B hB x1 k4 hk4  v2 v3 (1 : Int32) D

set_option maxRecDepth 20000 in
theorem e_X0_nextWaiting_38 (l : Launch) (E : eE) (d : Nat) (B : Nat) (hB : isF B) (x1 : Int32) (k4 : Int32 → Int32 → dT → Option (Int32 × dT)) (hk4 : ∀ (v2 : Int32) (v3 : Int32) (D : dT), ev l E (d + 2) yX0_nextWaiting cX0_nextWaiting 5 (some .int) 4 [(0, .inr (.inr B)), (1, .inl x1), (2, .inl v2), (3, .inl v3)] [] D eI (k4 v2 v3 D)) (v2 : Int32) (v3 : Int32) (D : dT) : ev l E (d + 2) yX0_nextWaiting cX0_nextWaiting 5 (some .int) 38 [(0, .inr (.inr B)), (1, .inl x1), (2, .inl v2), (3, .inl v3)] [] D eI (F_X0_nextWaiting_38 B x1 k4 v2 v3 D) := by
  unfold F_X0_nextWaiting_38
  refine ev_s (fun Q k => rn_iconst (v := 0) (by decide) dX0_nextWaiting_38 k) ?_
  exact e_X0_nextWaiting_39 l E d B hB x1 k4 hk4  v2 v3 (0 : Int32) D

set_option maxRecDepth 20000 in
theorem e_X0_nextWaiting_4 (l : Launch) (E : eE) (d : Nat) (B : Nat) (hB : isF B) (x1 : Int32)  (fuel : Nat) : ∀ (v2 : Int32) (v3 : Int32) (D : dT), ev l E (d + 2) yX0_nextWaiting cX0_nextWaiting 5 (some .int) 4 [(0, .inr (.inr B)), (1, .inl x1), (2, .inl v2), (3, .inl v3)] [] D eI (F_X0_nextWaiting_4 fuel B x1 v2 v3 D) := by
  induction fuel with
  | zero =>
    intro v2 v3 D
    exact ev_none
  | succ fu ih =>
    intro v2 v3 D
    rw [F_X0_nextWaiting_4]
    refine ev_s (fun Q k => rn_iload_n (j := 3) 3 rfl rfl dX0_nextWaiting_4 k) ?_
    refine ev_s (fun Q k => rn_aload_n (j := 0) 0 rfl rfl (okO_0 (oF hB)) dX0_nextWaiting_5 k) ?_
    refine ev_s (fun Q k => rn_geti f_X0_45 (oF hB).1 (oF hB).2.1 (okO_1 (oF hB)) rfl dX0_nextWaiting_6 k) ?_
    refine ev_if (fun Q => rn_icmp_ge (tgt := 83) dX0_nextWaiting_9 (by decide)) (fun c11 => ?_) (fun c12 => ?_)
    · refine ev_s (fun Q k => rn_iload_n (j := 2) 2 rfl rfl dX0_nextWaiting_83 k) ?_
      exact ev_ret (fun Q q => rn_ret q .int rfl rfl dX0_nextWaiting_84)
    · refine ev_s (fun Q k => rn_aload_n (j := 0) 0 rfl rfl (okO_0 (oF hB)) dX0_nextWaiting_12 k) ?_
      refine ev_s (fun Q k => rn_iload_n (j := 1) 1 rfl rfl dX0_nextWaiting_13 k) ?_
      refine ev_bindI (as := [.inr (.inr B), .inl x1]) (fun Q Q1 => rn_callV (as := [.inl x1]) (rest := []) (o := B) m_X0_114 dX0_nextWaiting_14 (rcv_own (oF hB).1 (oF hB).2.1 (by decide) (okO_1 (oF hB))) rfl rfl (Nat.le_of_ble_eq_true rfl)) pl_X0_hasJob (Nat.le_of_ble_eq_true rfl) rfl (e_X0_hasJob l E (d + 1) B hB x1 D) (fun r1 D2 => ?_)
      refine ev_if (fun Q => rn_if_eq (tgt := 34) dX0_nextWaiting_17 (by decide)) (fun c9 => ?_) (fun c10 => ?_)
      · exact e_X0_nextWaiting_34 l E d B hB x1 (fun (v2_ : Int32) (v3_ : Int32) (D_ : dT) => F_X0_nextWaiting_4 fu B x1 v2_ v3_ D_) (fun v2_ v3_ D_ => ih v2_ v3_ D_)  v2 v3 D2
      · refine ev_s (fun Q k => rn_iload_n (j := 3) 3 rfl rfl dX0_nextWaiting_20 k) ?_
        refine ev_s (fun Q k => rn_iload_n (j := 1) 1 rfl rfl dX0_nextWaiting_21 k) ?_
        refine ev_if (fun Q => rn_icmp_eq (tgt := 38) dX0_nextWaiting_22 (by decide)) (fun c7 => ?_) (fun c8 => ?_)
        · exact e_X0_nextWaiting_38 l E d B hB x1 (fun (v2_ : Int32) (v3_ : Int32) (D_ : dT) => F_X0_nextWaiting_4 fu B x1 v2_ v3_ D_) (fun v2_ v3_ D_ => ih v2_ v3_ D_)  v2 v3 D2
        · refine ev_s (fun Q k => rn_aload_n (j := 0) 0 rfl rfl (okO_0 (oF hB)) dX0_nextWaiting_25 k) ?_
          refine ev_s (fun Q k => rn_iload_n (j := 1) 1 rfl rfl dX0_nextWaiting_26 k) ?_
          refine ev_s (fun Q k => rn_iload_n (j := 3) 3 rfl rfl dX0_nextWaiting_27 k) ?_
          refine ev_bindI (as := [.inr (.inr B), .inl x1, .inl v3]) (fun Q Q1 => rn_callV (as := [.inl x1, .inl v3]) (rest := []) (o := B) m_X0_180 dX0_nextWaiting_28 (rcv_own (oF hB).1 (oF hB).2.1 (by decide) (okO_1 (oF hB))) rfl rfl (Nat.le_of_ble_eq_true rfl)) pl_X0_isAhead (Nat.le_of_ble_eq_true rfl) rfl (e_X0_isAhead l E d B hB x1 v3 D2) (fun r3 D4 => ?_)
          refine ev_if (fun Q => rn_if_eq (tgt := 38) dX0_nextWaiting_31 (by decide)) (fun c5 => ?_) (fun c6 => ?_)
          · exact e_X0_nextWaiting_38 l E d B hB x1 (fun (v2_ : Int32) (v3_ : Int32) (D_ : dT) => F_X0_nextWaiting_4 fu B x1 v2_ v3_ D_) (fun v2_ v3_ D_ => ih v2_ v3_ D_)  v2 v3 D4
          · exact e_X0_nextWaiting_34 l E d B hB x1 (fun (v2_ : Int32) (v3_ : Int32) (D_ : dT) => F_X0_nextWaiting_4 fu B x1 v2_ v3_ D_) (fun v2_ v3_ D_ => ih v2_ v3_ D_)  v2 v3 D4

set_option maxRecDepth 20000 in
theorem e_X0_nextWaiting (l : Launch) (E : eE) (d : Nat) (B : Nat) (hB : isF B) (x1 : Int32) (D : dT) : ev l E (d + 2) yX0_nextWaiting cX0_nextWaiting 5 (some .int) 0 [(0, .inr (.inr B)), (1, .inl x1)] [] D eI (F_X0_nextWaiting B x1 D) := by
  unfold F_X0_nextWaiting
  refine ev_s (fun Q k => rn_iconst (v := -1) (by decide) dX0_nextWaiting_0 k) ?_
  refine ev_s (fun Q k => rn_istore_n (j := 2) (ls' := [(2, .inl (-1 : Int32)), (0, .inr (.inr B)), (1, .inl x1)]) rfl (by decide) rfl dX0_nextWaiting_1 k) ?_
  refine ev_s (fun Q k => rn_iconst (v := 0) (by decide) dX0_nextWaiting_2 k) ?_
  refine ev_s (fun Q k => rn_istore_n (j := 3) (ls' := [(3, .inl (0 : Int32)), (2, .inl (-1 : Int32)), (0, .inr (.inr B)), (1, .inl x1)]) rfl (by decide) rfl dX0_nextWaiting_3 k) ?_
  refine ev_s (fun Q k => rn_sub (ls' := [(0, .inr (.inr B)), (1, .inl x1), (2, .inl (-1 : Int32)), (3, .inl (0 : Int32))]) [2, 3, 1, 0] rfl k) ?_
  exact e_X0_nextWaiting_4 l E d B hB x1  lim (-1 : Int32) (0 : Int32) D

