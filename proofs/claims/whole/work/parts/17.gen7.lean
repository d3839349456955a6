def F_X5_undo  (D : dT) : Option (Int32 × dT) := bd (F_X1_takeBack 19 D) (fun (r1 : Int32) (D2 : dT) => some (r1, D2))
set_option maxRecDepth 20000 in
theorem e_X5_undo (l : Launch) (E : eE) (d : Nat)  (D : dT) : ev l E (d + 3) yX5_undo cX5_undo 1 (some .int) 0 [(0, .inr (.inr 18))] [] D eI (F_X5_undo D) := by
  unfold F_X5_undo
  refine ev_s (fun Q k => rn_aload_n (j := 0) 0 rfl rfl (okO_0 ok_18) dX5_undo_0 k) ?_
  refine ev_s (fun Q k => rn_getr (q := 85) f_X5_30 ok_18.1 ok_18.2.1 (okO_1 ok_18) rfl rfl dX5_undo_1 k) ?_
  refine ev_s (fun Q k => rn_aload_n (j := 0) 0 rfl rfl (okO_0 ok_18) dX5_undo_4 k) ?_
  refine ev_s (fun Q k => rn_getr (q := 19) f_X5_10 ok_18.1 ok_18.2.1 (okO_1 ok_18) rfl rfl dX5_undo_5 k) ?_
  refine ev_bindI (as := [.inr (.inr 85), .inr (.inr 19)]) (fun Q Q1 => rn_callV (as := [.inr (.inr 19)]) (rest := []) (o := 85) m_X5_190 dX5_undo_8 (rcv_own ok_85.1 ok_85.2.1 (by decide) (okO_1 ok_85)) rfl rfl (Nat.le_of_ble_eq_true rfl)) pl_X1_takeBack (Nat.le_of_ble_eq_true rfl) rfl (e_X1_takeBack l E d 19 isF_19 D) (fun r1 D2 => ?_)
  exact ev_ret (fun Q q => rn_ret q .int rfl rfl dX5_undo_11)

def F_X5_isSlot (x1 : Int32) (D : dT) : Option (Int32 × dT) := bd (F_X5_isWithin x1 (0 : Int32) (1 : Int32) D) (fun (r1 : Int32) (D2 : dT) => if r1 = 0 ∨ r1 = 1 then some (r1, D2) else none)
set_option maxRecDepth 20000 in
theorem e_X5_isSlot (l : Launch) (E : eE) (d : Nat) (x1 : Int32) (D : dT) : ev l E (d + 1) yX5_isSlot cX5_isSlot 1 (some .boolean) 0 [(0, .inl x1)] [] D eI (F_X5_isSlot x1 D) := by
  unfold F_X5_isSlot
  refine ev_s (fun Q k => rn_iload_n (j := 0) 0 rfl rfl dX5_isSlot_0 k) ?_
  refine ev_s (fun Q k => rn_iconst (v := 0) (by decide) dX5_isSlot_1 k) ?_
  refine ev_s (fun Q k => rn_iconst (v := 1) (by decide) dX5_isSlot_2 k) ?_
  refine ev_bindI (as := [.inl x1, .inl (0 : Int32), .inl (1 : Int32)]) (fun Q Q1 => rn_callS (as := [.inl x1, .inl (0 : Int32), .inl (1 : Int32)]) (rest := []) m_X5_200 dX5_isSlot_3 rfl rfl (Nat.le_of_ble_eq_true rfl)) pl_X5_isWithin (Nat.le_of_ble_eq_true rfl) rfl (e_X5_isWithin l E d x1 (0 : Int32) (1 : Int32) D) (fun r1 D2 => ?_)
  refine ev_gd (fun g3 => ?_)
  exact ev_ret (fun Q q => rn_ret q .boolean rfl (nz_b g3) dX5_isSlot_6)

def F_X5_save (x1 : Int32) (D : dT) : Option (Int32 × dT) := bd (F_X5_isSlot x1 D) (fun (r1 : Int32) (D2 : dT) => if r1 = 0 then some ((-2 : Int32), D2) else if inR x1 2 then bd (F_X0_copyFrom (314 + 32 * x1.toNatClampNeg) 19 D2) (fun (r4 : Int32) (D5 : dT) => if inR x1 2 then some (((up2 D5 84 x1.toNatClampNeg (1 : Int32)) 19 6), (up2 D5 84 x1.toNatClampNeg (1 : Int32))) else none) else none)
set_option maxRecDepth 20000 in
theorem e_X5_save (l : Launch) (E : eE) (d : Nat) (x1 : Int32) (D : dT) : ev l E (d + 2) yX5_save cX5_save 2 (some .int) 0 [(0, .inr (.inr 18)), (1, .inl x1)] [] D eI (F_X5_save x1 D) := by
  unfold F_X5_save
  refine ev_s (fun Q k => rn_iload_n (j := 1) 1 rfl rfl dX5_save_0 k) ?_
  refine ev_bindI (as := [.inl x1]) (fun Q Q1 => rn_callS (as := [.inl x1]) (rest := []) m_X5_194 dX5_save_1 rfl rfl (Nat.le_of_ble_eq_true rfl)) pl_X5_isSlot (Nat.le_of_ble_eq_true rfl) rfl (e_X5_isSlot l E d x1 D) (fun r1 D2 => ?_)
  refine ev_if (fun Q => rn_if_ne (tgt := 10) dX5_save_4 (by decide)) (fun c7 => ?_) (fun c8 => ?_)
  · refine ev_s (fun Q k => rn_bipush (v := -2) (by decide) dX5_save_7 k) ?_
    exact ev_ret (fun Q q => rn_ret q .int rfl rfl dX5_save_9)
  · refine ev_s (fun Q k => rn_aload_n (j := 0) 0 rfl rfl (okO_0 ok_18) dX5_save_10 k) ?_
    refine ev_s (fun Q k => rn_getr (q := 83) f_X5_19 ok_18.1 ok_18.2.1 (okO_1 ok_18) rfl rfl dX5_save_11 k) ?_
    refine ev_s (fun Q k => rn_iload_n (j := 1) 1 rfl rfl dX5_save_14 k) ?_
    refine ev_gd (fun g3 => ?_)
    refine ev_s (fun Q k => rn_aald (q := (314 + 32 * x1.toNatClampNeg)) ok_83.1 ok_83.2.1 (by decide) (by decide) ok_83.2.2 (inR_vp g3) (rSl g3.2) dX5_save_15 k) ?_
    refine ev_s (fun Q k => rn_aload_n (j := 0) 0 rfl rfl (okO_0 ok_18) dX5_save_16 k) ?_
    refine ev_s (fun Q k => rn_getr (q := 19) f_X5_10 ok_18.1 ok_18.2.1 (okO_1 ok_18) rfl rfl dX5_save_17 k) ?_
    refine ev_bindU (as := [.inr (.inr (314 + 32 * x1.toNatClampNeg)), .inr (.inr 19)]) (fun Q Q1 => rn_callV (as := [.inr (.inr 19)]) (rest := []) (o := (314 + 32 * x1.toNatClampNeg)) m_X5_148 dX5_save_20 (rcv_own (oF (fSl g3.2)).1 (oF (fSl g3.2)).2.1 (by decide) (okO_1 (oF (fSl g3.2)))) rfl rfl (Nat.le_of_ble_eq_true rfl)) pl_X0_copyFrom (Nat.le_of_ble_eq_true rfl) rfl (e_X0_copyFrom l E d (314 + 32 * x1.toNatClampNeg) (fSl g3.2) 19 isF_19 D2) (fun r4 D5 => ?_)
    refine ev_s (fun Q k => rn_aload_n (j := 0) 0 rfl rfl (okO_0 ok_18) dX5_save_23 k) ?_
    refine ev_s (fun Q k => rn_getr (q := 84) f_X5_23 ok_18.1 ok_18.2.1 (okO_1 ok_18) rfl rfl dX5_save_24 k) ?_
    refine ev_s (fun Q k => rn_iload_n (j := 1) 1 rfl rfl dX5_save_27 k) ?_
    refine ev_s (fun Q k => rn_iconst (v := 1) (by decide) dX5_save_28 k) ?_
    refine ev_gd (fun g6 => ?_)
    refine ev_s (fun Q k => rn_zast ok_84.1 ok_84.2.1 ok_84.2.2 (inR_vp g6) rfl dX5_save_29 k) ?_
    refine ev_s (fun Q k => rn_aload_n (j := 0) 0 rfl rfl (okO_0 ok_18) dX5_save_30 k) ?_
    refine ev_s (fun Q k => rn_getr (q := 19) f_X5_10 ok_18.1 ok_18.2.1 (okO_1 ok_18) rfl rfl dX5_save_31 k) ?_
    refine ev_s (fun Q k => rn_geti f_X5_197 (oF isF_19).1 (oF isF_19).2.1 (okO_1 (oF isF_19)) rfl dX5_save_34 k) ?_
    exact ev_ret (fun Q q => rn_ret q .int rfl rfl dX5_save_37)

def F_X5_restore (x1 : Int32) (D : dT) : Option (Int32 × dT) := bd (F_X5_isSlot x1 D) (fun (r1 : Int32) (D2 : dT) => if r1 = 0 then some ((-2 : Int32), D2) else if inR x1 2 then if (D2 84 x1.toNatClampNeg) = 0 then some ((-5 : Int32), D2) else bd (F_X1_note 19 D2) (fun (r4 : Int32) (D5 : dT) => if inR x1 2 then bd (F_X0_copyFrom 19 (314 + 32 * x1.toNatClampNeg) D5) (fun (r7 : Int32) (D8 : dT) => bd (F_X1_keepUnlessError (D8 19 6) D8) (fun (r9 : Int32) (D10 : dT) => some (r9, D10))) else none) else none)
set_option maxRecDepth 20000 in
theorem e_X5_restore (l : Launch) (E : eE) (d : Nat) (x1 : Int32) (D : dT) : ev l E (d + 3) yX5_restore cX5_restore 2 (some .int) 0 [(0, .inr (.inr 18)), (1, .inl x1)] [] D eI (F_X5_restore x1 D) := by
  unfold F_X5_restore
  refine ev_s (fun Q k => rn_iload_n (j := 1) 1 rfl rfl dX5_restore_0 k) ?_
  refine ev_bindI (as := [.inl x1]) (fun Q Q1 => rn_callS (as := [.inl x1]) (rest := []) m_X5_194 dX5_restore_1 rfl rfl (Nat.le_of_ble_eq_true rfl)) pl_X5_isSlot (Nat.le_of_ble_eq_true rfl) rfl (e_X5_isSlot l E (d + 1) x1 D) (fun r1 D2 => ?_)
  refine ev_if (fun Q => rn_if_ne (tgt := 10) dX5_restore_4 (by decide)) (fun c13 => ?_) (fun c14 => ?_)
  · refine ev_s (fun Q k => rn_bipush (v := -2) (by decide) dX5_restore_7 k) ?_
    exact ev_ret (fun Q q => rn_ret q .int rfl rfl dX5_restore_9)
  · refine ev_s (fun Q k => rn_aload_n (j := 0) 0 rfl rfl (okO_0 ok_18) dX5_restore_10 k) ?_
    refine ev_s (fun Q k => rn_getr (q := 84) f_X5_23 ok_18.1 ok_18.2.1 (okO_1 ok_18) rfl rfl dX5_restore_11 k) ?_
    refine ev_s (fun Q k => rn_iload_n (j := 1) 1 rfl rfl dX5_restore_14 k) ?_
    refine ev_gd (fun g3 => ?_)
    refine ev_s (fun Q k => rn_zald ok_84.1 ok_84.2.1 ok_84.2.2 (inR_vp g3) dX5_restore_15 k) ?_
    refine ev_if (fun Q => rn_if_ne (tgt := 22) dX5_restore_16 (by decide)) (fun c11 => ?_) (fun c12 => ?_)
    · refine ev_s (fun Q k => rn_bipush (v := -5) (by decide) dX5_restore_19 k) ?_
      exact ev_ret (fun Q q => rn_ret q .int rfl rfl dX5_restore_21)
    · refine ev_s (fun Q k => rn_aload_n (j := 0) 0 rfl rfl (okO_0 ok_18) dX5_restore_22 k) ?_
      refine ev_s (fun Q k => rn_getr (q := 85) f_X5_30 ok_18.1 ok_18.2.1 (okO_1 ok_18) rfl rfl dX5_restore_23 k) ?_
      refine ev_s (fun Q k => rn_aload_n (j := 0) 0 rfl rfl (okO_0 ok_18) dX5_restore_26 k) ?_
      refine ev_s (fun Q k => rn_getr (q := 19) f_X5_10 ok_18.1 ok_18.2.1 (okO_1 ok_18) rfl rfl dX5_restore_27 k) ?_
      refine ev_bindU (as := [.inr (.inr 85), .inr (.inr 19)]) (fun Q Q1 => rn_callV (as := [.inr (.inr 19)]) (rest := []) (o := 85) m_X5_41 dX5_restore_30 (rcv_own ok_85.1 ok_85.2.1 (by decide) (okO_1 ok_85)) rfl rfl (Nat.le_of_ble_eq_true rfl)) pl_X1_note (Nat.le_of_ble_eq_true rfl) rfl (e_X1_note l E d 19 isF_19 D2) (fun r4 D5 => ?_)
      refine ev_s (fun Q k => rn_aload_n (j := 0) 0 rfl rfl (okO_0 ok_18) dX5_restore_33 k) ?_
      refine ev_s (fun Q k => rn_getr (q := 19) f_X5_10 ok_18.1 ok_18.2.1 (okO_1 ok_18) rfl rfl dX5_restore_34 k) ?_
      refine ev_s (fun Q k => rn_aload_n (j := 0) 0 rfl rfl (okO_0 ok_18) dX5_restore_37 k) ?_
      refine ev_s (fun Q k => rn_getr (q := 83) f_X5_19 ok_18.1 ok_18.2.1 (okO_1 ok_18) rfl rfl dX5_restore_38 k) ?_
      refine ev_s (fun Q k => rn_iload_n (j := 1) 1 rfl rfl dX5_restore_41 k) ?_
      refine ev_gd (fun g6 => ?_)
      refine ev_s (fun Q k => rn_aald (q := (314 + 32 * x1.toNatClampNeg)) ok_83.1 ok_83.2.1 (by decide) (by decide) ok_83.2.2 (inR_vp g6) (rSl g6.2) dX5_restore_42 k) ?_
      refine ev_bindU (as := [.inr (.inr 19), .inr (.inr (314 + 32 * x1.toNatClampNeg))]) (fun Q Q1 => rn_callV (as := [.inr (.inr (314 + 32 * x1.toNatClampNeg))]) (rest := []) (o := 19) m_X5_148 dX5_restore_43 (rcv_own (oF isF_19).1 (oF isF_19).2.1 (by decide) (okO_1 (oF isF_19))) rfl rfl (Nat.le_of_ble_eq_true rfl)) pl_X0_copyFrom (Nat.le_of_ble_eq_true rfl) rfl (e_X0_copyFrom l E (d + 1) 19 isF_19 (314 + 32 * x1.toNatClampNeg) (fSl g6.2) D5) (fun r7 D8 => ?_)
      refine ev_s (fun Q k => rn_aload_n (j := 0) 0 rfl rfl (okO_0 ok_18) dX5_restore_46 k) ?_
      refine ev_s (fun Q k => rn_getr (q := 85) f_X5_30 ok_18.1 ok_18.2.1 (okO_1 ok_18) rfl rfl dX5_restore_47 k) ?_
      refine ev_s (fun Q k => rn_aload_n (j := 0) 0 rfl rfl (okO_0 ok_18) dX5_restore_50 k) ?_
      refine ev_s (fun Q k => rn_getr (q := 19) f_X5_10 ok_18.1 ok_18.2.1 (okO_1 ok_18) rfl rfl dX5_restore_51 k) ?_
      refine ev_s (fun Q k => rn_geti f_X5_197 (oF isF_19).1 (oF isF_19).2.1 (okO_1 (oF isF_19)) rfl dX5_restore_54 k) ?_
      refine ev_bindI (as := [.inr (.inr 85), .inl (D8 19 6)]) (fun Q Q1 => rn_callV (as := [.inl (D8 19 6)]) (rest := []) (o := 85) m_X5_49 dX5_restore_57 (rcv_own ok_85.1 ok_85.2.1 (by decide) (okO_1 ok_85)) rfl rfl (Nat.le_of_ble_eq_true rfl)) pl_X1_keepUnlessError (Nat.le_of_ble_eq_true rfl) rfl (e_X1_keepUnlessError l E d (D8 19 6) D8) (fun r9 D10 => ?_)
      exact ev_ret (fun Q q => rn_ret q .int rfl rfl dX5_restore_60)

def F_X6_in (x1 : Int32) (x2 : Int32) (x3 : Int32) (D : dT) : Option (Int32 × dT) := if x1 < x2 then some ((0 : Int32), D) else if x3 < x1 then some ((0 : Int32), D) else some ((1 : Int32), D)
set_option maxRecDepth 20000 in
theorem e_X6_in (l : Launch) (E : eE) (d : Nat) (x1 : Int32) (x2 : Int32) (x3 : Int32) (D : dT) : ev l E d yX6_in cX6_in 3 (some .boolean) 0 [(0, .inl x1), (1, .inl x2), (2, .inl x3)] [] D eI (F_X6_in x1 x2 x3 D) := by
  unfold F_X6_in
  refine ev_s (fun Q k => rn_iload_n (j := 0) 0 rfl rfl dX6_in_0 k) ?_
  refine ev_s (fun Q k => rn_iload_n (j := 1) 1 rfl rfl dX6_in_1 k) ?_
  refine ev_if (fun Q => rn_icmp_lt (tgt := 14) dX6_in_2 (by decide)) (fun c3 => ?_) (fun c4 => ?_)
  · refine ev_s (fun Q k => rn_iconst (v := 0) (by decide) dX6_in_14 k) ?_
    exact ev_ret (fun Q q => rn_ret q .boolean rfl rfl dX6_in_15)
  · refine ev_s (fun Q k => rn_iload_n (j := 0) 0 rfl rfl dX6_in_5 k) ?_
    refine ev_s (fun Q k => rn_iload_n (j := 2) 2 rfl rfl dX6_in_6 k) ?_
    refine ev_if (fun Q => rn_icmp_gt (tgt := 14) dX6_in_7 (by decide)) (fun c1 => ?_) (fun c2 => ?_)
    · refine ev_s (fun Q k => rn_iconst (v := 0) (by decide) dX6_in_14 k) ?_
      exact ev_ret (fun Q q => rn_ret q .boolean rfl rfl dX6_in_15)
    · refine ev_s (fun Q k => rn_iconst (v := 1) (by decide) dX6_in_10 k) ?_
      refine ev_s (fun Q k => rn_goto (tgt := 15) dX6_in_11 (by decide) k) ?_
      exact ev_ret (fun Q q => rn_ret q .boolean rfl rfl dX6_in_15)

def F_X6_leastOf (x1 : Int32) (D : dT) : Option (Int32 × dT) := if x1 = (1 : Int32) then some ((1 : Int32), D) else if x1 = (3 : Int32) then some ((1 : Int32), D) else some ((0 : Int32), D)
set_option maxRecDepth 20000 in
theorem e_X6_leastOf (l : Launch) (E : eE) (d : Nat) (x1 : Int32) (D : dT) : ev l E d yX6_leastOf cX6_leastOf 1 (some .int) 0 [(0, .inl x1)] [] D eI (F_X6_leastOf x1 D) := by
  unfold F_X6_leastOf
  refine ev_s (fun Q k => rn_iload_n (j := 0) 0 rfl rfl dX6_leastOf_0 k) ?_
  refine ev_s (fun Q k => rn_iconst (v := 1) (by decide) dX6_leastOf_1 k) ?_
  refine ev_if (fun Q => rn_icmp_eq (tgt := 10) dX6_leastOf_2 (by decide)) (fun c3 => ?_) (fun c4 => ?_)
  · refine ev_s (fun Q k => rn_iconst (v := 1) (by decide) dX6_leastOf_10 k) ?_
    refine ev_s (fun Q k => rn_goto (tgt := 15) dX6_leastOf_11 (by decide) k) ?_
    exact ev_ret (fun Q q => rn_ret q .int rfl rfl dX6_leastOf_15)
  · refine ev_s (fun Q k => rn_iload_n (j := 0) 0 rfl rfl dX6_leastOf_5 k) ?_
    refine ev_s (fun Q k => rn_iconst (v := 3) (by decide) dX6_leastOf_6 k) ?_
    refine ev_if (fun Q => rn_icmp_ne (tgt := 14) dX6_leastOf_7 (by decide)) (fun c1 => ?_) (fun c2 => ?_)
    · refine ev_s (fun Q k => rn_iconst (v := 1) (by decide) dX6_leastOf_10 k) ?_
      refine ev_s (fun Q k => rn_goto (tgt := 15) dX6_leastOf_11 (by decide) k) ?_
      exact ev_ret (fun Q q => rn_ret q .int rfl rfl dX6_leastOf_15)
    · refine ev_s (fun Q k => rn_iconst (v := 0) (by decide) dX6_leastOf_14 k) ?_
      exact ev_ret (fun Q q => rn_ret q .int rfl rfl dX6_leastOf_15)

def F_X6_mostOf (x1 : Int32) (D : dT) : Option (Int32 × dT) := if x1 = 0 then some ((50 : Int32), D) else if x1 = (3 : Int32) then some ((6 : Int32), D) else some ((20 : Int32), D)
set_option maxRecDepth 20000 in
theorem e_X6_mostOf (l : Launch) (E : eE) (d : Nat) (x1 : Int32) (D : dT) : ev l E d yX6_mostOf cX6_mostOf 1 (some .int) 0 [(0, .inl x1)] [] D eI (F_X6_mostOf x1 D) := by
  unfold F_X6_mostOf
  refine ev_s (fun Q k => rn_iload_n (j := 0) 0 rfl rfl dX6_mostOf_0 k) ?_
  refine ev_if (fun Q => rn_if_ne (tgt := 9) dX6_mostOf_1 (by decide)) (fun c3 => ?_) (fun c4 => ?_)
  · refine ev_s (fun Q k => rn_bipush (v := 50) (by decide) dX6_mostOf_4 k) ?_
    refine ev_s (fun Q k => rn_goto (tgt := 21) dX6_mostOf_6 (by decide) k) ?_
    exact ev_ret (fun Q q => rn_ret q .int rfl rfl dX6_mostOf_21)
  · refine ev_s (fun Q k => rn_iload_n (j := 0) 0 rfl rfl dX6_mostOf_9 k) ?_
    refine ev_s (fun Q k => rn_iconst (v := 3) (by decide) dX6_mostOf_10 k) ?_
    refine ev_if (fun Q => rn_icmp_ne (tgt := 19) dX6_mostOf_11 (by decide)) (fun c1 => ?_) (fun c2 => ?_)
    · refine ev_s (fun Q k => rn_bipush (v := 6) (by decide) dX6_mostOf_14 k) ?_
      refine ev_s (fun Q k => rn_goto (tgt := 21) dX6_mostOf_16 (by decide) k) ?_
      exact ev_ret (fun Q q => rn_ret q .int rfl rfl dX6_mostOf_21)
    · refine ev_s (fun Q k => rn_bipush (v := 20) (by decide) dX6_mostOf_19 k) ?_
      exact ev_ret (fun Q q => rn_ret q .int rfl rfl dX6_mostOf_21)

def F_X6_records_52 (fuel : Nat)   (v1 : Int32) (D : dT) : Option (Int32 × dT) := match fuel with
  | 0 => none
  | fu + 1 => if (244 : Int32) ≤ v1 then some ((0 : Int32), (up2 D 378 4 ((D 378 4) + (1 : Int32)))) else if inR v1 244 then if inR (((244 : Int32) * (D 378 4)) + v1) 1464 then F_X6_records_52 fu (v1 + (1 : Int32)) (up2 D 381 (((244 : Int32) * (D 378 4)) + v1).toNatClampNeg (D 379 v1.toNatClampNeg)) else none else none
def F_X6_records_11 (fuel : Nat)   (v1 : Int32) (D : dT) : Option (Int32 × dT) := match fuel with
  | 0 => none
  | fu + 1 => if (1220 : Int32) ≤ v1 then F_X6_records_52 lim (0 : Int32) (up2 D 378 4 ((D 378 4) - (1 : Int32))) else if inR (v1 + (244 : Int32)) 1464 then if inR v1 1464 then F_X6_records_11 fu (v1 + (1 : Int32)) (up2 D 381 v1.toNatClampNeg (D 381 (v1 + (244 : Int32)).toNatClampNeg)) else none else none
def F_X6_records  (D : dT) : Option (Int32 × dT) := if (D 378 4) = (6 : Int32) then F_X6_records_11 lim (0 : Int32) D else F_X6_records_52 lim (0 : Int32) D
set_option maxRecDepth 20000 in
theorem e_X6_records_52 (l : Launch) (E : eE) (d : Nat)   (fuel : Nat) : ∀ (v1 : Int32) (D : dT), ev l E d yX6_records cX6_records 2 none 52 [(0, .inr (.inr 378)), (1, .inl v1)] [] D eU (F_X6_records_52 fuel v1 D) := by
  induction fuel with
  | zero =>
    intro v1 D
    exact ev_none
  | succ fu ih =>
    intro v1 D
    rw [F_X6_records_52]
    refine ev_s (fun Q k => rn_iload_n (j := 1) 1 rfl rfl dX6_records_52 k) ?_
    refine ev_s (fun Q k => rn_sipush (v := 244) (by decide) dX6_records_53 k) ?_
    refine ev_if (fun Q => rn_icmp_ge (tgt := 86) dX6_records_56 (by decide)) (fun c3 => ?_) (fun c4 => ?_)
    · refine ev_s (fun Q k => rn_aload_n (j := 0) 0 rfl rfl (okO_0 ok_378) dX6_records_86 k) ?_
      refine ev_s (fun Q k => rn_dup rfl dX6_records_87 k) ?_
      refine ev_s (fun Q k => rn_geti f_X6_40 ok_378.1 ok_378.2.1 (okO_1 ok_378) rfl dX6_records_88 k) ?_
      refine ev_s (fun Q k => rn_iconst (v := 1) (by decide) dX6_records_91 k) ?_
      refine ev_s (fun Q k => rn_iadd dX6_records_92 k) ?_
      refine ev_s (fun Q k => rn_puti f_X6_40 ok_378.1 ok_378.2.1 (okO_1 ok_378) rfl rfl rfl rfl dX6_records_93 k) ?_
      exact ev_ret (fun Q q => rn_retv q rfl dX6_records_96)
    · refine ev_s (fun Q k => rn_aload_n (j := 0) 0 rfl rfl (okO_0 ok_378) dX6_records_59 k) ?_
      refine ev_s (fun Q k => rn_getr (q := 381) f_X6_16 ok_378.1 ok_378.2.1 (okO_1 ok_378) rfl rfl dX6_records_60 k) ?_
      refine ev_s (fun Q k => rn_sipush (v := 244) (by decide) dX6_records_63 k) ?_
      refine ev_s (fun Q k => rn_aload_n (j := 0) 0 rfl rfl (okO_0 ok_378) dX6_records_66 k) ?_
      refine ev_s (fun Q k => rn_geti f_X6_40 ok_378.1 ok_378.2.1 (okO_1 ok_378) rfl dX6_records_67 k) ?_
      refine ev_s (fun Q k => rn_imul dX6_records_70 k) ?_
      refine ev_s (fun Q k => rn_iload_n (j := 1) 1 rfl rfl dX6_records_71 k) ?_
      refine ev_s (fun Q k => rn_iadd dX6_records_72 k) ?_
      refine ev_s (fun Q k => rn_aload_n (j := 0) 0 rfl rfl (okO_0 ok_378) dX6_records_73 k) ?_
      refine ev_s (fun Q k => rn_getr (q := 379) f_X6_7 ok_378.1 ok_378.2.1 (okO_1 ok_378) rfl rfl dX6_records_74 k) ?_
      refine ev_s (fun Q k => rn_iload_n (j := 1) 1 rfl rfl dX6_records_77 k) ?_
      refine ev_gd (fun g1 => ?_)
      refine ev_s (fun Q k => rn_iald ok_379.1 ok_379.2.1 ok_379.2.2 (inR_vp g1) dX6_records_78 k) ?_
      refine ev_gd (fun g2 => ?_)
      refine ev_s (fun Q k => rn_iast ok_381.1 ok_381.2.1 ok_381.2.2 (inR_vp g2) dX6_records_79 k) ?_
      refine ev_s (fun Q k => rn_iinc (v := (v1 + (1 : Int32))) (ls' := [(1, .inl (v1 + (1 : Int32))), (0, .inr (.inr 378))]) 1 rfl rfl (by decide) rfl dX6_records_80 k) ?_
      refine ev_s (fun Q k => rn_goto (tgt := 52) dX6_records_83 (by decide) k) ?_
      refine ev_s (fun Q k => rn_sub (ls' := [(0, .inr (.inr 378)), (1, .inl (v1 + (1 : Int32)))]) [1, 0] rfl k) ?_
      exact ih (v1 + (1 : Int32)) (up2 D 381 (((244 : Int32) * (D 378 4)) + v1).toNatClampNeg (D 379 v1.toNatClampNeg))

set_option maxRecDepth 20000 in
theorem e_X6_records_11 (l : Launch) (E : eE) (d : Nat)   (fuel : Nat) : ∀ (v1 : Int32) (D : dT), ev l E d yX6_records cX6_records 2 none 11 [(0, .inr (.inr 378)), (1, .inl v1)] [] D eU (F_X6_records_11 fuel v1 D) := by
  induction fuel with
  | zero =>
    intro v1 D
    exact ev_none
  | succ fu ih =>
    intro v1 D
    rw [F_X6_records_11]
    refine ev_s (fun Q k => rn_iload_n (j := 1) 1 rfl rfl dX6_records_11 k) ?_
    refine ev_s (fun Q k => rn_sipush (v := 1220) (by decide) dX6_records_12 k) ?_
    refine ev_if (fun Q => rn_icmp_ge (tgt := 40) dX6_records_15 (by decide)) (fun c3 => ?_) (fun c4 => ?_)
    · refine ev_s (fun Q k => rn_aload_n (j := 0) 0 rfl rfl (okO_0 ok_378) dX6_records_40 k) ?_
      refine ev_s (fun Q k => rn_dup rfl dX6_records_41 k) ?_
      refine ev_s (fun Q k => rn_geti f_X6_40 ok_378.1 ok_378.2.1 (okO_1 ok_378) rfl dX6_records_42 k) ?_
      refine ev_s (fun Q k => rn_iconst (v := 1) (by decide) dX6_records_45 k) ?_
      refine ev_s (fun Q k => rn_isub dX6_records_46 k) ?_
      refine ev_s (fun Q k => rn_puti f_X6_40 ok_378.1 ok_378.2.1 (okO_1 ok_378) rfl rfl rfl rfl dX6_records_47 k) ?_
      refine ev_s (fun Q k => rn_iconst (v := 0) (by decide) dX6_records_50 k) ?_
      refine ev_s (fun Q k => rn_istore_n (j := 1) (ls' := [(1, .inl (0 : Int32)), (0, .inr (.inr 378))]) rfl (by decide) rfl dX6_records_51 k) ?_
      refine ev_s (fun Q k => rn_sub (ls' := [(0, .inr (.inr 378)), (1, .inl (0 : Int32))]) [1, 0] rfl k) ?_
      exact e_X6_records_52 l E d   lim (0 : Int32) (up2 D 378 4 ((D 378 4) - (1 : Int32)))
    · refine ev_s (fun Q k => rn_aload_n (j := 0) 0 rfl rfl (okO_0 ok_378) dX6_records_18 k) ?_
      refine ev_s (fun Q k => rn_getr (q := 381) f_X6_16 ok_378.1 ok_378.2.1 (okO_1 ok_378) rfl rfl dX6_records_19 k) ?_
      refine ev_s (fun Q k => rn_iload_n (j := 1) 1 rfl rfl dX6_records_22 k) ?_
      refine ev_s (fun Q k => rn_aload_n (j := 0) 0 rfl rfl (okO_0 ok_378) dX6_records_23 k) ?_
      refine ev_s (fun Q k => rn_getr (q := 381) f_X6_16 ok_378.1 ok_378.2.1 (okO_1 ok_378) rfl rfl dX6_records_24 k) ?_
      refine ev_s (fun Q k => rn_iload_n (j := 1) 1 rfl rfl dX6_records_27 k) ?_
      refine ev_s (fun Q k => rn_sipush (v := 244) (by decide) dX6_records_28 k) ?_
      refine ev_s (fun Q k => rn_iadd dX6_records_31 k) ?_
      refine ev_gd (fun g1 => ?_)
      refine ev_s (fun Q k => rn_iald ok_381.1 ok_381.2.1 ok_381.2.2 (inR_vp g1) dX6_records_32 k) ?_
      refine ev_gd (fun g2 => ?_)
      refine ev_s (fun Q k => rn_iast ok_381.1 ok_381.2.1 ok_381.2.2 (inR_vp g2) dX6_records_33 k) ?_
      refine ev_s (fun Q k => rn_iinc (v := (v1 + (1 : Int32))) (ls' := [(1, .inl (v1 + (1 : Int32))), (0, .inr (.inr 378))]) 1 rfl rfl (by decide) rfl dX6_records_34 k) ?_
      refine ev_s (fun Q k => rn_goto (tgt := 11) dX6_records_37 (by decide) k) ?_
      refine ev_s (fun Q k => rn_sub (ls' := [(0, .inr (.inr 378)), (1, .inl (v1 + (1 : Int32)))]) [1, 0] rfl k) ?_
      exact ih (v1 + (1 : Int32)) (up2 D 381 v1.toNatClampNeg (D 381 (v1 + (244 : Int32)).toNatClampNeg))

set_option maxRecDepth 20000 in
theorem e_X6_records (l : Launch) (E : eE) (d : Nat)  (D : dT) : ev l E d yX6_records cX6_records 2 none 0 [(0, .inr (.inr 378))] [] D eU (F_X6_records D) := by
  unfold F_X6_records
  refine ev_s (fun Q k => rn_aload_n (j := 0) 0 rfl rfl (okO_0 ok_378) dX6_records_0 k) ?_
  refine ev_s (fun Q k => rn_geti f_X6_40 ok_378.1 ok_378.2.1 (okO_1 ok_378) rfl dX6_records_1 k) ?_
  refine ev_s (fun Q k => rn_bipush (v := 6) (by decide) dX6_records_4 k) ?_
  refine ev_if (fun Q => rn_icmp_ne (tgt := 50) dX6_records_6 (by decide)) (fun c1 => ?_) (fun c2 => ?_)
  · refine ev_s (fun Q k => rn_iconst (v := 0) (by decide) dX6_records_9 k) ?_
    refine ev_s (fun Q k => rn_istore_n (j := 1) (ls' := [(1, .inl (0 : Int32)), (0, .inr (.inr 378))]) rfl (by decide) rfl dX6_records_10 k) ?_
    refine ev_s (fun Q k => rn_sub (ls' := [(0, .inr (.inr 378)), (1, .inl (0 : Int32))]) [1, 0] rfl k) ?_
    exact e_X6_records_11 l E d   lim (0 : Int32) D
  · refine ev_s (fun Q k => rn_iconst (v := 0) (by decide) dX6_records_50 k) ?_
    refine ev_s (fun Q k => rn_istore_n (j := 1) (ls' := [(1, .inl (0 : Int32)), (0, .inr (.inr 378))]) rfl (by decide) rfl dX6_records_51 k) ?_
    refine ev_s (fun Q k => rn_sub (ls' := [(0, .inr (.inr 378)), (1, .inl (0 : Int32))]) [1, 0] rfl k) ?_
    exact e_X6_records_52 l E d   lim (0 : Int32) D

def F_X6_set (x1 : Int32) (x2 : Int32) (D : dT) : Option (Int32 × dT) := bd (F_X6_in x1 (0 : Int32) (3 : Int32) (up2 D 378 0 (0 : Int32))) (fun (r1 : Int32) (D2 : dT) => if r1 = 0 then some ((-2 : Int32), D2) else bd (F_X6_leastOf x1 D2) (fun (r3 : Int32) (D4 : dT) => bd (F_X6_mostOf x1 D4) (fun (r5 : Int32) (D6 : dT) => bd (F_X6_in x2 r3 r5 D6) (fun (r7 : Int32) (D8 : dT) => if r7 = 0 then some ((-2 : Int32), D8) else bd (F_X6_records  D8) (fun (r9 : Int32) (D10 : dT) => if inR x1 244 then if inR x1 244 then some ((D10 379 x1.toNatClampNeg), (up2 D10 379 x1.toNatClampNeg x2)) else none else none)))))
set_option maxRecDepth 20000 in
theorem e_X6_set (l : Launch) (E : eE) (d : Nat) (x1 : Int32) (x2 : Int32) (D : dT) : ev l E (d + 1) yX6_set cX6_set 4 (some .int) 0 [(0, .inr (.inr 378)), (1, .inl x1), (2, .inl x2)] [] D eI (F_X6_set x1 x2 D) := by
  unfold F_X6_set
  refine ev_s (fun Q k => rn_aload_n (j := 0) 0 rfl rfl (okO_0 ok_378) dX6_set_0 k) ?_
  refine ev_s (fun Q k => rn_iconst (v := 0) (by decide) dX6_set_1 k) ?_
  refine ev_s (fun Q k => rn_puti f_X6_32 ok_378.1 ok_378.2.1 (okO_1 ok_378) rfl rfl rfl rfl dX6_set_2 k) ?_
  refine ev_s (fun Q k => rn_iload_n (j := 1) 1 rfl rfl dX6_set_5 k) ?_
  refine ev_s (fun Q k => rn_iconst (v := 0) (by decide) dX6_set_6 k) ?_
  refine ev_s (fun Q k => rn_iconst (v := 3) (by decide) dX6_set_7 k) ?_
  refine ev_bindI (as := [.inl x1, .inl (0 : Int32), .inl (3 : Int32)]) (fun Q Q1 => rn_callS (as := [.inl x1, .inl (0 : Int32), .inl (3 : Int32)]) (rest := []) m_X6_36 dX6_set_8 rfl rfl (Nat.le_of_ble_eq_true rfl)) pl_X6_in (Nat.le_of_ble_eq_true rfl) rfl (e_X6_in l E d x1 (0 : Int32) (3 : Int32) (up2 D 378 0 (0 : Int32))) (fun r1 D2 => ?_)
  refine ev_if (fun Q => rn_if_eq (tgt := 29) dX6_set_11 (by decide)) (fun c15 => ?_) (fun c16 => ?_)
  · refine ev_s (fun Q k => rn_bipush (v := -2) (by decide) dX6_set_29 k) ?_
    exact ev_ret (fun Q q => rn_ret q .int rfl rfl dX6_set_31)
  · refine ev_s (fun Q k => rn_iload_n (j := 2) 2 rfl rfl dX6_set_14 k) ?_
    refine ev_s (fun Q k => rn_iload_n (j := 1) 1 rfl rfl dX6_set_15 k) ?_
    refine ev_bindI (as := [.inl x1]) (fun Q Q1 => rn_callS (as := [.inl x1]) (rest := [.inl x2]) m_X6_111 dX6_set_16 rfl rfl (Nat.le_of_ble_eq_true rfl)) pl_X6_leastOf (Nat.le_of_ble_eq_true rfl) rfl (e_X6_leastOf l E d x1 D2) (fun r3 D4 => ?_)
    refine ev_s (fun Q k => rn_iload_n (j := 1) 1 rfl rfl dX6_set_19 k) ?_
    refine ev_bindI (as := [.inl x1]) (fun Q Q1 => rn_callS (as := [.inl x1]) (rest := [.inl r3, .inl x2]) m_X6_114 dX6_set_20 rfl rfl (Nat.le_of_ble_eq_true rfl)) pl_X6_mostOf (Nat.le_of_ble_eq_true rfl) rfl (e_X6_mostOf l E d x1 D4) (fun r5 D6 => ?_)
    refine ev_bindI (as := [.inl x2, .inl r3, .inl r5]) (fun Q Q1 => rn_callS (as := [.inl x2, .inl r3, .inl r5]) (rest := []) m_X6_36 dX6_set_23 rfl rfl (Nat.le_of_ble_eq_true rfl)) pl_X6_in (Nat.le_of_ble_eq_true rfl) rfl (e_X6_in l E d x2 r3 r5 D6) (fun r7 D8 => ?_)
    refine ev_if (fun Q => rn_if_ne (tgt := 32) dX6_set_26 (by decide)) (fun c13 => ?_) (fun c14 => ?_)
    · refine ev_s (fun Q k => rn_bipush (v := -2) (by decide) dX6_set_29 k) ?_
      exact ev_ret (fun Q q => rn_ret q .int rfl rfl dX6_set_31)
    · refine ev_s (fun Q k => rn_aload_n (j := 0) 0 rfl rfl (okO_0 ok_378) dX6_set_32 k) ?_
      refine ev_bindU (as := [.inr (.inr 378)]) (fun Q Q1 => rn_callV (as := []) (rest := []) (o := 378) m_X6_117 dX6_set_33 (rcv_own ok_378.1 ok_378.2.1 (by decide) (okO_1 ok_378)) rfl rfl (Nat.le_of_ble_eq_true rfl)) pl_X6_records (Nat.le_of_ble_eq_true rfl) rfl (e_X6_records l E d  D8) (fun r9 D10 => ?_)
      refine ev_s (fun Q k => rn_aload_n (j := 0) 0 rfl rfl (okO_0 ok_378) dX6_set_36 k) ?_
      refine ev_s (fun Q k => rn_getr (q := 379) f_X6_7 ok_378.1 ok_378.2.1 (okO_1 ok_378) rfl rfl dX6_set_37 k) ?_
      refine ev_s (fun Q k => rn_iload_n (j := 1) 1 rfl rfl dX6_set_40 k) ?_
      refine ev_gd (fun g11 => ?_)
      refine ev_s (fun Q k => rn_iald ok_379.1 ok_379.2.1 ok_379.2.2 (inR_vp g11) dX6_set_41 k) ?_
      refine ev_s (fun Q k => rn_istore_n (j := 3) (ls' := [(3, .inl (D10 379 x1.toNatClampNeg)), (0, .inr (.inr 378)), (1, .inl x1), (2, .inl x2)]) rfl (by decide) rfl dX6_set_42 k) ?_
      refine ev_s (fun Q k => rn_aload_n (j := 0) 1 rfl rfl (okO_0 ok_378) dX6_set_43 k) ?_
      refine ev_s (fun Q k => rn_getr (q := 379) f_X6_7 ok_378.1 ok_378.2.1 (okO_1 ok_378) rfl rfl dX6_set_44 k) ?_
      refine ev_s (fun Q k => rn_iload_n (j := 1) 2 rfl rfl dX6_set_47 k) ?_
      refine ev_s (fun Q k => rn_iload_n (j := 2) 3 rfl rfl dX6_set_48 k) ?_
      refine ev_gd (fun g12 => ?_)
      refine ev_s (fun Q k => rn_iast ok_379.1 ok_379.2.1 ok_379.2.2 (inR_vp g12) dX6_set_49 k) ?_
      refine ev_s (fun Q k => rn_iload_n (j := 3) 0 rfl rfl dX6_set_50 k) ?_
      exact ev_ret (fun Q q => rn_ret q .int rfl rfl dX6_set_51)

def F_X6_refusesPerson (x1 : Int32) (D : dT) : Option (Int32 × dT) := bd (F_X6_in x1 (10 : Int32) (150 : Int32) D) (fun (r1 : Int32) (D2 : dT) => if r1 = 0 then some ((-2 : Int32), D2) else if inR (5 : Int32) 244 then if (D2 379 (5 : Int32).toNatClampNeg) = (10 : Int32) then some ((-4 : Int32), D2) else some ((0 : Int32), D2) else none)
set_option maxRecDepth 20000 in
theorem e_X6_refusesPerson (l : Launch) (E : eE) (d : Nat) (x1 : Int32) (D : dT) : ev l E (d + 1) yX6_refusesPerson cX6_refusesPerson 2 (some .int) 0 [(0, .inr (.inr 378)), (1, .inl x1)] [] D eI (F_X6_refusesPerson x1 D) := by
  unfold F_X6_refusesPerson
  refine ev_s (fun Q k => rn_iload_n (j := 1) 1 rfl rfl dX6_refusesPerson_0 k) ?_
  refine ev_s (fun Q k => rn_bipush (v := 10) (by decide) dX6_refusesPerson_1 k) ?_
  refine ev_s (fun Q k => rn_sipush (v := 150) (by decide) dX6_refusesPerson_3 k) ?_
  refine ev_bindI (as := [.inl x1, .inl (10 : Int32), .inl (150 : Int32)]) (fun Q Q1 => rn_callS (as := [.inl x1, .inl (10 : Int32), .inl (150 : Int32)]) (rest := []) m_X6_36 dX6_refusesPerson_6 rfl rfl (Nat.le_of_ble_eq_true rfl)) pl_X6_in (Nat.le_of_ble_eq_true rfl) rfl (e_X6_in l E d x1 (10 : Int32) (150 : Int32) D) (fun r1 D2 => ?_)
  refine ev_if (fun Q => rn_if_ne (tgt := 17) dX6_refusesPerson_9 (by decide)) (fun c6 => ?_) (fun c7 => ?_)
  · refine ev_s (fun Q k => rn_bipush (v := -2) (by decide) dX6_refusesPerson_12 k) ?_
    refine ev_s (fun Q k => rn_goto (tgt := 34) dX6_refusesPerson_14 (by decide) k) ?_
    exact ev_ret (fun Q q => rn_ret q .int rfl rfl dX6_refusesPerson_34)
  · refine ev_s (fun Q k => rn_aload_n (j := 0) 0 rfl rfl (okO_0 ok_378) dX6_refusesPerson_17 k) ?_
    refine ev_s (fun Q k => rn_getr (q := 379) f_X6_7 ok_378.1 ok_378.2.1 (okO_1 ok_378) rfl rfl dX6_refusesPerson_18 k) ?_
    refine ev_s (fun Q k => rn_iconst (v := 5) (by decide) dX6_refusesPerson_21 k) ?_
    refine ev_gd (fun g3 => ?_)
    refine ev_s (fun Q k => rn_iald ok_379.1 ok_379.2.1 ok_379.2.2 (inR_vp g3) dX6_refusesPerson_22 k) ?_
    refine ev_s (fun Q k => rn_bipush (v := 10) (by decide) dX6_refusesPerson_23 k) ?_
    refine ev_if (fun Q => rn_icmp_ne (tgt := 33) dX6_refusesPerson_25 (by decide)) (fun c4 => ?_) (fun c5 => ?_)
    · refine ev_s (fun Q k => rn_bipush (v := -4) (by decide) dX6_refusesPerson_28 k) ?_
      refine ev_s (fun Q k => rn_goto (tgt := 34) dX6_refusesPerson_30 (by decide) k) ?_
      exact ev_ret (fun Q q => rn_ret q .int rfl rfl dX6_refusesPerson_34)
    · refine ev_s (fun Q k => rn_iconst (v := 0) (by decide) dX6_refusesPerson_33 k) ?_
      exact ev_ret (fun Q q => rn_ret q .int rfl rfl dX6_refusesPerson_34)

def F_X6_layPerson (x1 : Int32) (x2 : Int32) (x3 : Int32) (D : dT) : Option (Int32 × dT) := if inR (((12 : Int32) + ((4 : Int32) * x1)) + x2) 244 then some ((0 : Int32), (up2 D 379 (((12 : Int32) + ((4 : Int32) * x1)) + x2).toNatClampNeg x3)) else none
set_option maxRecDepth 20000 in
theorem e_X6_layPerson (l : Launch) (E : eE) (d : Nat) (x1 : Int32) (x2 : Int32) (x3 : Int32) (D : dT) : ev l E d yX6_layPerson cX6_layPerson 4 none 0 [(0, .inr (.inr 378)), (1, .inl x1), (2, .inl x2), (3, .inl x3)] [] D eU (F_X6_layPerson x1 x2 x3 D) := by
  unfold F_X6_layPerson
  refine ev_s (fun Q k => rn_aload_n (j := 0) 0 rfl rfl (okO_0 ok_378) dX6_layPerson_0 k) ?_
  refine ev_s (fun Q k => rn_getr (q := 379) f_X6_7 ok_378.1 ok_378.2.1 (okO_1 ok_378) rfl rfl dX6_layPerson_1 k) ?_
  refine ev_s (fun Q k => rn_bipush (v := 12) (by decide) dX6_layPerson_4 k) ?_
  refine ev_s (fun Q k => rn_iconst (v := 4) (by decide) dX6_layPerson_6 k) ?_
  refine ev_s (fun Q k => rn_iload_n (j := 1) 1 rfl rfl dX6_layPerson_7 k) ?_
  refine ev_s (fun Q k => rn_imul dX6_layPerson_8 k) ?_
  refine ev_s (fun Q k => rn_iadd dX6_layPerson_9 k) ?_
  refine ev_s (fun Q k => rn_iload_n (j := 2) 2 rfl rfl dX6_layPerson_10 k) ?_
  refine ev_s (fun Q k => rn_iadd dX6_layPerson_11 k) ?_
  refine ev_s (fun Q k => rn_iload_n (j := 3) 3 rfl rfl dX6_layPerson_12 k) ?_
  refine ev_gd (fun g1 => ?_)
  refine ev_s (fun Q k => rn_iast ok_379.1 ok_379.2.1 ok_379.2.2 (inR_vp g1) dX6_layPerson_13 k) ?_
  exact ev_ret (fun Q q => rn_retv q rfl dX6_layPerson_14)

def F_X6_addsPerson (x1 : Int32) (D : dT) : Option (Int32 × dT) := if inR (5 : Int32) 244 then bd (F_X6_layPerson (D 379 (5 : Int32).toNatClampNeg) (0 : Int32) x1 D) (fun (r2 : Int32) (D3 : dT) => bd (F_X6_layPerson (D 379 (5 : Int32).toNatClampNeg) (1 : Int32) x1 D3) (fun (r4 : Int32) (D5 : dT) => if inR (5 : Int32) 244 then if inR (5 : Int32) 244 then some ((D 379 (5 : Int32).toNatClampNeg), (up2 D5 379 (5 : Int32).toNatClampNeg ((D5 379 (5 : Int32).toNatClampNeg) + (1 : Int32)))) else none else none)) else none
set_option maxRecDepth 20000 in
theorem e_X6_addsPerson (l : Launch) (E : eE) (d : Nat) (x1 : Int32) (D : dT) : ev l E (d + 1) yX6_addsPerson cX6_addsPerson 3 (some .int) 0 [(0, .inr (.inr 378)), (1, .inl x1)] [] D eI (F_X6_addsPerson x1 D) := by
  unfold F_X6_addsPerson
  refine ev_s (fun Q k => rn_aload_n (j := 0) 0 rfl rfl (okO_0 ok_378) dX6_addsPerson_0 k) ?_
  refine ev_s (fun Q k => rn_getr (q := 379) f_X6_7 ok_378.1 ok_378.2.1 (okO_1 ok_378) rfl rfl dX6_addsPerson_1 k) ?_
  refine ev_s (fun Q k => rn_iconst (v := 5) (by decide) dX6_addsPerson_4 k) ?_
  refine ev_gd (fun g1 => ?_)
  refine ev_s (fun Q k => rn_iald ok_379.1 ok_379.2.1 ok_379.2.2 (inR_vp g1) dX6_addsPerson_5 k) ?_
  refine ev_s (fun Q k => rn_istore_n (j := 2) (ls' := [(2, .inl (D 379 (5 : Int32).toNatClampNeg)), (0, .inr (.inr 378)), (1, .inl x1)]) rfl (by decide) rfl dX6_addsPerson_6 k) ?_
  refine ev_s (fun Q k => rn_aload_n (j := 0) 1 rfl rfl (okO_0 ok_378) dX6_addsPerson_7 k) ?_
  refine ev_s (fun Q k => rn_iload_n (j := 2) 0 rfl rfl dX6_addsPerson_8 k) ?_
  refine ev_s (fun Q k => rn_iconst (v := 0) (by decide) dX6_addsPerson_9 k) ?_
  refine ev_s (fun Q k => rn_iload_n (j := 1) 2 rfl rfl dX6_addsPerson_10 k) ?_
  refine ev_bindU (as := [.inr (.inr 378), .inl (D 379 (5 : Int32).toNatClampNeg), .inl (0 : Int32), .inl x1]) (fun Q Q1 => rn_callV (as := [.inl (D 379 (5 : Int32).toNatClampNeg), .inl (0 : Int32), .inl x1]) (rest := []) (o := 378) m_X6_94 dX6_addsPerson_11 (rcv_own ok_378.1 ok_378.2.1 (by decide) (okO_1 ok_378)) rfl rfl (Nat.le_of_ble_eq_true rfl)) pl_X6_layPerson (Nat.le_of_ble_eq_true rfl) rfl (e_X6_layPerson l E d (D 379 (5 : Int32).toNatClampNeg) (0 : Int32) x1 D) (fun r2 D3 => ?_)
  refine ev_s (fun Q k => rn_aload_n (j := 0) 1 rfl rfl (okO_0 ok_378) dX6_addsPerson_14 k) ?_
  refine ev_s (fun Q k => rn_iload_n (j := 2) 0 rfl rfl dX6_addsPerson_15 k) ?_
  refine ev_s (fun Q k => rn_iconst (v := 1) (by decide) dX6_addsPerson_16 k) ?_
  refine ev_s (fun Q k => rn_iload_n (j := 1) 2 rfl rfl dX6_addsPerson_17 k) ?_
  refine ev_bindU (as := [.inr (.inr 378), .inl (D 379 (5 : Int32).toNatClampNeg), .inl (1 : Int32), .inl x1]) (fun Q Q1 => rn_callV (as := [.inl (D 379 (5 : Int32).toNatClampNeg), .inl (1 : Int32), .inl x1]) (rest := []) (o := 378) m_X6_94 dX6_addsPerson_18 (rcv_own ok_378.1 ok_378.2.1 (by decide) (okO_1 ok_378)) rfl rfl (Nat.le_of_ble_eq_true rfl)) pl_X6_layPerson (Nat.le_of_ble_eq_true rfl) rfl (e_X6_layPerson l E d (D 379 (5 : Int32).toNatClampNeg) (1 : Int32) x1 D3) (fun r4 D5 => ?_)
  refine ev_s (fun Q k => rn_aload_n (j := 0) 1 rfl rfl (okO_0 ok_378) dX6_addsPerson_21 k) ?_
  refine ev_s (fun Q k => rn_getr (q := 379) f_X6_7 ok_378.1 ok_378.2.1 (okO_1 ok_378) rfl rfl dX6_addsPerson_22 k) ?_
  refine ev_s (fun Q k => rn_iconst (v := 5) (by decide) dX6_addsPerson_25 k) ?_
  refine ev_s (fun Q k => rn_dup2 rfl rfl dX6_addsPerson_26 k) ?_
  refine ev_gd (fun g6 => ?_)
  refine ev_s (fun Q k => rn_iald ok_379.1 ok_379.2.1 ok_379.2.2 (inR_vp g6) dX6_addsPerson_27 k) ?_
  refine ev_s (fun Q k => rn_iconst (v := 1) (by decide) dX6_addsPerson_28 k) ?_
  refine ev_s (fun Q k => rn_iadd dX6_addsPerson_29 k) ?_
  refine ev_gd (fun g7 => ?_)
  refine ev_s (fun Q k => rn_iast ok_379.1 ok_379.2.1 ok_379.2.2 (inR_vp g7) dX6_addsPerson_30 k) ?_
  refine ev_s (fun Q k => rn_iload_n (j := 2) 0 rfl rfl dX6_addsPerson_31 k) ?_
  exact ev_ret (fun Q q => rn_ret q .int rfl rfl dX6_addsPerson_32)

def F_X6_person (x1 : Int32) (D : dT) : Option (Int32 × dT) := bd (F_X6_refusesPerson x1 (up2 D 378 0 (0 : Int32))) (fun (r1 : Int32) (D2 : dT) => if r1 = 0 then bd (F_X6_records  D2) (fun (r3 : Int32) (D4 : dT) => bd (F_X6_addsPerson x1 D4) (fun (r5 : Int32) (D6 : dT) => some (r5, D6))) else some (r1, D2))
set_option maxRecDepth 20000 in
theorem e_X6_person (l : Launch) (E : eE) (d : Nat) (x1 : Int32) (D : dT) : ev l E (d + 2) yX6_person cX6_person 3 (some .int) 0 [(0, .inr (.inr 378)), (1, .inl x1)] [] D eI (F_X6_person x1 D) := by
  unfold F_X6_person
  refine ev_s (fun Q k => rn_aload_n (j := 0) 0 rfl rfl (okO_0 ok_378) dX6_person_0 k) ?_
  refine ev_s (fun Q k => rn_iconst (v := 0) (by decide) dX6_person_1 k) ?_
  refine ev_s (fun Q k => rn_puti f_X6_32 ok_378.1 ok_378.2.1 (okO_1 ok_378) rfl rfl rfl rfl dX6_person_2 k) ?_
  refine ev_s (fun Q k => rn_aload_n (j := 0) 0 rfl rfl (okO_0 ok_378) dX6_person_5 k) ?_
  refine ev_s (fun Q k => rn_iload_n (j := 1) 1 rfl rfl dX6_person_6 k) ?_
  refine ev_bindI (as := [.inr (.inr 378), .inl x1]) (fun Q Q1 => rn_callV (as := [.inl x1]) (rest := []) (o := 378) m_X6_120 dX6_person_7 (rcv_own ok_378.1 ok_378.2.1 (by decide) (okO_1 ok_378)) rfl rfl (Nat.le_of_ble_eq_true rfl)) pl_X6_refusesPerson (Nat.le_of_ble_eq_true rfl) rfl (e_X6_refusesPerson l E d x1 (up2 D 378 0 (0 : Int32))) (fun r1 D2 => ?_)
  refine ev_s (fun Q k => rn_istore_n (j := 2) (ls' := [(2, .inl r1), (0, .inr (.inr 378)), (1, .inl x1)]) rfl (by decide) rfl dX6_person_10 k) ?_
  refine ev_s (fun Q k => rn_iload_n (j := 2) 0 rfl rfl dX6_person_11 k) ?_
  refine ev_if (fun Q => rn_if_eq (tgt := 17) dX6_person_12 (by decide)) (fun c7 => ?_) (fun c8 => ?_)
  · refine ev_s (fun Q k => rn_aload_n (j := 0) 1 rfl rfl (okO_0 ok_378) dX6_person_17 k) ?_
    refine ev_bindU (as := [.inr (.inr 378)]) (fun Q Q1 => rn_callV (as := []) (rest := []) (o := 378) m_X6_117 dX6_person_18 (rcv_own ok_378.1 ok_378.2.1 (by decide) (okO_1 ok_378)) rfl rfl (Nat.le_of_ble_eq_true rfl)) pl_X6_records (Nat.le_of_ble_eq_true rfl) rfl (e_X6_records l E (d + 1)  D2) (fun r3 D4 => ?_)
    refine ev_s (fun Q k => rn_aload_n (j := 0) 1 rfl rfl (okO_0 ok_378) dX6_person_21 k) ?_
    refine ev_s (fun Q k => rn_iload_n (j := 1) 2 rfl rfl dX6_person_22 k) ?_
    refine ev_bindI (as := [.inr (.inr 378), .inl x1]) (fun Q Q1 => rn_callV (as := [.inl x1]) (rest := []) (o := 378) m_X6_123 dX6_person_23 (rcv_own ok_378.1 ok_378.2.1 (by decide) (okO_1 ok_378)) rfl rfl (Nat.le_of_ble_eq_true rfl)) pl_X6_addsPerson (Nat.le_of_ble_eq_true rfl) rfl (e_X6_addsPerson l E d x1 D4) (fun r5 D6 => ?_)
    exact ev_ret (fun Q q => rn_ret q .int rfl rfl dX6_person_26)
  · refine ev_s (fun Q k => rn_iload_n (j := 2) 0 rfl rfl dX6_person_15 k) ?_
    exact ev_ret (fun Q q => rn_ret q .int rfl rfl dX6_person_16)

def F_X6_buy (x1 : Int32) (D : dT) : Option (Int32 × dT) := bd (F_X6_in x1 (0 : Int32) (2 : Int32) (up2 D 378 0 (0 : Int32))) (fun (r1 : Int32) (D2 : dT) => if r1 = 0 then some ((-1 : Int32), D2) else if inR ((9 : Int32) + x1) 244 then if (D2 379 ((9 : Int32) + x1).toNatClampNeg) = (9 : Int32) then some ((-4 : Int32), D2) else bd (F_X6_records  D2) (fun (r4 : Int32) (D5 : dT) => if inR ((9 : Int32) + x1) 244 then if inR ((9 : Int32) + x1) 244 then if inR ((9 : Int32) + x1) 244 then some (((up2 D5 379 ((9 : Int32) + x1).toNatClampNeg ((D5 379 ((9 : Int32) + x1).toNatClampNeg) + (1 : Int32))) 379 ((9 : Int32) + x1).toNatClampNeg), (up2 D5 379 ((9 : Int32) + x1).toNatClampNeg ((D5 379 ((9 : Int32) + x1).toNatClampNeg) + (1 : Int32)))) else none else none else none) else none)
set_option maxRecDepth 20000 in
theorem e_X6_buy (l : Launch) (E : eE) (d : Nat) (x1 : Int32) (D : dT) : ev l E (d + 1) yX6_buy cX6_buy 2 (some .int) 0 [(0, .inr (.inr 378)), (1, .inl x1)] [] D eI (F_X6_buy x1 D) := by
  unfold F_X6_buy
  refine ev_s (fun Q k => rn_aload_n (j := 0) 0 rfl rfl (okO_0 ok_378) dX6_buy_0 k) ?_
  refine ev_s (fun Q k => rn_iconst (v := 0) (by decide) dX6_buy_1 k) ?_
  refine ev_s (fun Q k => rn_puti f_X6_32 ok_378.1 ok_378.2.1 (okO_1 ok_378) rfl rfl rfl rfl dX6_buy_2 k) ?_
  refine ev_s (fun Q k => rn_iload_n (j := 1) 1 rfl rfl dX6_buy_5 k) ?_
  refine ev_s (fun Q k => rn_iconst (v := 0) (by decide) dX6_buy_6 k) ?_
  refine ev_s (fun Q k => rn_iconst (v := 2) (by decide) dX6_buy_7 k) ?_
  refine ev_bindI (as := [.inl x1, .inl (0 : Int32), .inl (2 : Int32)]) (fun Q Q1 => rn_callS (as := [.inl x1, .inl (0 : Int32), .inl (2 : Int32)]) (rest := []) m_X6_36 dX6_buy_8 rfl rfl (Nat.le_of_ble_eq_true rfl)) pl_X6_in (Nat.le_of_ble_eq_true rfl) rfl (e_X6_in l E d x1 (0 : Int32) (2 : Int32) (up2 D 378 0 (0 : Int32))) (fun r1 D2 => ?_)
  refine ev_if (fun Q => rn_if_ne (tgt := 16) dX6_buy_11 (by decide)) (fun c11 => ?_) (fun c12 => ?_)
  · refine ev_s (fun Q k => rn_iconst (v := -1) (by decide) dX6_buy_14 k) ?_
    exact ev_ret (fun Q q => rn_ret q .int rfl rfl dX6_buy_15)
  · refine ev_s (fun Q k => rn_aload_n (j := 0) 0 rfl rfl (okO_0 ok_378) dX6_buy_16 k) ?_
    refine ev_s (fun Q k => rn_getr (q := 379) f_X6_7 ok_378.1 ok_378.2.1 (okO_1 ok_378) rfl rfl dX6_buy_17 k) ?_
    refine ev_s (fun Q k => rn_bipush (v := 9) (by decide) dX6_buy_20 k) ?_
    refine ev_s (fun Q k => rn_iload_n (j := 1) 1 rfl rfl dX6_buy_22 k) ?_
    refine ev_s (fun Q k => rn_iadd dX6_buy_23 k) ?_
    refine ev_gd (fun g3 => ?_)
    refine ev_s (fun Q k => rn_iald ok_379.1 ok_379.2.1 ok_379.2.2 (inR_vp g3) dX6_buy_24 k) ?_
    refine ev_s (fun Q k => rn_bipush (v := 9) (by decide) dX6_buy_25 k) ?_
    refine ev_if (fun Q => rn_icmp_ne (tgt := 33) dX6_buy_27 (by decide)) (fun c9 => ?_) (fun c10 => ?_)
    · refine ev_s (fun Q k => rn_bipush (v := -4) (by decide) dX6_buy_30 k) ?_
      exact ev_ret (fun Q q => rn_ret q .int rfl rfl dX6_buy_32)
    · refine ev_s (fun Q k => rn_aload_n (j := 0) 0 rfl rfl (okO_0 ok_378) dX6_buy_33 k) ?_
      refine ev_bindU (as := [.inr (.inr 378)]) (fun Q Q1 => rn_callV (as := []) (rest := []) (o := 378) m_X6_117 dX6_buy_34 (rcv_own ok_378.1 ok_378.2.1 (by decide) (okO_1 ok_378)) rfl rfl (Nat.le_of_ble_eq_true rfl)) pl_X6_records (Nat.le_of_ble_eq_true rfl) rfl (e_X6_records l E d  D2) (fun r4 D5 => ?_)
      refine ev_s (fun Q k => rn_aload_n (j := 0) 0 rfl rfl (okO_0 ok_378) dX6_buy_37 k) ?_
      refine ev_s (fun Q k => rn_getr (q := 379) f_X6_7 ok_378.1 ok_378.2.1 (okO_1 ok_378) rfl rfl dX6_buy_38 k) ?_
      refine ev_s (fun Q k => rn_bipush (v := 9) (by decide) dX6_buy_41 k) ?_
      refine ev_s (fun Q k => rn_iload_n (j := 1) 1 rfl rfl dX6_buy_43 k) ?_
      refine ev_s (fun Q k => rn_iadd dX6_buy_44 k) ?_
      refine ev_s (fun Q k => rn_dup2 rfl rfl dX6_buy_45 k) ?_
      refine ev_gd (fun g6 => ?_)
      refine ev_s (fun Q k => rn_iald ok_379.1 ok_379.2.1 ok_379.2.2 (inR_vp g6) dX6_buy_46 k) ?_
      refine ev_s (fun Q k => rn_iconst (v := 1) (by decide) dX6_buy_47 k) ?_
      refine ev_s (fun Q k => rn_iadd dX6_buy_48 k) ?_
      refine ev_gd (fun g7 => ?_)
      refine ev_s (fun Q k => rn_iast ok_379.1 ok_379.2.1 ok_379.2.2 (inR_vp g7) dX6_buy_49 k) ?_
      refine ev_s (fun Q k => rn_aload_n (j := 0) 0 rfl rfl (okO_0 ok_378) dX6_buy_50 k) ?_
      refine ev_s (fun Q k => rn_getr (q := 379) f_X6_7 ok_378.1 ok_378.2.1 (okO_1 ok_378) rfl rfl dX6_buy_51 k) ?_
      refine ev_s (fun Q k => rn_bipush (v := 9) (by decide) dX6_buy_54 k) ?_
      refine ev_s (fun Q k => rn_iload_n (j := 1) 1 rfl rfl dX6_buy_56 k) ?_
      refine ev_s (fun Q k => rn_iadd dX6_buy_57 k) ?_
      refine ev_gd (fun g8 => ?_)
      refine ev_s (fun Q k => rn_iald ok_379.1 ok_379.2.1 ok_379.2.2 (inR_vp g8) dX6_buy_58 k) ?_
      exact ev_ret (fun Q q => rn_ret q .int rfl rfl dX6_buy_59)

def F_X6_refusesJob_47 (x1 : Int32) (x2 : Int32) (x3 : Int32) (x4 : Int32) (x5 : Int32)  (s0 : Int32) (D : dT) : Option (Int32 × dT) := if s0 = 0 then some ((-2 : Int32), D) else bd (F_X6_in x5 (0 : Int32) (999 : Int32) D) (fun (r1 : Int32) (D2 : dT) => if r1 = 0 then some ((-2 : Int32), D2) else if inR (6 : Int32) 244 then if (D2 379 (6 : Int32).toNatClampNeg) = (16 : Int32) then some ((-4 : Int32), D2) else some ((0 : Int32), D2) else none)
def F_X6_refusesJob_46 (x1 : Int32) (x2 : Int32) (x3 : Int32) (x4 : Int32) (x5 : Int32)   (D : dT) : Option (Int32 × dT) := F_X6_refusesJob_47 x1 x2 x3 x4 x5 (0 : Int32) D
def F_X6_refusesJob (x1 : Int32) (x2 : Int32) (x3 : Int32) (x4 : Int32) (x5 : Int32) (D : dT) : Option (Int32 × dT) := bd (F_X6_in x1 (50 : Int32) (600 : Int32) D) (fun (r1 : Int32) (D2 : dT) => if r1 = 0 then F_X6_refusesJob_46 x1 x2 x3 x4 x5 D2 else bd (F_X6_in x2 (0 : Int32) (9 : Int32) D2) (fun (r3 : Int32) (D4 : dT) => if r3 = 0 then F_X6_refusesJob_46 x1 x2 x3 x4 x5 D4 else bd (F_X6_in x3 (1 : Int32) (9 : Int32) D4) (fun (r5 : Int32) (D6 : dT) => if r5 = 0 then F_X6_refusesJob_46 x1 x2 x3 x4 x5 D6 else bd (F_X6_in x4 (0 : Int32) (3 : Int32) D6) (fun (r7 : Int32) (D8 : dT) => if r7 = 0 then F_X6_refusesJob_46 x1 x2 x3 x4 x5 D8 else F_X6_refusesJob_47 x1 x2 x3 x4 x5 (1 : Int32) D8))))
set_option maxRecDepth 20000 in
theorem e_X6_refusesJob_47 (l : Launch) (E : eE) (d : Nat) (x1 : Int32) (x2 : Int32) (x3 : Int32) (x4 : Int32) (x5 : Int32)  (s0 : Int32) (D : dT) : ev l E (d + 1) yX6_refusesJob cX6_refusesJob 7 (some .int) 47 [(0, .inr (.inr 378)), (5, .inl x5)] [.inl s0] D eI (F_X6_refusesJob_47 x1 x2 x3 x4 x5 s0 D) := by
  unfold F_X6_refusesJob_47
  refine ev_s (fun Q k => rn_istore (j := 6) (ls' := [(6, .inl s0), (0, .inr (.inr 378)), (5, .inl x5)]) (by decide) rfl dX6_refusesJob_47 k) ?_
  refine ev_s (fun Q k => rn_iload (j := 6) 0 rfl dX6_refusesJob_49 k) ?_
  refine ev_if (fun Q => rn_if_eq (tgt := 66) dX6_refusesJob_51 (by decide)) (fun c8 => ?_) (fun c9 => ?_)
  · refine ev_s (fun Q k => rn_bipush (v := -2) (by decide) dX6_refusesJob_66 k) ?_
    exact ev_ret (fun Q q => rn_ret q .int rfl rfl dX6_refusesJob_68)
  · refine ev_s (fun Q k => rn_iload (j := 5) 2 rfl dX6_refusesJob_54 k) ?_
    refine ev_s (fun Q k => rn_iconst (v := 0) (by decide) dX6_refusesJob_56 k) ?_
    refine ev_s (fun Q k => rn_sipush (v := 999) (by decide) dX6_refusesJob_57 k) ?_
    refine ev_bindI (as := [.inl x5, .inl (0 : Int32), .inl (999 : Int32)]) (fun Q Q1 => rn_callS (as := [.inl x5, .inl (0 : Int32), .inl (999 : Int32)]) (rest := []) m_X6_36 dX6_refusesJob_60 rfl rfl (Nat.le_of_ble_eq_true rfl)) pl_X6_in (Nat.le_of_ble_eq_true rfl) rfl (e_X6_in l E d x5 (0 : Int32) (999 : Int32) D) (fun r1 D2 => ?_)
    refine ev_if (fun Q => rn_if_ne (tgt := 69) dX6_refusesJob_63 (by decide)) (fun c6 => ?_) (fun c7 => ?_)
    · refine ev_s (fun Q k => rn_bipush (v := -2) (by decide) dX6_refusesJob_66 k) ?_
      exact ev_ret (fun Q q => rn_ret q .int rfl rfl dX6_refusesJob_68)
    · refine ev_s (fun Q k => rn_aload_n (j := 0) 1 rfl rfl (okO_0 ok_378) dX6_refusesJob_69 k) ?_
      refine ev_s (fun Q k => rn_getr (q := 379) f_X6_7 ok_378.1 ok_378.2.1 (okO_1 ok_378) rfl rfl dX6_refusesJob_70 k) ?_
      refine ev_s (fun Q k => rn_bipush (v := 6) (by decide) dX6_refusesJob_73 k) ?_
      refine ev_gd (fun g3 => ?_)
      refine ev_s (fun Q k => rn_iald ok_379.1 ok_379.2.1 ok_379.2.2 (inR_vp g3) dX6_refusesJob_75 k) ?_
      refine ev_s (fun Q k => rn_bipush (v := 16) (by decide) dX6_refusesJob_76 k) ?_
      refine ev_if (fun Q => rn_icmp_ne (tgt := 86) dX6_refusesJob_78 (by decide)) (fun c4 => ?_) (fun c5 => ?_)
      · refine ev_s (fun Q k => rn_bipush (v := -4) (by decide) dX6_refusesJob_81 k) ?_
        refine ev_s (fun Q k => rn_goto (tgt := 87) dX6_refusesJob_83 (by decide) k) ?_
        exact ev_ret (fun Q q => rn_ret q .int rfl rfl dX6_refusesJob_87)
      · refine ev_s (fun Q k => rn_iconst (v := 0) (by decide) dX6_refusesJob_86 k) ?_
        exact ev_ret (fun Q q => rn_ret q .int rfl rfl dX6_refusesJob_87)

set_option maxRecDepth 20000 in
theorem e_X6_refusesJob_46 (l : Launch) (E : eE) (d : Nat) (x1 : Int32) (x2 : Int32) (x3 : Int32) (x4 : Int32) (x5 : Int32)   (D : dT) : ev l E (d + 1) yX6_refusesJob cX6_refusesJob 7 (some .int) 46 [(0, .inr (.inr 378)), (5, .inl x5)] [] D eI (F_X6_refusesJob_46 x1 x2 x3 x4 x5 D) := by
  unfold F_X6_refusesJob_46
  refine ev_s (fun Q k => rn_iconst (v := 0) (by decide) dX6_refusesJob_46 k) ?_
  exact e_X6_refusesJob_47 l E d x1 x2 x3 x4 x5   (0 : Int32) D

set_option maxRecDepth 20000 in
theorem e_X6_refusesJob (l : Launch) (E : eE) (d : Nat) (x1 : Int32) (x2 : Int32) (x3 : Int32) (x4 : Int32) (x5 : Int32) (D : dT) : ev l E (d + 1) yX6_refusesJob cX6_refusesJob 7 (some .int) 0 [(0, .inr (.inr 378)), (1, .inl x1), (2, .inl x2), (3, .inl x3), (4, .inl x4), (5, .inl x5)] [] D eI (F_X6_refusesJob x1 x2 x3 x4 x5 D) := by
  unfold F_X6_refusesJob
  refine ev_s (fun Q k => rn_iload_n (j := 1) 1 rfl rfl dX6_refusesJob_0 k) ?_
  refine ev_s (fun Q k => rn_bipush (v := 50) (by decide) dX6_refusesJob_1 k) ?_
  refine ev_s (fun Q k => rn_sipush (v := 600) (by decide) dX6_refusesJob_3 k) ?_
  refine ev_bindI (as := [.inl x1, .inl (50 : Int32), .inl (600 : Int32)]) (fun Q Q1 => rn_callS (as := [.inl x1, .inl (50 : Int32), .inl (600 : Int32)]) (rest := []) m_X6_36 dX6_refusesJob_6 rfl rfl (Nat.le_of_ble_eq_true rfl)) pl_X6_in (Nat.le_of_ble_eq_true rfl) rfl (e_X6_in l E d x1 (50 : Int32) (600 : Int32) D) (fun r1 D2 => ?_)
  refine ev_if (fun Q => rn_if_eq (tgt := 46) dX6_refusesJob_9 (by decide)) (fun c15 => ?_) (fun c16 => ?_)
  · refine ev_s (fun Q k => rn_sub (ls' := [(0, .inr (.inr 378)), (5, .inl x5)]) [0, 5] rfl k) ?_
    exact e_X6_refusesJob_46 l E d x1 x2 x3 x4 x5   D2
  · refine ev_s (fun Q k => rn_iload_n (j := 2) 2 rfl rfl dX6_refusesJob_12 k) ?_
    refine ev_s (fun Q k => rn_iconst (v := 0) (by decide) dX6_refusesJob_13 k) ?_
    refine ev_s (fun Q k => rn_bipush (v := 9) (by decide) dX6_refusesJob_14 k) ?_
    refine ev_bindI (as := [.inl x2, .inl (0 : Int32), .inl (9 : Int32)]) (fun Q Q1 => rn_callS (as := [.inl x2, .inl (0 : Int32), .inl (9 : Int32)]) (rest := []) m_X6_36 dX6_refusesJob_16 rfl rfl (Nat.le_of_ble_eq_true rfl)) pl_X6_in (Nat.le_of_ble_eq_true rfl) rfl (e_X6_in l E d x2 (0 : Int32) (9 : Int32) D2) (fun r3 D4 => ?_)
    refine ev_if (fun Q => rn_if_eq (tgt := 46) dX6_refusesJob_19 (by decide)) (fun c13 => ?_) (fun c14 => ?_)
    · refine ev_s (fun Q k => rn_sub (ls' := [(0, .inr (.inr 378)), (5, .inl x5)]) [0, 5] rfl k) ?_
      exact e_X6_refusesJob_46 l E d x1 x2 x3 x4 x5   D4
    · refine ev_s (fun Q k => rn_iload_n (j := 3) 3 rfl rfl dX6_refusesJob_22 k) ?_
      refine ev_s (fun Q k => rn_iconst (v := 1) (by decide) dX6_refusesJob_23 k) ?_
      refine ev_s (fun Q k => rn_bipush (v := 9) (by decide) dX6_refusesJob_24 k) ?_
      refine ev_bindI (as := [.inl x3, .inl (1 : Int32), .inl (9 : Int32)]) (fun Q Q1 => rn_callS (as := [.inl x3, .inl (1 : Int32), .inl (9 : Int32)]) (rest := []) m_X6_36 dX6_refusesJob_26 rfl rfl (Nat.le_of_ble_eq_true rfl)) pl_X6_in (Nat.le_of_ble_eq_true rfl) rfl (e_X6_in l E d x3 (1 : Int32) (9 : Int32) D4) (fun r5 D6 => ?_)
      refine ev_if (fun Q => rn_if_eq (tgt := 46) dX6_refusesJob_29 (by decide)) (fun c11 => ?_) (fun c12 => ?_)
      · refine ev_s (fun Q k => rn_sub (ls' := [(0, .inr (.inr 378)), (5, .inl x5)]) [0, 5] rfl k) ?_
        exact e_X6_refusesJob_46 l E d x1 x2 x3 x4 x5   D6
      · refine ev_s (fun Q k => rn_iload (j := 4) 4 rfl dX6_refusesJob_32 k) ?_
        refine ev_s (fun Q k => rn_iconst (v := 0) (by decide) dX6_refusesJob_34 k) ?_
        refine ev_s (fun Q k => rn_iconst (v := 3) (by decide) dX6_refusesJob_35 k) ?_
        refine ev_bindI (as := [.inl x4, .inl (0 : Int32), .inl (3 : Int32)]) (fun Q Q1 => rn_callS (as := [.inl x4, .inl (0 : Int32), .inl (3 : Int32)]) (rest := []) m_X6_36 dX6_refusesJob_36 rfl rfl (Nat.le_of_ble_eq_true rfl)) pl_X6_in (Nat.le_of_ble_eq_true rfl) rfl (e_X6_in l E d x4 (0 : Int32) (3 : Int32) D6) (fun r7 D8 => ?_)
        refine ev_if (fun Q => rn_if_eq (tgt := 46) dX6_refusesJob_39 (by decide)) (fun c9 => ?_) (fun c10 => ?_)
        · refine ev_s (fun Q k => rn_sub (ls' := [(0, .inr (.inr 378)), (5, .inl x5)]) [0, 5] rfl k) ?_
          exact e_X6_refusesJob_46 l E d x1 x2 x3 x4 x5   D8
        · refine ev_s (fun Q k => rn_iconst (v := 1) (by decide) dX6_refusesJob_42 k) ?_
          refine ev_s (fun Q k => rn_goto (tgt := 47) dX6_refusesJob_43 (by decide) k) ?_
          refine ev_s (fun Q k => rn_sub (ls' := [(0, .inr (.inr 378)), (5, .inl x5)]) [0, 5] rfl k) ?_
          exact e_X6_refusesJob_47 l E d x1 x2 x3 x4 x5   (1 : Int32) D8

def F_X6_lay (x1 : Int32) (x2 : Int32) (x3 : Int32) (D : dT) : Option (Int32 × dT) := if inR (((52 : Int32) + ((12 : Int32) * x1)) + x2) 244 then some ((0 : Int32), (up2 D 379 (((52 : Int32) + ((12 : Int32) * x1)) + x2).toNatClampNeg x3)) else none
set_option maxRecDepth 20000 in
theorem e_X6_lay (l : Launch) (E : eE) (d : Nat) (x1 : Int32) (x2 : Int32) (x3 : Int32) (D : dT) : ev l E d yX6_lay cX6_lay 4 none 0 [(0, .inr (.inr 378)), (1, .inl x1), (2, .inl x2), (3, .inl x3)] [] D eU (F_X6_lay x1 x2 x3 D) := by
  unfold F_X6_lay
  refine ev_s (fun Q k => rn_aload_n (j := 0) 0 rfl rfl (okO_0 ok_378) dX6_lay_0 k) ?_
  refine ev_s (fun Q k => rn_getr (q := 379) f_X6_7 ok_378.1 ok_378.2.1 (okO_1 ok_378) rfl rfl dX6_lay_1 k) ?_
  refine ev_s (fun Q k => rn_bipush (v := 52) (by decide) dX6_lay_4 k) ?_
  refine ev_s (fun Q k => rn_bipush (v := 12) (by decide) dX6_lay_6 k) ?_
  refine ev_s (fun Q k => rn_iload_n (j := 1) 1 rfl rfl dX6_lay_8 k) ?_
  refine ev_s (fun Q k => rn_imul dX6_lay_9 k) ?_
  refine ev_s (fun Q k => rn_iadd dX6_lay_10 k) ?_
  refine ev_s (fun Q k => rn_iload_n (j := 2) 2 rfl rfl dX6_lay_11 k) ?_
  refine ev_s (fun Q k => rn_iadd dX6_lay_12 k) ?_
  refine ev_s (fun Q k => rn_iload_n (j := 3) 3 rfl rfl dX6_lay_13 k) ?_
  refine ev_gd (fun g1 => ?_)
  refine ev_s (fun Q k => rn_iast ok_379.1 ok_379.2.1 ok_379.2.2 (inR_vp g1) dX6_lay_14 k) ?_
  exact ev_ret (fun Q q => rn_retv q rfl dX6_lay_15)

def F_X6_addsJob (x1 : Int32) (x2 : Int32) (x3 : Int32) (x4 : Int32) (x5 : Int32) (D : dT) : Option (Int32 × dT) := if inR (6 : Int32) 244 then bd (F_X6_lay (D 379 (6 : Int32).toNatClampNeg) (0 : Int32) x1 D) (fun (r2 : Int32) (D3 : dT) => bd (F_X6_lay (D 379 (6 : Int32).toNatClampNeg) (1 : Int32) x2 D3) (fun (r4 : Int32) (D5 : dT) => bd (F_X6_lay (D 379 (6 : Int32).toNatClampNeg) (2 : Int32) x3 D5) (fun (r6 : Int32) (D7 : dT) => bd (F_X6_lay (D 379 (6 : Int32).toNatClampNeg) (3 : Int32) x4 D7) (fun (r8 : Int32) (D9 : dT) => bd (F_X6_lay (D 379 (6 : Int32).toNatClampNeg) (4 : Int32) x5 D9) (fun (r10 : Int32) (D11 : dT) => bd (F_X6_lay (D 379 (6 : Int32).toNatClampNeg) (8 : Int32) (-6 : Int32) D11) (fun (r12 : Int32) (D13 : dT) => bd (F_X6_lay (D 379 (6 : Int32).toNatClampNeg) (11 : Int32) (-6 : Int32) D13) (fun (r14 : Int32) (D15 : dT) => if inR (6 : Int32) 244 then if inR (6 : Int32) 244 then some ((D 379 (6 : Int32).toNatClampNeg), (up2 D15 379 (6 : Int32).toNatClampNeg ((D15 379 (6 : Int32).toNatClampNeg) + (1 : Int32)))) else none else none))))))) else none
set_option maxRecDepth 20000 in
theorem e_X6_addsJob (l : Launch) (E : eE) (d : Nat) (x1 : Int32) (x2 : Int32) (x3 : Int32) (x4 : Int32) (x5 : Int32) (D : dT) : ev l E (d + 1) yX6_addsJob cX6_addsJob 7 (some .int) 0 [(0, .inr (.inr 378)), (1, .inl x1), (2, .inl x2), (3, .inl x3), (4, .inl x4), (5, .inl x5)] [] D eI (F_X6_addsJob x1 x2 x3 x4 x5 D) := by
  unfold F_X6_addsJob
  refine ev_s (fun Q k => rn_aload_n (j := 0) 0 rfl rfl (okO_0 ok_378) dX6_addsJob_0 k) ?_
  refine ev_s (fun Q k => rn_getr (q := 379) f_X6_7 ok_378.1 ok_378.2.1 (okO_1 ok_378) rfl rfl dX6_addsJob_1 k) ?_
  refine ev_s (fun Q k => rn_bipush (v := 6) (by decide) dX6_addsJob_4 k) ?_
  refine ev_gd (fun g1 => ?_)
  refine ev_s (fun Q k => rn_iald ok_379.1 ok_379.2.1 ok_379.2.2 (inR_vp g1) dX6_addsJob_6 k) ?_
  refine ev_s (fun Q k => rn_istore (j := 6) (ls' := [(6, .inl (D 379 (6 : Int32).toNatClampNeg)), (0, .inr (.inr 378)), (1, .inl x1), (2, .inl x2), (3, .inl x3), (4, .inl x4), (5, .inl x5)]) (by decide) rfl dX6_addsJob_7 k) ?_
  refine ev_s (fun Q k => rn_aload_n (j := 0) 1 rfl rfl (okO_0 ok_378) dX6_addsJob_9 k) ?_
  refine ev_s (fun Q k => rn_iload (j := 6) 0 rfl dX6_addsJob_10 k) ?_
  refine ev_s (fun Q k => rn_iconst (v := 0) (by decide) dX6_addsJob_12 k) ?_
  refine ev_s (fun Q k => rn_iload_n (j := 1) 2 rfl rfl dX6_addsJob_13 k) ?_
  refine ev_bindU (as := [.inr (.inr 378), .inl (D 379 (6 : Int32).toNatClampNeg), .inl (0 : Int32), .inl x1]) (fun Q Q1 => rn_callV (as := [.inl (D 379 (6 : Int32).toNatClampNeg), .inl (0 : Int32), .inl x1]) (rest := []) (o := 378) m_X6_77 dX6_addsJob_14 (rcv_own ok_378.1 ok_378.2.1 (by decide) (okO_1 ok_378)) rfl rfl (Nat.le_of_ble_eq_true rfl)) pl_X6_lay (Nat.le_of_ble_eq_true rfl) rfl (e_X6_lay l E d (D 379 (6 : Int32).toNatClampNeg) (0 : Int32) x1 D) (fun r2 D3 => ?_)
  refine ev_s (fun Q k => rn_aload_n (j := 0) 1 rfl rfl (okO_0 ok_378) dX6_addsJob_17 k) ?_
  refine ev_s (fun Q k => rn_iload (j := 6) 0 rfl dX6_addsJob_18 k) ?_
  refine ev_s (fun Q k => rn_iconst (v := 1) (by decide) dX6_addsJob_20 k) ?_
  refine ev_s (fun Q k => rn_iload_n (j := 2) 3 rfl rfl dX6_addsJob_21 k) ?_
  refine ev_bindU (as := [.inr (.inr 378), .inl (D 379 (6 : Int32).toNatClampNeg), .inl (1 : Int32), .inl x2]) (fun Q Q1 => rn_callV (as := [.inl (D 379 (6 : Int32).toNatClampNeg), .inl (1 : Int32), .inl x2]) (rest := []) (o := 378) m_X6_77 dX6_addsJob_22 (rcv_own ok_378.1 ok_378.2.1 (by decide) (okO_1 ok_378)) rfl rfl (Nat.le_of_ble_eq_true rfl)) pl_X6_lay (Nat.le_of_ble_eq_true rfl) rfl (e_X6_lay l E d (D 379 (6 : Int32).toNatClampNeg) (1 : Int32) x2 D3) (fun r4 D5 => ?_)
  refine ev_s (fun Q k => rn_aload_n (j := 0) 1 rfl rfl (okO_0 ok_378) dX6_addsJob_25 k) ?_
  refine ev_s (fun Q k => rn_iload (j := 6) 0 rfl dX6_addsJob_26 k) ?_
  refine ev_s (fun Q k => rn_iconst (v := 2) (by decide) dX6_addsJob_28 k) ?_
  refine ev_s (fun Q k => rn_iload_n (j := 3) 4 rfl rfl dX6_addsJob_29 k) ?_
  refine ev_bindU (as := [.inr (.inr 378), .inl (D 379 (6 : Int32).toNatClampNeg), .inl (2 : Int32), .inl x3]) (fun Q Q1 => rn_callV (as := [.inl (D 379 (6 : Int32).toNatClampNeg), .inl (2 : Int32), .inl x3]) (rest := []) (o := 378) m_X6_77 dX6_addsJob_30 (rcv_own ok_378.1 ok_378.2.1 (by decide) (okO_1 ok_378)) rfl rfl (Nat.le_of_ble_eq_true rfl)) pl_X6_lay (Nat.le_of_ble_eq_true rfl) rfl (e_X6_lay l E d (D 379 (6 : Int32).toNatClampNeg) (2 : Int32) x3 D5) (fun r6 D7 => ?_)
  refine ev_s (fun Q k => rn_aload_n (j := 0) 1 rfl rfl (okO_0 ok_378) dX6_addsJob_33 k) ?_
  refine ev_s (fun Q k => rn_iload (j := 6) 0 rfl dX6_addsJob_34 k) ?_
  refine ev_s (fun Q k => rn_iconst (v := 3) (by decide) dX6_addsJob_36 k) ?_
  refine ev_s (fun Q k => rn_iload (j := 4) 5 rfl dX6_addsJob_37 k) ?_
  refine ev_bindU (as := [.inr (.inr 378), .inl (D 379 (6 : Int32).toNatClampNeg), .inl (3 : Int32), .inl x4]) (fun Q Q1 => rn_callV (as := [.inl (D 379 (6 : Int32).toNatClampNeg), .inl (3 : Int32), .inl x4]) (rest := []) (o := 378) m_X6_77 dX6_addsJob_39 (rcv_own ok_378.1 ok_378.2.1 (by decide) (okO_1 ok_378)) rfl rfl (Nat.le_of_ble_eq_true rfl)) pl_X6_lay (Nat.le_of_ble_eq_true rfl) rfl (e_X6_lay l E d (D 379 (6 : Int32).toNatClampNeg) (3 : Int32) x4 D7) (fun r8 D9 => ?_)
  refine ev_s (fun Q k => rn_aload_n (j := 0) 1 rfl rfl (okO_0 ok_378) dX6_addsJob_42 k) ?_
  refine ev_s (fun Q k => rn_iload (j := 6) 0 rfl dX6_addsJob_43 k) ?_
  refine ev_s (fun Q k => rn_iconst (v := 4) (by decide) dX6_addsJob_45 k) ?_
  refine ev_s (fun Q k => rn_iload (j := 5) 6 rfl dX6_addsJob_46 k) ?_
  refine ev_bindU (as := [.inr (.inr 378), .inl (D 379 (6 : Int32).toNatClampNeg), .inl (4 : Int32), .inl x5]) (fun Q Q1 => rn_callV (as := [.inl (D 379 (6 : Int32).toNatClampNeg), .inl (4 : Int32), .inl x5]) (rest := []) (o := 378) m_X6_77 dX6_addsJob_48 (rcv_own ok_378.1 ok_378.2.1 (by decide) (okO_1 ok_378)) rfl rfl (Nat.le_of_ble_eq_true rfl)) pl_X6_lay (Nat.le_of_ble_eq_true rfl) rfl (e_X6_lay l E d (D 379 (6 : Int32).toNatClampNeg) (4 : Int32) x5 D9) (fun r10 D11 => ?_)
  refine ev_s (fun Q k => rn_aload_n (j := 0) 1 rfl rfl (okO_0 ok_378) dX6_addsJob_51 k) ?_
  refine ev_s (fun Q k => rn_iload (j := 6) 0 rfl dX6_addsJob_52 k) ?_
  refine ev_s (fun Q k => rn_bipush (v := 8) (by decide) dX6_addsJob_54 k) ?_
  refine ev_s (fun Q k => rn_bipush (v := -6) (by decide) dX6_addsJob_56 k) ?_
  refine ev_bindU (as := [.inr (.inr 378), .inl (D 379 (6 : Int32).toNatClampNeg), .inl (8 : Int32), .inl (-6 : Int32)]) (fun Q Q1 => rn_callV (as := [.inl (D 379 (6 : Int32).toNatClampNeg), .inl (8 : Int32), .inl (-6 : Int32)]) (rest := []) (o := 378) m_X6_77 dX6_addsJob_58 (rcv_own ok_378.1 ok_378.2.1 (by decide) (okO_1 ok_378)) rfl rfl (Nat.le_of_ble_eq_true rfl)) pl_X6_lay (Nat.le_of_ble_eq_true rfl) rfl (e_X6_lay l E d (D 379 (6 : Int32).toNatClampNeg) (8 : Int32) (-6 : Int32) D11) (fun r12 D13 => ?_)
  refine ev_s (fun Q k => rn_aload_n (j := 0) 1 rfl rfl (okO_0 ok_378) dX6_addsJob_61 k) ?_
  refine ev_s (fun Q k => rn_iload (j := 6) 0 rfl dX6_addsJob_62 k) ?_
  refine ev_s (fun Q k => rn_bipush (v := 11) (by decide) dX6_addsJob_64 k) ?_
  refine ev_s (fun Q k => rn_bipush (v := -6) (by decide) dX6_addsJob_66 k) ?_
  refine ev_bindU (as := [.inr (.inr 378), .inl (D 379 (6 : Int32).toNatClampNeg), .inl (11 : Int32), .inl (-6 : Int32)]) (fun Q Q1 => rn_callV (as := [.inl (D 379 (6 : Int32).toNatClampNeg), .inl (11 : Int32), .inl (-6 : Int32)]) (rest := []) (o := 378) m_X6_77 dX6_addsJob_68 (rcv_own ok_378.1 ok_378.2.1 (by decide) (okO_1 ok_378)) rfl rfl (Nat.le_of_ble_eq_true rfl)) pl_X6_lay (Nat.le_of_ble_eq_true rfl) rfl (e_X6_lay l E d (D 379 (6 : Int32).toNatClampNeg) (11 : Int32) (-6 : Int32) D13) (fun r14 D15 => ?_)
  refine ev_s (fun Q k => rn_aload_n (j := 0) 1 rfl rfl (okO_0 ok_378) dX6_addsJob_71 k) ?_
  refine ev_s (fun Q k => rn_getr (q := 379) f_X6_7 ok_378.1 ok_378.2.1 (okO_1 ok_378) rfl rfl dX6_addsJob_72 k) ?_
  refine ev_s (fun Q k => rn_bipush (v := 6) (by decide) dX6_addsJob_75 k) ?_
  refine ev_s (fun Q k => rn_dup2 rfl rfl dX6_addsJob_77 k) ?_
  refine ev_gd (fun g16 => ?_)
  refine ev_s (fun Q k => rn_iald ok_379.1 ok_379.2.1 ok_379.2.2 (inR_vp g16) dX6_addsJob_78 k) ?_
  refine ev_s (fun Q k => rn_iconst (v := 1) (by decide) dX6_addsJob_79 k) ?_
  refine ev_s (fun Q k => rn_iadd dX6_addsJob_80 k) ?_
  refine ev_gd (fun g17 => ?_)
  refine ev_s (fun Q k => rn_iast ok_379.1 ok_379.2.1 ok_379.2.2 (inR_vp g17) dX6_addsJob_81 k) ?_
  refine ev_s (fun Q k => rn_iload (j := 6) 0 rfl dX6_addsJob_82 k) ?_
  exact ev_ret (fun Q q => rn_ret q .int rfl rfl dX6_addsJob_84)

def F_X6_job (x1 : Int32) (x2 : Int32) (x3 : Int32) (x4 : Int32) (x5 : Int32) (D : dT) : Option (Int32 × dT) := bd (F_X6_refusesJob x1 x2 x3 x4 x5 (up2 D 378 0 (0 : Int32))) (fun (r1 : Int32) (D2 : dT) => if r1 = 0 then bd (F_X6_records  D2) (fun (r3 : Int32) (D4 : dT) => bd (F_X6_addsJob x1 x2 x3 x4 x5 D4) (fun (r5 : Int32) (D6 : dT) => some (r5, D6))) else some (r1, D2))
set_option maxRecDepth 20000 in
theorem e_X6_job (l : Launch) (E : eE) (d : Nat) (x1 : Int32) (x2 : Int32) (x3 : Int32) (x4 : Int32) (x5 : Int32) (D : dT) : ev l E (d + 2) yX6_job cX6_job 7 (some .int) 0 [(0, .inr (.inr 378)), (1, .inl x1), (2, .inl x2), (3, .inl x3), (4, .inl x4), (5, .inl x5)] [] D eI (F_X6_job x1 x2 x3 x4 x5 D) := by
  unfold F_X6_job
  refine ev_s (fun Q k => rn_aload_n (j := 0) 0 rfl rfl (okO_0 ok_378) dX6_job_0 k) ?_
  refine ev_s (fun Q k => rn_iconst (v := 0) (by decide) dX6_job_1 k) ?_
  refine ev_s (fun Q k => rn_puti f_X6_32 ok_378.1 ok_378.2.1 (okO_1 ok_378) rfl rfl rfl rfl dX6_job_2 k) ?_
  refine ev_s (fun Q k => rn_aload_n (j := 0) 0 rfl rfl (okO_0 ok_378) dX6_job_5 k) ?_
  refine ev_s (fun Q k => rn_iload_n (j := 1) 1 rfl rfl dX6_job_6 k) ?_
  refine ev_s (fun Q k => rn_iload_n (j := 2) 2 rfl rfl dX6_job_7 k) ?_
  refine ev_s (fun Q k => rn_iload_n (j := 3) 3 rfl rfl dX6_job_8 k) ?_
  refine ev_s (fun Q k => rn_iload (j := 4) 4 rfl dX6_job_9 k) ?_
  refine ev_s (fun Q k => rn_iload (j := 5) 5 rfl dX6_job_11 k) ?_
  refine ev_bindI (as := [.inr (.inr 378), .inl x1, .inl x2, .inl x3, .inl x4, .inl x5]) (fun Q Q1 => rn_callV (as := [.inl x1, .inl x2, .inl x3, .inl x4, .inl x5]) (rest := []) (o := 378) m_X6_126 dX6_job_13 (rcv_own ok_378.1 ok_378.2.1 (by decide) (okO_1 ok_378)) rfl rfl (Nat.le_of_ble_eq_true rfl)) pl_X6_refusesJob (Nat.le_of_ble_eq_true rfl) rfl (e_X6_refusesJob l E d x1 x2 x3 x4 x5 (up2 D 378 0 (0 : Int32))) (fun r1 D2 => ?_)
  refine ev_s (fun Q k => rn_istore (j := 6) (ls' := [(6, .inl r1), (0, .inr (.inr 378)), (1, .inl x1), (2, .inl x2), (3, .inl x3), (4, .inl x4), (5, .inl x5)]) (by decide) rfl dX6_job_16 k) ?_
  refine ev_s (fun Q k => rn_iload (j := 6) 0 rfl dX6_job_18 k) ?_
  refine ev_if (fun Q => rn_if_eq (tgt := 26) dX6_job_20 (by decide)) (fun c7 => ?_) (fun c8 => ?_)
  · refine ev_s (fun Q k => rn_aload_n (j := 0) 1 rfl rfl (okO_0 ok_378) dX6_job_26 k) ?_
    refine ev_bindU (as := [.inr (.inr 378)]) (fun Q Q1 => rn_callV (as := []) (rest := []) (o := 378) m_X6_117 dX6_job_27 (rcv_own ok_378.1 ok_378.2.1 (by decide) (okO_1 ok_378)) rfl rfl (Nat.le_of_ble_eq_true rfl)) pl_X6_records (Nat.le_of_ble_eq_true rfl) rfl (e_X6_records l E (d + 1)  D2) (fun r3 D4 => ?_)
    refine ev_s (fun Q k => rn_aload_n (j := 0) 1 rfl rfl (okO_0 ok_378) dX6_job_30 k) ?_
    refine ev_s (fun Q k => rn_iload_n (j := 1) 2 rfl rfl dX6_job_31 k) ?_
    refine ev_s (fun Q k => rn_iload_n (j := 2) 3 rfl rfl dX6_job_32 k) ?_
    refine ev_s (fun Q k => rn_iload_n (j := 3) 4 rfl rfl dX6_job_33 k) ?_
    refine ev_s (fun Q k => rn_iload (j := 4) 5 rfl dX6_job_34 k) ?_
    refine ev_s (fun Q k => rn_iload (j := 5) 6 rfl dX6_job_36 k) ?_
    refine ev_bindI (as := [.inr (.inr 378), .inl x1, .inl x2, .inl x3, .inl x4, .inl x5]) (fun Q Q1 => rn_callV (as := [.inl x1, .inl x2, .inl x3, .inl x4, .inl x5]) (rest := []) (o := 378) m_X6_130 dX6_job_38 (rcv_own ok_378.1 ok_378.2.1 (by decide) (okO_1 ok_378)) rfl rfl (Nat.le_of_ble_eq_true rfl)) pl_X6_addsJob (Nat.le_of_ble_eq_true rfl) rfl (e_X6_addsJob l E d x1 x2 x3 x4 x5 D4) (fun r5 D6 => ?_)
    exact ev_ret (fun Q q => rn_ret q .int rfl rfl dX6_job_41)
  · refine ev_s (fun Q k => rn_iload (j := 6) 0 rfl dX6_job_23 k) ?_
    exact ev_ret (fun Q q => rn_ret q .int rfl rfl dX6_job_25)

def F_X6_isJob (x1 : Int32) (D : dT) : Option (Int32 × dT) := if inR (6 : Int32) 244 then bd (F_X6_in x1 (0 : Int32) ((D 379 (6 : Int32).toNatClampNeg) - (1 : Int32)) D) (fun (r2 : Int32) (D3 : dT) => if r2 = 0 ∨ r2 = 1 then some (r2, D3) else none) else none
set_option maxRecDepth 20000 in
theorem e_X6_isJob (l : Launch) (E : eE) (d : Nat) (x1 : Int32) (D : dT) : ev l E (d + 1) yX6_isJob cX6_isJob 2 (some .boolean) 0 [(0, .inr (.inr 378)), (1, .inl x1)] [] D eI (F_X6_isJob x1 D) := by
  unfold F_X6_isJob
  refine ev_s (fun Q k => rn_iload_n (j := 1) 1 rfl rfl dX6_isJob_0 k) ?_
  refine ev_s (fun Q k => rn_iconst (v := 0) (by decide) dX6_isJob_1 k) ?_
  refine ev_s (fun Q k => rn_aload_n (j := 0) 0 rfl rfl (okO_0 ok_378) dX6_isJob_2 k) ?_
  refine ev_s (fun Q k => rn_getr (q := 379) f_X6_7 ok_378.1 ok_378.2.1 (okO_1 ok_378) rfl rfl dX6_isJob_3 k) ?_
  refine ev_s (fun Q k => rn_bipush (v := 6) (by decide) dX6_isJob_6 k) ?_
  refine ev_gd (fun g1 => ?_)
  refine ev_s (fun Q k => rn_iald ok_379.1 ok_379.2.1 ok_379.2.2 (inR_vp g1) dX6_isJob_8 k) ?_
  refine ev_s (fun Q k => rn_iconst (v := 1) (by decide) dX6_isJob_9 k) ?_
  refine ev_s (fun Q k => rn_isub dX6_isJob_10 k) ?_
  refine ev_bindI (as := [.inl x1, .inl (0 : Int32), .inl ((D 379 (6 : Int32).toNatClampNeg) - (1 : Int32))]) (fun Q Q1 => rn_callS (as := [.inl x1, .inl (0 : Int32), .inl ((D 379 (6 : Int32).toNatClampNeg) - (1 : Int32))]) (rest := []) m_X6_36 dX6_isJob_11 rfl rfl (Nat.le_of_ble_eq_true rfl)) pl_X6_in (Nat.le_of_ble_eq_true rfl) rfl (e_X6_in l E d x1 (0 : Int32) ((D 379 (6 : Int32).toNatClampNeg) - (1 : Int32)) D) (fun r2 D3 => ?_)
  refine ev_gd (fun g4 => ?_)
  exact ev_ret (fun Q q => rn_ret q .boolean rfl (nz_b g4) dX6_isJob_14)

