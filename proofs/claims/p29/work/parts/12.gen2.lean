def F_X5_restore (x1 : Int32) (D : dT) : Option (Int32 × dT) := bd (F_X5_isSlot x1 D) (fun (r1 : Int32) (D2 : dT) => if r1 = 0 then some ((-2 : Int32), D2) else if inR x1 2 then if (D2 84 x1.toNatClampNeg) = 0 then some ((-5 : Int32), D2) else bd (F_X1_note 19 D2) (fun (r4 : Int32) (D5 : dT) => if inR x1 2 then bd (F_X0_copyFrom 19 (314 + 32 * x1.toNatClampNeg) D5) (fun (r7 : Int32) (D8 : dT) => bd (F_X1_keepUnlessError (D8 19 6) D8) (fun (r9 : Int32) (D10 : dT) => some (r9, D10))) else none) else none)
set_option maxRecDepth 20000 in
theorem e_X5_restore (l : Launch) (E : eE) (d : Nat) (x1 : Int32) (D : dT) : ev l E (d + 3) yX5_restore cX5_restore 2 (some .int) 0 [(0, .inr (.inr 18)), (1, .inl x1)] [] D eI (F_X5_restore x1 D) := by
  unfold F_X5_restore
  refine ev_s (fun Q k => rn_iload_n (j := 1) 1 rfl rfl dX5_restore_0 k) ?_
  refine ev_bindI (as := [.inl x1]) (fun Q Q1 => rn_callS (as := [.inl x1]) (rest := []) m_X5_194 dX5_restore_1 rfl rfl (Nat.le_of_ble_eq_true rfl)) pl_X5_isSlot (Nat.le_of_ble_eq_true rfl) rfl (e_X5_isSlot l E (d + 1) x1 D) (fun r1 D2 => ?_)
  refine ev_if (fun Q => rn_if_ne (tgt := 10) dX5_restore_4 (by decide)) (fun c13 => ?_) (fun c14 => ?_)
  · refine ev_s (fun Q k => rn_bipush (v := -2) (by decide) dX5_restore_7 k) ?_
    exact ev_ret (fun Q q => rn_ret q .int rfl rfl dX5_restore_9)
  · refine ev_s (fun Q k => rn_aload_n (j := 0) 0 rfl rfl (okO_0 ok_18) dX5_restore_10 k) ?_
    refine ev_s (fun Q k => rn_getr (q := 84) f_X5_23 ok_18.1 ok_18.2.1 (okO_1 ok_18) rfl rfl dX5_restore_11 k) ?_
    refine ev_s (fun Q k => rn_iload_n (j := 1) 1 rfl rfl dX5_restore_14 k) ?_
    refine ev_gd (fun g3 => ?_)
    refine ev_s (fun Q k => rn_zald ok_84.1 ok_84.2.1 ok_84.2.2 (inR_vp g3) dX5_restore_15 k) ?_
    refine ev_if (fun Q => rn_if_ne (tgt := 22) dX5_restore_16 (by decide)) (fun c11 => ?_) (fun c12 => ?_)
    · refine ev_s (fun Q k => rn_bipush (v := -5) (by decide) dX5_restore_19 k) ?_
      exact ev_ret (fun Q q => rn_ret q .int rfl rfl dX5_restore_21)
    · refine ev_s (fun Q k => rn_aload_n (j := 0) 0 rfl rfl (okO_0 ok_18) dX5_restore_22 k) ?_
      refine ev_s (fun Q k => rn_getr (q := 85) f_X5_30 ok_18.1 ok_18.2.1 (okO_1 ok_18) rfl rfl dX5_restore_23 k) ?_
      refine ev_s (fun Q k => rn_aload_n (j := 0) 0 rfl rfl (okO_0 ok_18) dX5_restore_26 k) ?_
      refine ev_s (fun Q k => rn_getr (q := 19) f_X5_10 ok_18.1 ok_18.2.1 (okO_1 ok_18) rfl rfl dX5_restore_27 k) ?_
      refine ev_bindU (as := [.inr (.inr 85), .inr (.inr 19)]) (fun Q Q1 => rn_callV (as := [.inr (.inr 19)]) (rest := []) (o := 85) m_X5_41 dX5_restore_30 (rcv_own ok_85.1 ok_85.2.1 (by decide) (okO_1 ok_85)) rfl rfl (Nat.le_of_ble_eq_true rfl)) pl_X1_note (Nat.le_of_ble_eq_true rfl) rfl (e_X1_note l E d 19 isF_19 D2) (fun r4 D5 => ?_)
      refine ev_s (fun Q k => rn_aload_n (j := 0) 0 rfl rfl (okO_0 ok_18) dX5_restore_33 k) ?_
      refine ev_s (fun Q k => rn_getr (q := 19) f_X5_10 ok_18.1 ok_18.2.1 (okO_1 ok_18) rfl rfl dX5_restore_34 k) ?_
      refine ev_s (fun Q k => rn_aload_n (j := 0) 0 rfl rfl (okO_0 ok_18) dX5_restore_37 k) ?_
      refine ev_s (fun Q k => rn_getr (q := 83) f_X5_19 ok_18.1 ok_18.2.1 (okO_1 ok_18) rfl rfl dX5_restore_38 k) ?_
      refine ev_s (fun Q k => rn_iload_n (j := 1) 1 rfl rfl dX5_restore_41 k) ?_
      refine ev_gd (fun g6 => ?_)
      refine ev_s (fun Q k => rn_aald (q := (314 + 32 * x1.toNatClampNeg)) ok_83.1 ok_83.2.1 (by decide) (by decide) ok_83.2.2 (inR_vp g6) (rSl g6.2) dX5_restore_42 k) ?_
      refine ev_bindU (as := [.inr (.inr 19), .inr (.inr (314 + 32 * x1.toNatClampNeg))]) (fun Q Q1 => rn_callV (as := [.inr (.inr (314 + 32 * x1.toNatClampNeg))]) (rest := []) (o := 19) m_X5_148 dX5_restore_43 (rcv_own (oF isF_19).1 (oF isF_19).2.1 (by decide) (okO_1 (oF isF_19))) rfl rfl (Nat.le_of_ble_eq_true rfl)) pl_X0_copyFrom (Nat.le_of_ble_eq_true rfl) rfl (e_X0_copyFrom l E (d + 1) 19 isF_19 (314 + 32 * x1.toNatClampNeg) (fSl g6.2) D5) (fun r7 D8 => ?_)
      refine ev_s (fun Q k => rn_aload_n (j := 0) 0 rfl rfl (okO_0 ok_18) dX5_restore_46 k) ?_
      refine ev_s (fun Q k => rn_getr (q := 85) f_X5_30 ok_18.1 ok_18.2.1 (okO_1 ok_18) rfl rfl dX5_restore_47 k) ?_
      refine ev_s (fun Q k => rn_aload_n (j := 0) 0 rfl rfl (okO_0 ok_18) dX5_restore_50 k) ?_
      refine ev_s (fun Q k => rn_getr (q := 19) f_X5_10 ok_18.1 ok_18.2.1 (okO_1 ok_18) rfl rfl dX5_restore_51 k) ?_
      refine ev_s (fun Q k => rn_geti f_X5_197 (oF isF_19).1 (oF isF_19).2.1 (okO_1 (oF isF_19)) rfl dX5_restore_54 k) ?_
      refine ev_bindI (as := [.inr (.inr 85), .inl (D8 19 6)]) (fun Q Q1 => rn_callV (as := [.inl (D8 19 6)]) (rest := []) (o := 85) m_X5_49 dX5_restore_57 (rcv_own ok_85.1 ok_85.2.1 (by decide) (okO_1 ok_85)) rfl rfl (Nat.le_of_ble_eq_true rfl)) pl_X1_keepUnlessError (Nat.le_of_ble_eq_true rfl) rfl (e_X1_keepUnlessError l E d (D8 19 6) D8) (fun r9 D10 => ?_)
      exact ev_ret (fun Q q => rn_ret q .int rfl rfl dX5_restore_60)

def F_X0_hasPerson (B : Nat) (x1 : Int32) (D : dT) : Option (Int32 × dT) := if x1 < 0 then some ((0 : Int32), D) else if (D B 5) ≤ x1 then some ((0 : Int32), D) else some ((1 : Int32), D)
set_option maxRecDepth 20000 in
theorem e_X0_hasPerson (l : Launch) (E : eE) (d : Nat) (B : Nat) (hB : isF B) (x1 : Int32) (D : dT) : ev l E d yX0_hasPerson cX0_hasPerson 2 (some .boolean) 0 [(0, .inr (.inr B)), (1, .inl x1)] [] D eI (F_X0_hasPerson B x1 D) := by
  unfold F_X0_hasPerson
  refine ev_s (fun Q k => rn_iload_n (j := 1) 1 rfl rfl dX0_hasPerson_0 k) ?_
  refine ev_if (fun Q => rn_if_lt (tgt := 16) dX0_hasPerson_1 (by decide)) (fun c3 => ?_) (fun c4 => ?_)
  · refine ev_s (fun Q k => rn_iconst (v := 0) (by decide) dX0_hasPerson_16 k) ?_
    exact ev_ret (fun Q q => rn_ret q .boolean rfl rfl dX0_hasPerson_17)
  · refine ev_s (fun Q k => rn_iload_n (j := 1) 1 rfl rfl dX0_hasPerson_4 k) ?_
    refine ev_s (fun Q k => rn_aload_n (j := 0) 0 rfl rfl (okO_0 (oF hB)) dX0_hasPerson_5 k) ?_
    refine ev_s (fun Q k => rn_geti f_X0_41 (oF hB).1 (oF hB).2.1 (okO_1 (oF hB)) rfl dX0_hasPerson_6 k) ?_
    refine ev_if (fun Q => rn_icmp_ge (tgt := 16) dX0_hasPerson_9 (by decide)) (fun c1 => ?_) (fun c2 => ?_)
    · refine ev_s (fun Q k => rn_iconst (v := 0) (by decide) dX0_hasPerson_16 k) ?_
      exact ev_ret (fun Q q => rn_ret q .boolean rfl rfl dX0_hasPerson_17)
    · refine ev_s (fun Q k => rn_iconst (v := 1) (by decide) dX0_hasPerson_12 k) ?_
      refine ev_s (fun Q k => rn_goto (tgt := 17) dX0_hasPerson_13 (by decide) k) ?_
      exact ev_ret (fun Q q => rn_ret q .boolean rfl rfl dX0_hasPerson_17)

def F_X4_hoursOfRest (o : Nat) (x1 : Int32) (D : dT) : Option (Int32 × dT) := if ¬ (if (1 : Int32) < x1 then x1 else (1 : Int32)) = 0 then some ((((((D o 0) - (D o 1)) + (if (1 : Int32) < x1 then x1 else (1 : Int32))) - (1 : Int32)) / (if (1 : Int32) < x1 then x1 else (1 : Int32))), D) else none
set_option maxRecDepth 20000 in
theorem e_X4_hoursOfRest (l : Launch) (E : eE) (d : Nat) (o : Nat) (ho : okO o 4 0) (x1 : Int32) (D : dT) : ev l E (d + 1) yX4_hoursOfRest cX4_hoursOfRest 3 (some .int) 0 [(0, .inr (.inr o)), (1, .inl x1)] [] D eI (F_X4_hoursOfRest o x1 D) := by
  unfold F_X4_hoursOfRest
  refine ev_s (fun Q k => rn_iconst (v := 1) (by decide) dX4_hoursOfRest_0 k) ?_
  refine ev_s (fun Q k => rn_iload_n (j := 1) 1 rfl rfl dX4_hoursOfRest_1 k) ?_
  refine ev_s (fun Q k => rn_mmax mth_X4_33 (Nat.le_of_ble_eq_true rfl) dX4_hoursOfRest_2 k) ?_
  refine ev_s (fun Q k => rn_istore_n (j := 2) (ls' := [(2, .inl (if (1 : Int32) < x1 then x1 else (1 : Int32))), (0, .inr (.inr o)), (1, .inl x1)]) rfl (by decide) rfl dX4_hoursOfRest_5 k) ?_
  refine ev_s (fun Q k => rn_aload_n (j := 0) 1 rfl rfl (okO_0 ho) dX4_hoursOfRest_6 k) ?_
  refine ev_s (fun Q k => rn_geti f_X4_9 ho.1 ho.2.1 (okO_1 ho) rfl dX4_hoursOfRest_7 k) ?_
  refine ev_s (fun Q k => rn_aload_n (j := 0) 1 rfl rfl (okO_0 ho) dX4_hoursOfRest_10 k) ?_
  refine ev_s (fun Q k => rn_geti f_X4_15 ho.1 ho.2.1 (okO_1 ho) rfl dX4_hoursOfRest_11 k) ?_
  refine ev_s (fun Q k => rn_isub dX4_hoursOfRest_14 k) ?_
  refine ev_s (fun Q k => rn_iload_n (j := 2) 0 rfl rfl dX4_hoursOfRest_15 k) ?_
  refine ev_s (fun Q k => rn_iadd dX4_hoursOfRest_16 k) ?_
  refine ev_s (fun Q k => rn_iconst (v := 1) (by decide) dX4_hoursOfRest_17 k) ?_
  refine ev_s (fun Q k => rn_isub dX4_hoursOfRest_18 k) ?_
  refine ev_s (fun Q k => rn_iload_n (j := 2) 0 rfl rfl dX4_hoursOfRest_19 k) ?_
  refine ev_gd (fun g1 => ?_)
  refine ev_s (fun Q k => rn_idiv g1 dX4_hoursOfRest_20 k) ?_
  exact ev_ret (fun Q q => rn_ret q .int rfl rfl dX4_hoursOfRest_21)

def F_X4_tell (o : Nat) (x1 : Int32) (x2 : Int32) (D : dT) : Option (Int32 × dT) := if x1 = (0 : Int32) then some ((D o 0), D) else if x1 = (1 : Int32) then some ((D o 1), D) else if x1 = (2 : Int32) then some ((D o 2), D) else if x1 = (3 : Int32) then some ((D o 3), D) else if x1 = (4 : Int32) then some ((D o 4), D) else if x1 = (5 : Int32) then bd (F_X4_hoursOfRest o x2 D) (fun (r11 : Int32) (D12 : dT) => some (r11, D12)) else some ((-2 : Int32), D)
set_option maxRecDepth 20000 in
theorem e_X4_tell (l : Launch) (E : eE) (d : Nat) (o : Nat) (ho : okO o 4 0) (x1 : Int32) (x2 : Int32) (D : dT) : ev l E (d + 2) yX4_tell cX4_tell 3 (some .int) 0 [(0, .inr (.inr o)), (1, .inl x1), (2, .inl x2)] [] D eI (F_X4_tell o x1 x2 D) := by
  unfold F_X4_tell
  refine ev_s (fun Q k => rn_iload_n (j := 1) 1 rfl rfl dX4_tell_0 k) ?_
  refine ev_ite (fun c1 => ?_) (fun c2 => ?_)
  · refine ev_s (fun Q k => rn_tswI (off := 39) (tgt := 40) dX4_tell_1 (by rw [c1]; decide) (by rw [c1]; decide) (by rw [c1]; rfl) (by decide) k) ?_
    refine ev_s (fun Q k => rn_aload_n (j := 0) 0 rfl rfl (okO_0 ho) dX4_tell_40 k) ?_
    refine ev_s (fun Q k => rn_geti f_X4_9 ho.1 ho.2.1 (okO_1 ho) rfl dX4_tell_41 k) ?_
    exact ev_ret (fun Q q => rn_ret q .int rfl rfl dX4_tell_44)
  · refine ev_ite (fun c3 => ?_) (fun c4 => ?_)
    · refine ev_s (fun Q k => rn_tswI (off := 44) (tgt := 45) dX4_tell_1 (by rw [c3]; decide) (by rw [c3]; decide) (by rw [c3]; rfl) (by decide) k) ?_
      refine ev_s (fun Q k => rn_aload_n (j := 0) 0 rfl rfl (okO_0 ho) dX4_tell_45 k) ?_
      refine ev_s (fun Q k => rn_geti f_X4_15 ho.1 ho.2.1 (okO_1 ho) rfl dX4_tell_46 k) ?_
      exact ev_ret (fun Q q => rn_ret q .int rfl rfl dX4_tell_49)
    · refine ev_ite (fun c5 => ?_) (fun c6 => ?_)
      · refine ev_s (fun Q k => rn_tswI (off := 49) (tgt := 50) dX4_tell_1 (by rw [c5]; decide) (by rw [c5]; decide) (by rw [c5]; rfl) (by decide) k) ?_
        refine ev_s (fun Q k => rn_aload_n (j := 0) 0 rfl rfl (okO_0 ho) dX4_tell_50 k) ?_
        refine ev_s (fun Q k => rn_geti f_X4_18 ho.1 ho.2.1 (okO_1 ho) rfl dX4_tell_51 k) ?_
        exact ev_ret (fun Q q => rn_ret q .int rfl rfl dX4_tell_54)
      · refine ev_ite (fun c7 => ?_) (fun c8 => ?_)
        · refine ev_s (fun Q k => rn_tswI (off := 54) (tgt := 55) dX4_tell_1 (by rw [c7]; decide) (by rw [c7]; decide) (by rw [c7]; rfl) (by decide) k) ?_
          refine ev_s (fun Q k => rn_aload_n (j := 0) 0 rfl rfl (okO_0 ho) dX4_tell_55 k) ?_
          refine ev_s (fun Q k => rn_geti f_X4_21 ho.1 ho.2.1 (okO_1 ho) rfl dX4_tell_56 k) ?_
          exact ev_ret (fun Q q => rn_ret q .int rfl rfl dX4_tell_59)
        · refine ev_ite (fun c9 => ?_) (fun c10 => ?_)
          · refine ev_s (fun Q k => rn_tswI (off := 59) (tgt := 60) dX4_tell_1 (by rw [c9]; decide) (by rw [c9]; decide) (by rw [c9]; rfl) (by decide) k) ?_
            refine ev_s (fun Q k => rn_aload_n (j := 0) 0 rfl rfl (okO_0 ho) dX4_tell_60 k) ?_
            refine ev_s (fun Q k => rn_geti f_X4_24 ho.1 ho.2.1 (okO_1 ho) rfl dX4_tell_61 k) ?_
            exact ev_ret (fun Q q => rn_ret q .int rfl rfl dX4_tell_64)
          · refine ev_ite (fun c13 => ?_) (fun c14 => ?_)
            · refine ev_s (fun Q k => rn_tswI (off := 64) (tgt := 65) dX4_tell_1 (by rw [c13]; decide) (by rw [c13]; decide) (by rw [c13]; rfl) (by decide) k) ?_
              refine ev_s (fun Q k => rn_aload_n (j := 0) 0 rfl rfl (okO_0 ho) dX4_tell_65 k) ?_
              refine ev_s (fun Q k => rn_iload_n (j := 2) 2 rfl rfl dX4_tell_66 k) ?_
              refine ev_bindI (as := [.inr (.inr o), .inl x2]) (fun Q Q1 => rn_callV (as := [.inl x2]) (rest := []) (o := o) m_X4_36 dX4_tell_67 (rcv_own ho.1 ho.2.1 (by decide) (okO_1 ho)) rfl rfl (Nat.le_of_ble_eq_true rfl)) pl_X4_hoursOfRest (Nat.le_of_ble_eq_true rfl) rfl (e_X4_hoursOfRest l E d o ho x2 D) (fun r11 D12 => ?_)
              exact ev_ret (fun Q q => rn_ret q .int rfl rfl dX4_tell_70)
            · have z0 := lv_neT (k := 0) (a := 0) c2 (by decide)
              have z1 := lv_neT (k := 1) (a := 1) c4 (by decide)
              have z2 := lv_neT (k := 2) (a := 2) c6 (by decide)
              have z3 := lv_neT (k := 3) (a := 3) c8 (by decide)
              have z4 := lv_neT (k := 4) (a := 4) c10 (by decide)
              have z5 := lv_neT (k := 5) (a := 5) c14 (by decide)
              refine ev_s (fun Q k => rn_tswO (tgt := 71) dX4_tell_1 (by omega) (by decide) k) ?_
              refine ev_s (fun Q k => rn_bipush (v := -2) (by decide) dX4_tell_71 k) ?_
              exact ev_ret (fun Q q => rn_ret q .int rfl rfl dX4_tell_73)

def F_X5_of (x1 : Int32) (x2 : Int32) (D : dT) : Option (Int32 × dT) := bd (F_X0_hasPerson 19 x1 D) (fun (r1 : Int32) (D2 : dT) => if r1 = 0 then some ((-1 : Int32), D2) else if inR x1 10 then if inR (1 : Int32) 4 then bd (F_X4_tell (19 + 6 + x1.toNatClampNeg) x2 (D2 (19 + 1) (1 : Int32).toNatClampNeg) D2) (fun (r5 : Int32) (D6 : dT) => some (r5, D6)) else none else none)
set_option maxRecDepth 20000 in
theorem e_X5_of (l : Launch) (E : eE) (d : Nat) (x1 : Int32) (x2 : Int32) (D : dT) : ev l E (d + 3) yX5_of cX5_of 3 (some .int) 0 [(0, .inr (.inr 18)), (1, .inl x1), (2, .inl x2)] [] D eI (F_X5_of x1 x2 D) := by
  unfold F_X5_of
  refine ev_s (fun Q k => rn_aload_n (j := 0) 0 rfl rfl (okO_0 ok_18) dX5_of_0 k) ?_
  refine ev_s (fun Q k => rn_getr (q := 19) f_X5_10 ok_18.1 ok_18.2.1 (okO_1 ok_18) rfl rfl dX5_of_1 k) ?_
  refine ev_s (fun Q k => rn_iload_n (j := 1) 1 rfl rfl dX5_of_4 k) ?_
  refine ev_bindI (as := [.inr (.inr 19), .inl x1]) (fun Q Q1 => rn_callV (as := [.inl x1]) (rest := []) (o := 19) m_X5_80 dX5_of_5 (rcv_own (oF isF_19).1 (oF isF_19).2.1 (by decide) (okO_1 (oF isF_19))) rfl rfl (Nat.le_of_ble_eq_true rfl)) pl_X0_hasPerson (Nat.le_of_ble_eq_true rfl) rfl (e_X0_hasPerson l E (d + 2) 19 isF_19 x1 D) (fun r1 D2 => ?_)
  refine ev_if (fun Q => rn_if_ne (tgt := 13) dX5_of_8 (by decide)) (fun c7 => ?_) (fun c8 => ?_)
  · refine ev_s (fun Q k => rn_iconst (v := -1) (by decide) dX5_of_11 k) ?_
    exact ev_ret (fun Q q => rn_ret q .int rfl rfl dX5_of_12)
  · refine ev_s (fun Q k => rn_aload_n (j := 0) 0 rfl rfl (okO_0 ok_18) dX5_of_13 k) ?_
    refine ev_s (fun Q k => rn_getr (q := 19) f_X5_10 ok_18.1 ok_18.2.1 (okO_1 ok_18) rfl rfl dX5_of_14 k) ?_
    refine ev_s (fun Q k => rn_getr (q := (19 + 4)) f_X5_84 (oF isF_19).1 (oF isF_19).2.1 (okO_1 (oF isF_19)) rfl (rF3 isF_19) dX5_of_17 k) ?_
    refine ev_s (fun Q k => rn_iload_n (j := 1) 1 rfl rfl dX5_of_20 k) ?_
    refine ev_gd (fun g3 => ?_)
    refine ev_s (fun Q k => rn_aald (q := (19 + 6 + x1.toNatClampNeg)) (oF4 isF_19).1 (oF4 isF_19).2.1 (by decide) (by decide) (oF4 isF_19).2.2 (inR_vp g3) (rP isF_19 g3.2) dX5_of_21 k) ?_
    refine ev_s (fun Q k => rn_iload_n (j := 2) 2 rfl rfl dX5_of_22 k) ?_
    refine ev_s (fun Q k => rn_aload_n (j := 0) 0 rfl rfl (okO_0 ok_18) dX5_of_23 k) ?_
    refine ev_s (fun Q k => rn_getr (q := 19) f_X5_10 ok_18.1 ok_18.2.1 (okO_1 ok_18) rfl rfl dX5_of_24 k) ?_
    refine ev_s (fun Q k => rn_getr (q := (19 + 1)) f_X5_88 (oF isF_19).1 (oF isF_19).2.1 (okO_1 (oF isF_19)) rfl (rF0 isF_19) dX5_of_27 k) ?_
    refine ev_s (fun Q k => rn_iconst (v := 1) (by decide) dX5_of_30 k) ?_
    refine ev_gd (fun g4 => ?_)
    refine ev_s (fun Q k => rn_iald (oF1 isF_19).1 (oF1 isF_19).2.1 (oF1 isF_19).2.2 (inR_vp g4) dX5_of_31 k) ?_
    refine ev_bindI (as := [.inr (.inr (19 + 6 + x1.toNatClampNeg)), .inl x2, .inl (D2 (19 + 1) (1 : Int32).toNatClampNeg)]) (fun Q Q1 => rn_callV (as := [.inl x2, .inl (D2 (19 + 1) (1 : Int32).toNatClampNeg)]) (rest := []) (o := (19 + 6 + x1.toNatClampNeg)) m_X5_92 dX5_of_32 (rcv_own (oP isF_19 g3.2).1 (oP isF_19 g3.2).2.1 (by decide) (okO_1 (oP isF_19 g3.2))) rfl rfl (Nat.le_of_ble_eq_true rfl)) pl_X4_tell (Nat.le_of_ble_eq_true rfl) rfl (e_X4_tell l E d (19 + 6 + x1.toNatClampNeg) (oP isF_19 g3.2) x2 (D2 (19 + 1) (1 : Int32).toNatClampNeg) D2) (fun r5 D6 => ?_)
    exact ev_ret (fun Q q => rn_ret q .int rfl rfl dX5_of_35)

def F_X0_hasJob (B : Nat) (x1 : Int32) (D : dT) : Option (Int32 × dT) := if x1 < 0 then some ((0 : Int32), D) else if (D B 6) ≤ x1 then some ((0 : Int32), D) else some ((1 : Int32), D)
set_option maxRecDepth 20000 in
theorem e_X0_hasJob (l : Launch) (E : eE) (d : Nat) (B : Nat) (hB : isF B) (x1 : Int32) (D : dT) : ev l E d yX0_hasJob cX0_hasJob 2 (some .boolean) 0 [(0, .inr (.inr B)), (1, .inl x1)] [] D eI (F_X0_hasJob B x1 D) := by
  unfold F_X0_hasJob
  refine ev_s (fun Q k => rn_iload_n (j := 1) 1 rfl rfl dX0_hasJob_0 k) ?_
  refine ev_if (fun Q => rn_if_lt (tgt := 16) dX0_hasJob_1 (by decide)) (fun c3 => ?_) (fun c4 => ?_)
  · refine ev_s (fun Q k => rn_iconst (v := 0) (by decide) dX0_hasJob_16 k) ?_
    exact ev_ret (fun Q q => rn_ret q .boolean rfl rfl dX0_hasJob_17)
  · refine ev_s (fun Q k => rn_iload_n (j := 1) 1 rfl rfl dX0_hasJob_4 k) ?_
    refine ev_s (fun Q k => rn_aload_n (j := 0) 0 rfl rfl (okO_0 (oF hB)) dX0_hasJob_5 k) ?_
    refine ev_s (fun Q k => rn_geti f_X0_45 (oF hB).1 (oF hB).2.1 (okO_1 (oF hB)) rfl dX0_hasJob_6 k) ?_
    refine ev_if (fun Q => rn_icmp_ge (tgt := 16) dX0_hasJob_9 (by decide)) (fun c1 => ?_) (fun c2 => ?_)
    · refine ev_s (fun Q k => rn_iconst (v := 0) (by decide) dX0_hasJob_16 k) ?_
      exact ev_ret (fun Q q => rn_ret q .boolean rfl rfl dX0_hasJob_17)
    · refine ev_s (fun Q k => rn_iconst (v := 1) (by decide) dX0_hasJob_12 k) ?_
      refine ev_s (fun Q k => rn_goto (tgt := 17) dX0_hasJob_13 (by decide) k) ?_
      exact ev_ret (fun Q q => rn_ret q .boolean rfl rfl dX0_hasJob_17)

def F_X2_wasBegun (o : Nat) (D : dT) : Option (Int32 × dT) := if (D o 7) = 0 then some ((0 : Int32), D) else some ((1 : Int32), D)
set_option maxRecDepth 20000 in
theorem e_X2_wasBegun (l : Launch) (E : eE) (d : Nat) (o : Nat) (ho : okO o 2 0) (D : dT) : ev l E d yX2_wasBegun cX2_wasBegun 1 (some .boolean) 0 [(0, .inr (.inr o))] [] D eI (F_X2_wasBegun o D) := by
  unfold F_X2_wasBegun
  refine ev_s (fun Q k => rn_aload_n (j := 0) 0 rfl rfl (okO_0 ho) dX2_wasBegun_0 k) ?_
  refine ev_s (fun Q k => rn_geti f_X2_33 ho.1 ho.2.1 (okO_1 ho) rfl dX2_wasBegun_1 k) ?_
  refine ev_if (fun Q => rn_if_eq (tgt := 11) dX2_wasBegun_4 (by decide)) (fun c1 => ?_) (fun c2 => ?_)
  · refine ev_s (fun Q k => rn_iconst (v := 0) (by decide) dX2_wasBegun_11 k) ?_
    exact ev_ret (fun Q q => rn_ret q .boolean rfl rfl dX2_wasBegun_12)
  · refine ev_s (fun Q k => rn_iconst (v := 1) (by decide) dX2_wasBegun_7 k) ?_
    refine ev_s (fun Q k => rn_goto (tgt := 12) dX2_wasBegun_8 (by decide) k) ?_
    exact ev_ret (fun Q q => rn_ret q .boolean rfl rfl dX2_wasBegun_12)

def F_X0_loadNow (B : Nat) (o1 : Nat) (D : dT) : Option (Int32 × dT) := if inR (0 : Int32) 4 then some ((((D o1 0) * ((100 : Int32) + ((D (B + 1) (0 : Int32).toNatClampNeg) * (D o1 1)))) / (100 : Int32)), D) else none
set_option maxRecDepth 20000 in
theorem e_X0_loadNow (l : Launch) (E : eE) (d : Nat) (B : Nat) (hB : isF B) (o1 : Nat) (ho1 : okO o1 2 0) (D : dT) : ev l E d yX0_loadNow cX0_loadNow 2 (some .int) 0 [(0, .inr (.inr B)), (1, .inr (.inr o1))] [] D eI (F_X0_loadNow B o1 D) := by
  unfold F_X0_loadNow
  refine ev_s (fun Q k => rn_aload_n (j := 1) 1 rfl rfl (okO_0 ho1) dX0_loadNow_0 k) ?_
  refine ev_s (fun Q k => rn_geti f_X0_85 ho1.1 ho1.2.1 (okO_1 ho1) rfl dX0_loadNow_1 k) ?_
  refine ev_s (fun Q k => rn_bipush (v := 100) (by decide) dX0_loadNow_4 k) ?_
  refine ev_s (fun Q k => rn_aload_n (j := 0) 0 rfl rfl (okO_0 (oF hB)) dX0_loadNow_6 k) ?_
  refine ev_s (fun Q k => rn_getr (q := (B + 1)) f_X0_9 (oF hB).1 (oF hB).2.1 (okO_1 (oF hB)) rfl (rF0 hB) dX0_loadNow_7 k) ?_
  refine ev_s (fun Q k => rn_iconst (v := 0) (by decide) dX0_loadNow_10 k) ?_
  refine ev_gd (fun g1 => ?_)
  refine ev_s (fun Q k => rn_iald (oF1 hB).1 (oF1 hB).2.1 (oF1 hB).2.2 (inR_vp g1) dX0_loadNow_11 k) ?_
  refine ev_s (fun Q k => rn_aload_n (j := 1) 1 rfl rfl (okO_0 ho1) dX0_loadNow_12 k) ?_
  refine ev_s (fun Q k => rn_geti f_X0_88 ho1.1 ho1.2.1 (okO_1 ho1) rfl dX0_loadNow_13 k) ?_
  refine ev_s (fun Q k => rn_imul dX0_loadNow_16 k) ?_
  refine ev_s (fun Q k => rn_iadd dX0_loadNow_17 k) ?_
  refine ev_s (fun Q k => rn_imul dX0_loadNow_18 k) ?_
  refine ev_s (fun Q k => rn_bipush (v := 100) (by decide) dX0_loadNow_19 k) ?_
  refine ev_s (fun Q k => rn_idiv (by decide) dX0_loadNow_21 k) ?_
  exact ev_ret (fun Q q => rn_ret q .int rfl rfl dX0_loadNow_22)

def F_X0_tellOfJob (B : Nat) (o1 : Nat) (x2 : Int32) (D : dT) : Option (Int32 × dT) := if x2 = (0 : Int32) then some ((D o1 0), D) else if x2 = (1 : Int32) then some ((D o1 1), D) else if x2 = (2 : Int32) then some ((D o1 2), D) else if x2 = (3 : Int32) then some ((D o1 3), D) else if x2 = (4 : Int32) then some ((D o1 4), D) else if x2 = (5 : Int32) then some ((D o1 5), D) else if x2 = (6 : Int32) then bd (F_X2_wasBegun o1 D) (fun (r13 : Int32) (D14 : dT) => if r13 = 0 then bd (F_X0_loadNow B o1 D14) (fun (r15 : Int32) (D16 : dT) => some (r15, D16)) else some ((D14 o1 6), D14)) else if x2 = (7 : Int32) then some ((D o1 7), D) else if x2 = (8 : Int32) then some ((D o1 8), D) else if x2 = (9 : Int32) then some ((D o1 9), D) else if x2 = (10 : Int32) then some ((D o1 10), D) else if x2 = (11 : Int32) then some ((D o1 11), D) else if x2 = (12 : Int32) then bd (F_X2_isLate o1 (D B 7) D) (fun (r31 : Int32) (D32 : dT) => if r31 = 0 then some ((0 : Int32), D32) else some ((1 : Int32), D32)) else some ((-2 : Int32), D)
set_option maxRecDepth 20000 in
theorem e_X0_tellOfJob (l : Launch) (E : eE) (d : Nat) (B : Nat) (hB : isF B) (o1 : Nat) (ho1 : okO o1 2 0) (x2 : Int32) (D : dT) : ev l E (d + 1) yX0_tellOfJob cX0_tellOfJob 3 (some .int) 0 [(0, .inr (.inr B)), (1, .inr (.inr o1)), (2, .inl x2)] [] D eI (F_X0_tellOfJob B o1 x2 D) := by
  unfold F_X0_tellOfJob
  refine ev_s (fun Q k => rn_iload_n (j := 2) 2 rfl rfl dX0_tellOfJob_0 k) ?_
  refine ev_ite (fun c1 => ?_) (fun c2 => ?_)
  · refine ev_s (fun Q k => rn_tswI (off := 67) (tgt := 68) dX0_tellOfJob_1 (by rw [c1]; decide) (by rw [c1]; decide) (by rw [c1]; rfl) (by decide) k) ?_
    refine ev_s (fun Q k => rn_aload_n (j := 1) 1 rfl rfl (okO_0 ho1) dX0_tellOfJob_68 k) ?_
    refine ev_s (fun Q k => rn_geti f_X0_85 ho1.1 ho1.2.1 (okO_1 ho1) rfl dX0_tellOfJob_69 k) ?_
    exact ev_ret (fun Q q => rn_ret q .int rfl rfl dX0_tellOfJob_72)
  · refine ev_ite (fun c3 => ?_) (fun c4 => ?_)
    · refine ev_s (fun Q k => rn_tswI (off := 72) (tgt := 73) dX0_tellOfJob_1 (by rw [c3]; decide) (by rw [c3]; decide) (by rw [c3]; rfl) (by decide) k) ?_
      refine ev_s (fun Q k => rn_aload_n (j := 1) 1 rfl rfl (okO_0 ho1) dX0_tellOfJob_73 k) ?_
      refine ev_s (fun Q k => rn_geti f_X0_88 ho1.1 ho1.2.1 (okO_1 ho1) rfl dX0_tellOfJob_74 k) ?_
      exact ev_ret (fun Q q => rn_ret q .int rfl rfl dX0_tellOfJob_77)
    · refine ev_ite (fun c5 => ?_) (fun c6 => ?_)
      · refine ev_s (fun Q k => rn_tswI (off := 77) (tgt := 78) dX0_tellOfJob_1 (by rw [c5]; decide) (by rw [c5]; decide) (by rw [c5]; rfl) (by decide) k) ?_
        refine ev_s (fun Q k => rn_aload_n (j := 1) 1 rfl rfl (okO_0 ho1) dX0_tellOfJob_78 k) ?_
        refine ev_s (fun Q k => rn_geti f_X0_200 ho1.1 ho1.2.1 (okO_1 ho1) rfl dX0_tellOfJob_79 k) ?_
        exact ev_ret (fun Q q => rn_ret q .int rfl rfl dX0_tellOfJob_82)
      · refine ev_ite (fun c7 => ?_) (fun c8 => ?_)
        · refine ev_s (fun Q k => rn_tswI (off := 82) (tgt := 83) dX0_tellOfJob_1 (by rw [c7]; decide) (by rw [c7]; decide) (by rw [c7]; rfl) (by decide) k) ?_
          refine ev_s (fun Q k => rn_aload_n (j := 1) 1 rfl rfl (okO_0 ho1) dX0_tellOfJob_83 k) ?_
          refine ev_s (fun Q k => rn_geti f_X0_219 ho1.1 ho1.2.1 (okO_1 ho1) rfl dX0_tellOfJob_84 k) ?_
          exact ev_ret (fun Q q => rn_ret q .int rfl rfl dX0_tellOfJob_87)
        · refine ev_ite (fun c9 => ?_) (fun c10 => ?_)
          · refine ev_s (fun Q k => rn_tswI (off := 87) (tgt := 88) dX0_tellOfJob_1 (by rw [c9]; decide) (by rw [c9]; decide) (by rw [c9]; rfl) (by decide) k) ?_
            refine ev_s (fun Q k => rn_aload_n (j := 1) 1 rfl rfl (okO_0 ho1) dX0_tellOfJob_88 k) ?_
            refine ev_s (fun Q k => rn_geti f_X0_222 ho1.1 ho1.2.1 (okO_1 ho1) rfl dX0_tellOfJob_89 k) ?_
            exact ev_ret (fun Q q => rn_ret q .int rfl rfl dX0_tellOfJob_92)
          · refine ev_ite (fun c11 => ?_) (fun c12 => ?_)
            · refine ev_s (fun Q k => rn_tswI (off := 92) (tgt := 93) dX0_tellOfJob_1 (by rw [c11]; decide) (by rw [c11]; decide) (by rw [c11]; rfl) (by decide) k) ?_
              refine ev_s (fun Q k => rn_aload_n (j := 1) 1 rfl rfl (okO_0 ho1) dX0_tellOfJob_93 k) ?_
              refine ev_s (fun Q k => rn_geti f_X0_120 ho1.1 ho1.2.1 (okO_1 ho1) rfl dX0_tellOfJob_94 k) ?_
              exact ev_ret (fun Q q => rn_ret q .int rfl rfl dX0_tellOfJob_97)
            · refine ev_ite (fun c19 => ?_) (fun c20 => ?_)
              · refine ev_s (fun Q k => rn_tswI (off := 97) (tgt := 98) dX0_tellOfJob_1 (by rw [c19]; decide) (by rw [c19]; decide) (by rw [c19]; rfl) (by decide) k) ?_
                refine ev_s (fun Q k => rn_aload_n (j := 1) 1 rfl rfl (okO_0 ho1) dX0_tellOfJob_98 k) ?_
                refine ev_bindI (as := [.inr (.inr o1)]) (fun Q Q1 => rn_callV (as := []) (rest := []) (o := o1) m_X0_225 dX0_tellOfJob_99 (rcv_own ho1.1 ho1.2.1 (by decide) (okO_1 ho1)) rfl rfl (Nat.le_of_ble_eq_true rfl)) pl_X2_wasBegun (Nat.le_of_ble_eq_true rfl) rfl (e_X2_wasBegun l E d o1 ho1 D) (fun r13 D14 => ?_)
                refine ev_if (fun Q => rn_if_eq (tgt := 112) dX0_tellOfJob_102 (by decide)) (fun c17 => ?_) (fun c18 => ?_)
                · refine ev_s (fun Q k => rn_aload_n (j := 0) 0 rfl rfl (okO_0 (oF hB)) dX0_tellOfJob_112 k) ?_
                  refine ev_s (fun Q k => rn_aload_n (j := 1) 1 rfl rfl (okO_0 ho1) dX0_tellOfJob_113 k) ?_
                  refine ev_bindI (as := [.inr (.inr B), .inr (.inr o1)]) (fun Q Q1 => rn_callV (as := [.inr (.inr o1)]) (rest := []) (o := B) m_X0_94 dX0_tellOfJob_114 (rcv_own (oF hB).1 (oF hB).2.1 (by decide) (okO_1 (oF hB))) rfl rfl (Nat.le_of_ble_eq_true rfl)) pl_X0_loadNow (Nat.le_of_ble_eq_true rfl) rfl (e_X0_loadNow l E d B hB o1 ho1 D14) (fun r15 D16 => ?_)
                  exact ev_ret (fun Q q => rn_ret q .int rfl rfl dX0_tellOfJob_117)
                · refine ev_s (fun Q k => rn_aload_n (j := 1) 1 rfl rfl (okO_0 ho1) dX0_tellOfJob_105 k) ?_
                  refine ev_s (fun Q k => rn_geti f_X0_154 ho1.1 ho1.2.1 (okO_1 ho1) rfl dX0_tellOfJob_106 k) ?_
                  refine ev_s (fun Q k => rn_goto (tgt := 117) dX0_tellOfJob_109 (by decide) k) ?_
                  exact ev_ret (fun Q q => rn_ret q .int rfl rfl dX0_tellOfJob_117)
              · refine ev_ite (fun c21 => ?_) (fun c22 => ?_)
                · refine ev_s (fun Q k => rn_tswI (off := 117) (tgt := 118) dX0_tellOfJob_1 (by rw [c21]; decide) (by rw [c21]; decide) (by rw [c21]; rfl) (by decide) k) ?_
                  refine ev_s (fun Q k => rn_aload_n (j := 1) 1 rfl rfl (okO_0 ho1) dX0_tellOfJob_118 k) ?_
                  refine ev_s (fun Q k => rn_geti f_X0_157 ho1.1 ho1.2.1 (okO_1 ho1) rfl dX0_tellOfJob_119 k) ?_
                  exact ev_ret (fun Q q => rn_ret q .int rfl rfl dX0_tellOfJob_122)
                · refine ev_ite (fun c23 => ?_) (fun c24 => ?_)
                  · refine ev_s (fun Q k => rn_tswI (off := 122) (tgt := 123) dX0_tellOfJob_1 (by rw [c23]; decide) (by rw [c23]; decide) (by rw [c23]; rfl) (by decide) k) ?_
                    refine ev_s (fun Q k => rn_aload_n (j := 1) 1 rfl rfl (okO_0 ho1) dX0_tellOfJob_123 k) ?_
                    refine ev_s (fun Q k => rn_geti f_X0_160 ho1.1 ho1.2.1 (okO_1 ho1) rfl dX0_tellOfJob_124 k) ?_
                    exact ev_ret (fun Q q => rn_ret q .int rfl rfl dX0_tellOfJob_127)
                  · refine ev_ite (fun c25 => ?_) (fun c26 => ?_)
                    · refine ev_s (fun Q k => rn_tswI (off := 127) (tgt := 128) dX0_tellOfJob_1 (by rw [c25]; decide) (by rw [c25]; decide) (by rw [c25]; rfl) (by decide) k) ?_
                      refine ev_s (fun Q k => rn_aload_n (j := 1) 1 rfl rfl (okO_0 ho1) dX0_tellOfJob_128 k) ?_
                      refine ev_s (fun Q k => rn_geti f_X0_183 ho1.1 ho1.2.1 (okO_1 ho1) rfl dX0_tellOfJob_129 k) ?_
                      exact ev_ret (fun Q q => rn_ret q .int rfl rfl dX0_tellOfJob_132)
                    · refine ev_ite (fun c27 => ?_) (fun c28 => ?_)
                      · refine ev_s (fun Q k => rn_tswI (off := 132) (tgt := 133) dX0_tellOfJob_1 (by rw [c27]; decide) (by rw [c27]; decide) (by rw [c27]; rfl) (by decide) k) ?_
                        refine ev_s (fun Q k => rn_aload_n (j := 1) 1 rfl rfl (okO_0 ho1) dX0_tellOfJob_133 k) ?_
                        refine ev_s (fun Q k => rn_geti f_X0_199 ho1.1 ho1.2.1 (okO_1 ho1) rfl dX0_tellOfJob_134 k) ?_
                        exact ev_ret (fun Q q => rn_ret q .int rfl rfl dX0_tellOfJob_137)
                      · refine ev_ite (fun c29 => ?_) (fun c30 => ?_)
                        · refine ev_s (fun Q k => rn_tswI (off := 137) (tgt := 138) dX0_tellOfJob_1 (by rw [c29]; decide) (by rw [c29]; decide) (by rw [c29]; rfl) (by decide) k) ?_
                          refine ev_s (fun Q k => rn_aload_n (j := 1) 1 rfl rfl (okO_0 ho1) dX0_tellOfJob_138 k) ?_
                          refine ev_s (fun Q k => rn_geti f_X0_207 ho1.1 ho1.2.1 (okO_1 ho1) rfl dX0_tellOfJob_139 k) ?_
                          exact ev_ret (fun Q q => rn_ret q .int rfl rfl dX0_tellOfJob_142)
                        · refine ev_ite (fun c35 => ?_) (fun c36 => ?_)
                          · refine ev_s (fun Q k => rn_tswI (off := 142) (tgt := 143) dX0_tellOfJob_1 (by rw [c35]; decide) (by rw [c35]; decide) (by rw [c35]; rfl) (by decide) k) ?_
                            refine ev_s (fun Q k => rn_aload_n (j := 1) 1 rfl rfl (okO_0 ho1) dX0_tellOfJob_143 k) ?_
                            refine ev_s (fun Q k => rn_aload_n (j := 0) 0 rfl rfl (okO_0 (oF hB)) dX0_tellOfJob_144 k) ?_
                            refine ev_s (fun Q k => rn_geti f_X0_48 (oF hB).1 (oF hB).2.1 (okO_1 (oF hB)) rfl dX0_tellOfJob_145 k) ?_
                            refine ev_bindI (as := [.inr (.inr o1), .inl (D B 7)]) (fun Q Q1 => rn_callV (as := [.inl (D B 7)]) (rest := []) (o := o1) m_X0_229 dX0_tellOfJob_148 (rcv_own ho1.1 ho1.2.1 (by decide) (okO_1 ho1)) rfl rfl (Nat.le_of_ble_eq_true rfl)) pl_X2_isLate (Nat.le_of_ble_eq_true rfl) rfl (e_X2_isLate l E d o1 ho1 (D B 7) D) (fun r31 D32 => ?_)
                            refine ev_if (fun Q => rn_if_eq (tgt := 158) dX0_tellOfJob_151 (by decide)) (fun c33 => ?_) (fun c34 => ?_)
                            · refine ev_s (fun Q k => rn_iconst (v := 0) (by decide) dX0_tellOfJob_158 k) ?_
                              exact ev_ret (fun Q q => rn_ret q .int rfl rfl dX0_tellOfJob_159)
                            · refine ev_s (fun Q k => rn_iconst (v := 1) (by decide) dX0_tellOfJob_154 k) ?_
                              refine ev_s (fun Q k => rn_goto (tgt := 159) dX0_tellOfJob_155 (by decide) k) ?_
                              exact ev_ret (fun Q q => rn_ret q .int rfl rfl dX0_tellOfJob_159)
                          · have z0 := lv_neT (k := 0) (a := 0) c2 (by decide)
                            have z1 := lv_neT (k := 1) (a := 1) c4 (by decide)
                            have z2 := lv_neT (k := 2) (a := 2) c6 (by decide)
                            have z3 := lv_neT (k := 3) (a := 3) c8 (by decide)
                            have z4 := lv_neT (k := 4) (a := 4) c10 (by decide)
                            have z5 := lv_neT (k := 5) (a := 5) c12 (by decide)
                            have z6 := lv_neT (k := 6) (a := 6) c20 (by decide)
                            have z7 := lv_neT (k := 7) (a := 7) c22 (by decide)
                            have z8 := lv_neT (k := 8) (a := 8) c24 (by decide)
                            have z9 := lv_neT (k := 9) (a := 9) c26 (by decide)
                            have z10 := lv_neT (k := 10) (a := 10) c28 (by decide)
                            have z11 := lv_neT (k := 11) (a := 11) c30 (by decide)
                            have z12 := lv_neT (k := 12) (a := 12) c36 (by decide)
                            refine ev_s (fun Q k => rn_tswO (tgt := 160) dX0_tellOfJob_1 (by omega) (by decide) k) ?_
                            refine ev_s (fun Q k => rn_bipush (v := -2) (by decide) dX0_tellOfJob_160 k) ?_
                            exact ev_ret (fun Q q => rn_ret q .int rfl rfl dX0_tellOfJob_162)

def F_X5_ofJob (x1 : Int32) (x2 : Int32) (D : dT) : Option (Int32 × dT) := bd (F_X0_hasJob 19 x1 D) (fun (r1 : Int32) (D2 : dT) => if r1 = 0 then some ((-1 : Int32), D2) else if inR x1 16 then bd (F_X0_tellOfJob 19 (19 + 16 + x1.toNatClampNeg) x2 D2) (fun (r4 : Int32) (D5 : dT) => some (r4, D5)) else none)
set_option maxRecDepth 20000 in
theorem e_X5_ofJob (l : Launch) (E : eE) (d : Nat) (x1 : Int32) (x2 : Int32) (D : dT) : ev l E (d + 2) yX5_ofJob cX5_ofJob 3 (some .int) 0 [(0, .inr (.inr 18)), (1, .inl x1), (2, .inl x2)] [] D eI (F_X5_ofJob x1 x2 D) := by
  unfold F_X5_ofJob
  refine ev_s (fun Q k => rn_aload_n (j := 0) 0 rfl rfl (okO_0 ok_18) dX5_ofJob_0 k) ?_
  refine ev_s (fun Q k => rn_getr (q := 19) f_X5_10 ok_18.1 ok_18.2.1 (okO_1 ok_18) rfl rfl dX5_ofJob_1 k) ?_
  refine ev_s (fun Q k => rn_iload_n (j := 1) 1 rfl rfl dX5_ofJob_4 k) ?_
  refine ev_bindI (as := [.inr (.inr 19), .inl x1]) (fun Q Q1 => rn_callV (as := [.inl x1]) (rest := []) (o := 19) m_X5_97 dX5_ofJob_5 (rcv_own (oF isF_19).1 (oF isF_19).2.1 (by decide) (okO_1 (oF isF_19))) rfl rfl (Nat.le_of_ble_eq_true rfl)) pl_X0_hasJob (Nat.le_of_ble_eq_true rfl) rfl (e_X0_hasJob l E (d + 1) 19 isF_19 x1 D) (fun r1 D2 => ?_)
  refine ev_if (fun Q => rn_if_ne (tgt := 13) dX5_ofJob_8 (by decide)) (fun c6 => ?_) (fun c7 => ?_)
  · refine ev_s (fun Q k => rn_iconst (v := -1) (by decide) dX5_ofJob_11 k) ?_
    exact ev_ret (fun Q q => rn_ret q .int rfl rfl dX5_ofJob_12)
  · refine ev_s (fun Q k => rn_aload_n (j := 0) 0 rfl rfl (okO_0 ok_18) dX5_ofJob_13 k) ?_
    refine ev_s (fun Q k => rn_getr (q := 19) f_X5_10 ok_18.1 ok_18.2.1 (okO_1 ok_18) rfl rfl dX5_ofJob_14 k) ?_
    refine ev_s (fun Q k => rn_aload_n (j := 0) 0 rfl rfl (okO_0 ok_18) dX5_ofJob_17 k) ?_
    refine ev_s (fun Q k => rn_getr (q := 19) f_X5_10 ok_18.1 ok_18.2.1 (okO_1 ok_18) rfl rfl dX5_ofJob_18 k) ?_
    refine ev_s (fun Q k => rn_getr (q := (19 + 5)) f_X5_100 (oF isF_19).1 (oF isF_19).2.1 (okO_1 (oF isF_19)) rfl (rF4 isF_19) dX5_ofJob_21 k) ?_
    refine ev_s (fun Q k => rn_iload_n (j := 1) 1 rfl rfl dX5_ofJob_24 k) ?_
    refine ev_gd (fun g3 => ?_)
    refine ev_s (fun Q k => rn_aald (q := (19 + 16 + x1.toNatClampNeg)) (oF5 isF_19).1 (oF5 isF_19).2.1 (by decide) (by decide) (oF5 isF_19).2.2 (inR_vp g3) (rJ isF_19 g3.2) dX5_ofJob_25 k) ?_
    refine ev_s (fun Q k => rn_iload_n (j := 2) 2 rfl rfl dX5_ofJob_26 k) ?_
    refine ev_bindI (as := [.inr (.inr 19), .inr (.inr (19 + 16 + x1.toNatClampNeg)), .inl x2]) (fun Q Q1 => rn_callV (as := [.inr (.inr (19 + 16 + x1.toNatClampNeg)), .inl x2]) (rest := []) (o := 19) m_X5_104 dX5_ofJob_27 (rcv_own (oF isF_19).1 (oF isF_19).2.1 (by decide) (okO_1 (oF isF_19))) rfl rfl (Nat.le_of_ble_eq_true rfl)) pl_X0_tellOfJob (Nat.le_of_ble_eq_true rfl) rfl (e_X0_tellOfJob l E d 19 isF_19 (19 + 16 + x1.toNatClampNeg) (oJ isF_19 g3.2) x2 D2) (fun r4 D5 => ?_)
    exact ev_ret (fun Q q => rn_ret q .int rfl rfl dX5_ofJob_30)

def F_X5_isKind (x1 : Int32) (D : dT) : Option (Int32 × dT) := if x1 < 0 then some ((0 : Int32), D) else if (3 : Int32) ≤ x1 then some ((0 : Int32), D) else some ((1 : Int32), D)
set_option maxRecDepth 20000 in
theorem e_X5_isKind (l : Launch) (E : eE) (d : Nat) (x1 : Int32) (D : dT) : ev l E d yX5_isKind cX5_isKind 1 (some .boolean) 0 [(0, .inl x1)] [] D eI (F_X5_isKind x1 D) := by
  unfold F_X5_isKind
  refine ev_s (fun Q k => rn_iload_n (j := 0) 0 rfl rfl dX5_isKind_0 k) ?_
  refine ev_if (fun Q => rn_if_lt (tgt := 13) dX5_isKind_1 (by decide)) (fun c3 => ?_) (fun c4 => ?_)
  · refine ev_s (fun Q k => rn_iconst (v := 0) (by decide) dX5_isKind_13 k) ?_
    exact ev_ret (fun Q q => rn_ret q .boolean rfl rfl dX5_isKind_14)
  · refine ev_s (fun Q k => rn_iload_n (j := 0) 0 rfl rfl dX5_isKind_4 k) ?_
    refine ev_s (fun Q k => rn_iconst (v := 3) (by decide) dX5_isKind_5 k) ?_
    refine ev_if (fun Q => rn_icmp_ge (tgt := 13) dX5_isKind_6 (by decide)) (fun c1 => ?_) (fun c2 => ?_)
    · refine ev_s (fun Q k => rn_iconst (v := 0) (by decide) dX5_isKind_13 k) ?_
      exact ev_ret (fun Q q => rn_ret q .boolean rfl rfl dX5_isKind_14)
    · refine ev_s (fun Q k => rn_iconst (v := 1) (by decide) dX5_isKind_9 k) ?_
      refine ev_s (fun Q k => rn_goto (tgt := 14) dX5_isKind_10 (by decide) k) ?_
      exact ev_ret (fun Q q => rn_ret q .boolean rfl rfl dX5_isKind_14)

def F_X5_straps (x1 : Int32) (x2 : Int32) (D : dT) : Option (Int32 × dT) := bd (F_X5_isKind x1 D) (fun (r1 : Int32) (D2 : dT) => if r1 = 0 then some ((-1 : Int32), D2) else if x2 = (0 : Int32) then if inR x1 3 then some ((D2 (19 + 2) x1.toNatClampNeg), D2) else none else if x2 = (1 : Int32) then if inR x1 3 then some ((D2 (19 + 3) x1.toNatClampNeg), D2) else none else some ((-2 : Int32), D2))
set_option maxRecDepth 20000 in
theorem e_X5_straps (l : Launch) (E : eE) (d : Nat) (x1 : Int32) (x2 : Int32) (D : dT) : ev l E (d + 1) yX5_straps cX5_straps 3 (some .int) 0 [(0, .inr (.inr 18)), (1, .inl x1), (2, .inl x2)] [] D eI (F_X5_straps x1 x2 D) := by
  unfold F_X5_straps
  refine ev_s (fun Q k => rn_iload_n (j := 1) 1 rfl rfl dX5_straps_0 k) ?_
  refine ev_bindI (as := [.inl x1]) (fun Q Q1 => rn_callS (as := [.inl x1]) (rest := []) m_X5_111 dX5_straps_1 rfl rfl (Nat.le_of_ble_eq_true rfl)) pl_X5_isKind (Nat.le_of_ble_eq_true rfl) rfl (e_X5_isKind l E d x1 D) (fun r1 D2 => ?_)
  refine ev_if (fun Q => rn_if_ne (tgt := 9) dX5_straps_4 (by decide)) (fun c9 => ?_) (fun c10 => ?_)
  · refine ev_s (fun Q k => rn_iconst (v := -1) (by decide) dX5_straps_7 k) ?_
    exact ev_ret (fun Q q => rn_ret q .int rfl rfl dX5_straps_8)
  · refine ev_s (fun Q k => rn_iload_n (j := 2) 2 rfl rfl dX5_straps_9 k) ?_
    refine ev_ite (fun c4 => ?_) (fun c5 => ?_)
    · refine ev_s (fun Q k => rn_lsw (off := 26) (tgt := 36) dX5_straps_10 (by decide) (by rw [c4]; rfl) (by decide) k) ?_
      refine ev_s (fun Q k => rn_aload_n (j := 0) 0 rfl rfl (okO_0 ok_18) dX5_straps_36 k) ?_
      refine ev_s (fun Q k => rn_getr (q := 19) f_X5_10 ok_18.1 ok_18.2.1 (okO_1 ok_18) rfl rfl dX5_straps_37 k) ?_
      refine ev_s (fun Q k => rn_getr (q := (19 + 2)) f_X5_114 (oF isF_19).1 (oF isF_19).2.1 (okO_1 (oF isF_19)) rfl (rF1 isF_19) dX5_straps_40 k) ?_
      refine ev_s (fun Q k => rn_iload_n (j := 1) 1 rfl rfl dX5_straps_43 k) ?_
      refine ev_gd (fun g3 => ?_)
      refine ev_s (fun Q k => rn_iald (oF2 isF_19).1 (oF2 isF_19).2.1 (oF2 isF_19).2.2 (inR_vp g3) dX5_straps_44 k) ?_
      exact ev_ret (fun Q q => rn_ret q .int rfl rfl dX5_straps_45)
    · refine ev_ite (fun c7 => ?_) (fun c8 => ?_)
      · refine ev_s (fun Q k => rn_lsw (off := 36) (tgt := 46) dX5_straps_10 (by decide) (by rw [c7]; rfl) (by decide) k) ?_
        refine ev_s (fun Q k => rn_aload_n (j := 0) 0 rfl rfl (okO_0 ok_18) dX5_straps_46 k) ?_
        refine ev_s (fun Q k => rn_getr (q := 19) f_X5_10 ok_18.1 ok_18.2.1 (okO_1 ok_18) rfl rfl dX5_straps_47 k) ?_
        refine ev_s (fun Q k => rn_getr (q := (19 + 3)) f_X5_117 (oF isF_19).1 (oF isF_19).2.1 (okO_1 (oF isF_19)) rfl (rF2 isF_19) dX5_straps_50 k) ?_
        refine ev_s (fun Q k => rn_iload_n (j := 1) 1 rfl rfl dX5_straps_53 k) ?_
        refine ev_gd (fun g6 => ?_)
        refine ev_s (fun Q k => rn_iald (oF3 isF_19).1 (oF3 isF_19).2.1 (oF3 isF_19).2.2 (inR_vp g6) dX5_straps_54 k) ?_
        exact ev_ret (fun Q q => rn_ret q .int rfl rfl dX5_straps_55)
      · refine ev_s (fun Q k => rn_lsw (off := 46) (tgt := 56) dX5_straps_10 (by decide) ((lv_osw (k := 0) c5 (by decide)).trans ((lv_osw (k := 1) c8 (by decide)).trans rfl)) (by decide) k) ?_
        refine ev_s (fun Q k => rn_bipush (v := -2) (by decide) dX5_straps_56 k) ?_
        exact ev_ret (fun Q q => rn_ret q .int rfl rfl dX5_straps_58)

def F_X0_changeSetting (B : Nat) (x1 : Int32) (x2 : Int32) (D : dT) : Option (Int32 × dT) := bd (F_X5_isWithin x1 (0 : Int32) ((4 : Int32) - (1 : Int32)) D) (fun (r1 : Int32) (D2 : dT) => if r1 = 0 then some ((-2 : Int32), D2) else if inR x1 4 then if inR x1 4 then bd (F_X5_isWithin x2 (sDat 1 x1.toNatClampNeg) (sDat 2 x1.toNatClampNeg) D2) (fun (r5 : Int32) (D6 : dT) => if r5 = 0 then some ((-2 : Int32), D6) else if inR x1 4 then if inR x1 4 then some ((D6 (B + 1) x1.toNatClampNeg), (up2 D6 (B + 1) x1.toNatClampNeg x2)) else none else none) else none else none)
set_option maxRecDepth 20000 in
theorem e_X0_changeSetting (l : Launch) (E : eE) (d : Nat) (B : Nat) (hB : isF B) (x1 : Int32) (x2 : Int32) (D : dT) : ev l E (d + 1) yX0_changeSetting cX0_changeSetting 4 (some .int) 0 [(0, .inr (.inr B)), (1, .inl x1), (2, .inl x2)] [] D eI (F_X0_changeSetting B x1 x2 D) := by
  unfold F_X0_changeSetting
  refine ev_s (fun Q k => rn_iload_n (j := 1) 1 rfl rfl dX0_changeSetting_0 k) ?_
  refine ev_s (fun Q k => rn_iconst (v := 0) (by decide) dX0_changeSetting_1 k) ?_
  refine ev_s (fun Q k => rn_aload_n (j := 0) 0 rfl rfl (okO_0 (oF hB)) dX0_changeSetting_2 k) ?_
  refine ev_s (fun Q k => rn_getr (q := (B + 1)) f_X0_9 (oF hB).1 (oF hB).2.1 (okO_1 (oF hB)) rfl (rF0 hB) dX0_changeSetting_3 k) ?_
  refine ev_s (fun Q k => rn_alen (v := 4) (oF1 hB).1 (oF1 hB).2.1 (by decide) (by decide) (oF1 hB).2.2 (by decide) dX0_changeSetting_6 k) ?_
  refine ev_s (fun Q k => rn_iconst (v := 1) (by decide) dX0_changeSetting_7 k) ?_
  refine ev_s (fun Q k => rn_isub dX0_changeSetting_8 k) ?_
  refine ev_bindI (as := [.inl x1, .inl (0 : Int32), .inl ((4 : Int32) - (1 : Int32))]) (fun Q Q1 => rn_callSN (as := [.inl x1, .inl (0 : Int32), .inl ((4 : Int32) - (1 : Int32))]) (rest := []) m_X0_64 dX0_changeSetting_9 rfl rfl (Nat.le_of_ble_eq_true rfl)) pl_X5_isWithin (Nat.le_of_ble_eq_true rfl) rfl (e_X5_isWithin l E d x1 (0 : Int32) ((4 : Int32) - (1 : Int32)) D) (fun r1 D2 => ?_)
  refine ev_if (fun Q => rn_if_eq (tgt := 32) dX0_changeSetting_12 (by decide)) (fun c11 => ?_) (fun c12 => ?_)
  · refine ev_s (fun Q k => rn_bipush (v := -2) (by decide) dX0_changeSetting_32 k) ?_
    exact ev_ret (fun Q q => rn_ret q .int rfl rfl dX0_changeSetting_34)
  · refine ev_s (fun Q k => rn_iload_n (j := 2) 2 rfl rfl dX0_changeSetting_15 k) ?_
    refine ev_s (fun Q k => rn_gets (k := 1) (by decide) (by decide) (by decide +kernel) dX0_changeSetting_16 k) ?_
    refine ev_s (fun Q k => rn_iload_n (j := 1) 1 rfl rfl dX0_changeSetting_19 k) ?_
    refine ev_gd (fun g3 => ?_)
    refine ev_s (fun Q k => rn_siald (by decide) (by decide) (inR_vp g3) dX0_changeSetting_20 k) ?_
    refine ev_s (fun Q k => rn_gets (k := 2) (by decide) (by decide) (by decide +kernel) dX0_changeSetting_21 k) ?_
    refine ev_s (fun Q k => rn_iload_n (j := 1) 1 rfl rfl dX0_changeSetting_24 k) ?_
    refine ev_gd (fun g4 => ?_)
    refine ev_s (fun Q k => rn_siald (by decide) (by decide) (inR_vp g4) dX0_changeSetting_25 k) ?_
    refine ev_bindI (as := [.inl x2, .inl (sDat 1 x1.toNatClampNeg), .inl (sDat 2 x1.toNatClampNeg)]) (fun Q Q1 => rn_callSN (as := [.inl x2, .inl (sDat 1 x1.toNatClampNeg), .inl (sDat 2 x1.toNatClampNeg)]) (rest := []) m_X0_64 dX0_changeSetting_26 rfl rfl (Nat.le_of_ble_eq_true rfl)) pl_X5_isWithin (Nat.le_of_ble_eq_true rfl) rfl (e_X5_isWithin l E d x2 (sDat 1 x1.toNatClampNeg) (sDat 2 x1.toNatClampNeg) D2) (fun r5 D6 => ?_)
    refine ev_if (fun Q => rn_if_ne (tgt := 35) dX0_changeSetting_29 (by decide)) (fun c9 => ?_) (fun c10 => ?_)
    · refine ev_s (fun Q k => rn_bipush (v := -2) (by decide) dX0_changeSetting_32 k) ?_
      exact ev_ret (fun Q q => rn_ret q .int rfl rfl dX0_changeSetting_34)
    · refine ev_s (fun Q k => rn_aload_n (j := 0) 0 rfl rfl (okO_0 (oF hB)) dX0_changeSetting_35 k) ?_
      refine ev_s (fun Q k => rn_getr (q := (B + 1)) f_X0_9 (oF hB).1 (oF hB).2.1 (okO_1 (oF hB)) rfl (rF0 hB) dX0_changeSetting_36 k) ?_
      refine ev_s (fun Q k => rn_iload_n (j := 1) 1 rfl rfl dX0_changeSetting_39 k) ?_
      refine ev_gd (fun g7 => ?_)
      refine ev_s (fun Q k => rn_iald (oF1 hB).1 (oF1 hB).2.1 (oF1 hB).2.2 (inR_vp g7) dX0_changeSetting_40 k) ?_
      refine ev_s (fun Q k => rn_istore_n (j := 3) (ls' := [(3, .inl (D6 (B + 1) x1.toNatClampNeg)), (0, .inr (.inr B)), (1, .inl x1), (2, .inl x2)]) rfl (by decide) rfl dX0_changeSetting_41 k) ?_
      refine ev_s (fun Q k => rn_aload_n (j := 0) 1 rfl rfl (okO_0 (oF hB)) dX0_changeSetting_42 k) ?_
      refine ev_s (fun Q k => rn_getr (q := (B + 1)) f_X0_9 (oF hB).1 (oF hB).2.1 (okO_1 (oF hB)) rfl (rF0 hB) dX0_changeSetting_43 k) ?_
      refine ev_s (fun Q k => rn_iload_n (j := 1) 2 rfl rfl dX0_changeSetting_46 k) ?_
      refine ev_s (fun Q k => rn_iload_n (j := 2) 3 rfl rfl dX0_changeSetting_47 k) ?_
      refine ev_gd (fun g8 => ?_)
      refine ev_s (fun Q k => rn_iast (oF1 hB).1 (oF1 hB).2.1 (oF1 hB).2.2 (inR_vp g8) dX0_changeSetting_48 k) ?_
      refine ev_s (fun Q k => rn_iload_n (j := 3) 0 rfl rfl dX0_changeSetting_49 k) ?_
      exact ev_ret (fun Q q => rn_ret q .int rfl rfl dX0_changeSetting_50)

def F_X5_set (x1 : Int32) (x2 : Int32) (D : dT) : Option (Int32 × dT) := bd (F_X1_note 19 D) (fun (r1 : Int32) (D2 : dT) => bd (F_X0_changeSetting 19 x1 x2 D2) (fun (r3 : Int32) (D4 : dT) => bd (F_X1_keepUnlessError r3 D4) (fun (r5 : Int32) (D6 : dT) => some (r5, D6))))
set_option maxRecDepth 20000 in
theorem e_X5_set (l : Launch) (E : eE) (d : Nat) (x1 : Int32) (x2 : Int32) (D : dT) : ev l E (d + 3) yX5_set cX5_set 3 (some .int) 0 [(0, .inr (.inr 18)), (1, .inl x1), (2, .inl x2)] [] D eI (F_X5_set x1 x2 D) := by
  unfold F_X5_set
  refine ev_s (fun Q k => rn_aload_n (j := 0) 0 rfl rfl (okO_0 ok_18) dX5_set_0 k) ?_
  refine ev_s (fun Q k => rn_getr (q := 85) f_X5_30 ok_18.1 ok_18.2.1 (okO_1 ok_18) rfl rfl dX5_set_1 k) ?_
  refine ev_s (fun Q k => rn_aload_n (j := 0) 0 rfl rfl (okO_0 ok_18) dX5_set_4 k) ?_
  refine ev_s (fun Q k => rn_getr (q := 19) f_X5_10 ok_18.1 ok_18.2.1 (okO_1 ok_18) rfl rfl dX5_set_5 k) ?_
  refine ev_bindU (as := [.inr (.inr 85), .inr (.inr 19)]) (fun Q Q1 => rn_callV (as := [.inr (.inr 19)]) (rest := []) (o := 85) m_X5_41 dX5_set_8 (rcv_own ok_85.1 ok_85.2.1 (by decide) (okO_1 ok_85)) rfl rfl (Nat.le_of_ble_eq_true rfl)) pl_X1_note (Nat.le_of_ble_eq_true rfl) rfl (e_X1_note l E d 19 isF_19 D) (fun r1 D2 => ?_)
  refine ev_s (fun Q k => rn_aload_n (j := 0) 0 rfl rfl (okO_0 ok_18) dX5_set_11 k) ?_
  refine ev_s (fun Q k => rn_getr (q := 85) f_X5_30 ok_18.1 ok_18.2.1 (okO_1 ok_18) rfl rfl dX5_set_12 k) ?_
  refine ev_s (fun Q k => rn_aload_n (j := 0) 0 rfl rfl (okO_0 ok_18) dX5_set_15 k) ?_
  refine ev_s (fun Q k => rn_getr (q := 19) f_X5_10 ok_18.1 ok_18.2.1 (okO_1 ok_18) rfl rfl dX5_set_16 k) ?_
  refine ev_s (fun Q k => rn_iload_n (j := 1) 1 rfl rfl dX5_set_19 k) ?_
  refine ev_s (fun Q k => rn_iload_n (j := 2) 2 rfl rfl dX5_set_20 k) ?_
  refine ev_bindI (as := [.inr (.inr 19), .inl x1, .inl x2]) (fun Q Q1 => rn_callV (as := [.inl x1, .inl x2]) (rest := [.inr (.inr 85)]) (o := 19) m_X5_45 dX5_set_21 (rcv_own (oF isF_19).1 (oF isF_19).2.1 (by decide) (okO_1 (oF isF_19))) rfl rfl (Nat.le_of_ble_eq_true rfl)) pl_X0_changeSetting (Nat.le_of_ble_eq_true rfl) rfl (e_X0_changeSetting l E (d + 1) 19 isF_19 x1 x2 D2) (fun r3 D4 => ?_)
  refine ev_bindI (as := [.inr (.inr 85), .inl r3]) (fun Q Q1 => rn_callV (as := [.inl r3]) (rest := []) (o := 85) m_X5_49 dX5_set_24 (rcv_own ok_85.1 ok_85.2.1 (by decide) (okO_1 ok_85)) rfl rfl (Nat.le_of_ble_eq_true rfl)) pl_X1_keepUnlessError (Nat.le_of_ble_eq_true rfl) rfl (e_X1_keepUnlessError l E d r3 D4) (fun r5 D6 => ?_)
  exact ev_ret (fun Q q => rn_ret q .int rfl rfl dX5_set_27)

def F_X4_come (o : Nat) (x1 : Int32) (D : dT) : Option (Int32 × dT) := some ((0 : Int32), (up2 (up2 (up2 (up2 (up2 D o 0 x1) o 1 x1) o 2 (-6 : Int32)) o 3 (0 : Int32)) o 4 (0 : Int32)))
set_option maxRecDepth 20000 in
theorem e_X4_come (l : Launch) (E : eE) (d : Nat) (o : Nat) (ho : okO o 4 0) (x1 : Int32) (D : dT) : ev l E d yX4_come cX4_come 2 none 0 [(0, .inr (.inr o)), (1, .inl x1)] [] D eU (F_X4_come o x1 D) := by
  unfold F_X4_come
  refine ev_s (fun Q k => rn_aload_n (j := 0) 0 rfl rfl (okO_0 ho) dX4_come_0 k) ?_
  refine ev_s (fun Q k => rn_iload_n (j := 1) 1 rfl rfl dX4_come_1 k) ?_
  refine ev_s (fun Q k => rn_puti f_X4_9 ho.1 ho.2.1 (okO_1 ho) rfl rfl rfl rfl dX4_come_2 k) ?_
  refine ev_s (fun Q k => rn_aload_n (j := 0) 0 rfl rfl (okO_0 ho) dX4_come_5 k) ?_
  refine ev_s (fun Q k => rn_iload_n (j := 1) 1 rfl rfl dX4_come_6 k) ?_
  refine ev_s (fun Q k => rn_puti f_X4_15 ho.1 ho.2.1 (okO_1 ho) rfl rfl rfl rfl dX4_come_7 k) ?_
  refine ev_s (fun Q k => rn_aload_n (j := 0) 0 rfl rfl (okO_0 ho) dX4_come_10 k) ?_
  refine ev_s (fun Q k => rn_bipush (v := -6) (by decide) dX4_come_11 k) ?_
  refine ev_s (fun Q k => rn_puti f_X4_18 ho.1 ho.2.1 (okO_1 ho) rfl rfl rfl rfl dX4_come_13 k) ?_
  refine ev_s (fun Q k => rn_aload_n (j := 0) 0 rfl rfl (okO_0 ho) dX4_come_16 k) ?_
  refine ev_s (fun Q k => rn_iconst (v := 0) (by decide) dX4_come_17 k) ?_
  refine ev_s (fun Q k => rn_puti f_X4_21 ho.1 ho.2.1 (okO_1 ho) rfl rfl rfl rfl dX4_come_18 k) ?_
  refine ev_s (fun Q k => rn_aload_n (j := 0) 0 rfl rfl (okO_0 ho) dX4_come_21 k) ?_
  refine ev_s (fun Q k => rn_iconst (v := 0) (by decide) dX4_come_22 k) ?_
  refine ev_s (fun Q k => rn_puti f_X4_24 ho.1 ho.2.1 (okO_1 ho) rfl rfl rfl rfl dX4_come_23 k) ?_
  exact ev_ret (fun Q q => rn_retv q rfl dX4_come_26)

def F_X0_addPerson (B : Nat) (x1 : Int32) (D : dT) : Option (Int32 × dT) := bd (F_X5_isWithin x1 (10 : Int32) (150 : Int32) D) (fun (r1 : Int32) (D2 : dT) => if r1 = 0 then some ((-2 : Int32), D2) else if (D2 B 5) < (10 : Int32) then if inR (D2 B 5) 10 then bd (F_X4_come (B + 6 + (D2 B 5).toNatClampNeg) x1 D2) (fun (r4 : Int32) (D5 : dT) => some ((((up2 D5 B 5 ((D5 B 5) + (1 : Int32))) B 5) - (1 : Int32)), (up2 D5 B 5 ((D5 B 5) + (1 : Int32))))) else none else some ((-4 : Int32), D2))
set_option maxRecDepth 20000 in
theorem e_X0_addPerson (l : Launch) (E : eE) (d : Nat) (B : Nat) (hB : isF B) (x1 : Int32) (D : dT) : ev l E (d + 1) yX0_addPerson cX0_addPerson 2 (some .int) 0 [(0, .inr (.inr B)), (1, .inl x1)] [] D eI (F_X0_addPerson B x1 D) := by
  unfold F_X0_addPerson
  refine ev_s (fun Q k => rn_iload_n (j := 1) 1 rfl rfl dX0_addPerson_0 k) ?_
  refine ev_s (fun Q k => rn_bipush (v := 10) (by decide) dX0_addPerson_1 k) ?_
  refine ev_s (fun Q k => rn_sipush (v := 150) (by decide) dX0_addPerson_3 k) ?_
  refine ev_bindI (as := [.inl x1, .inl (10 : Int32), .inl (150 : Int32)]) (fun Q Q1 => rn_callSN (as := [.inl x1, .inl (10 : Int32), .inl (150 : Int32)]) (rest := []) m_X0_64 dX0_addPerson_6 rfl rfl (Nat.le_of_ble_eq_true rfl)) pl_X5_isWithin (Nat.le_of_ble_eq_true rfl) rfl (e_X5_isWithin l E d x1 (10 : Int32) (150 : Int32) D) (fun r1 D2 => ?_)
  refine ev_if (fun Q => rn_if_ne (tgt := 15) dX0_addPerson_9 (by decide)) (fun c8 => ?_) (fun c9 => ?_)
  · refine ev_s (fun Q k => rn_bipush (v := -2) (by decide) dX0_addPerson_12 k) ?_
    exact ev_ret (fun Q q => rn_ret q .int rfl rfl dX0_addPerson_14)
  · refine ev_s (fun Q k => rn_aload_n (j := 0) 0 rfl rfl (okO_0 (oF hB)) dX0_addPerson_15 k) ?_
    refine ev_s (fun Q k => rn_geti f_X0_41 (oF hB).1 (oF hB).2.1 (okO_1 (oF hB)) rfl dX0_addPerson_16 k) ?_
    refine ev_s (fun Q k => rn_bipush (v := 10) (by decide) dX0_addPerson_19 k) ?_
    refine ev_if (fun Q => rn_icmp_lt (tgt := 27) dX0_addPerson_21 (by decide)) (fun c6 => ?_) (fun c7 => ?_)
    · refine ev_s (fun Q k => rn_aload_n (j := 0) 0 rfl rfl (okO_0 (oF hB)) dX0_addPerson_27 k) ?_
      refine ev_s (fun Q k => rn_getr (q := (B + 4)) f_X0_23 (oF hB).1 (oF hB).2.1 (okO_1 (oF hB)) rfl (rF3 hB) dX0_addPerson_28 k) ?_
      refine ev_s (fun Q k => rn_aload_n (j := 0) 0 rfl rfl (okO_0 (oF hB)) dX0_addPerson_31 k) ?_
      refine ev_s (fun Q k => rn_geti f_X0_41 (oF hB).1 (oF hB).2.1 (okO_1 (oF hB)) rfl dX0_addPerson_32 k) ?_
      refine ev_gd (fun g3 => ?_)
      refine ev_s (fun Q k => rn_aald (q := (B + 6 + (D2 B 5).toNatClampNeg)) (oF4 hB).1 (oF4 hB).2.1 (by decide) (by decide) (oF4 hB).2.2 (inR_vp g3) (rP hB g3.2) dX0_addPerson_35 k) ?_
      refine ev_s (fun Q k => rn_iload_n (j := 1) 1 rfl rfl dX0_addPerson_36 k) ?_
      refine ev_bindU (as := [.inr (.inr (B + 6 + (D2 B 5).toNatClampNeg)), .inl x1]) (fun Q Q1 => rn_callV (as := [.inl x1]) (rest := []) (o := (B + 6 + (D2 B 5).toNatClampNeg)) m_X0_74 dX0_addPerson_37 (rcv_own (oP hB g3.2).1 (oP hB g3.2).2.1 (by decide) (okO_1 (oP hB g3.2))) rfl rfl (Nat.le_of_ble_eq_true rfl)) pl_X4_come (Nat.le_of_ble_eq_true rfl) rfl (e_X4_come l E d (B + 6 + (D2 B 5).toNatClampNeg) (oP hB g3.2) x1 D2) (fun r4 D5 => ?_)
      refine ev_s (fun Q k => rn_aload_n (j := 0) 0 rfl rfl (okO_0 (oF hB)) dX0_addPerson_40 k) ?_
      refine ev_s (fun Q k => rn_dup rfl dX0_addPerson_41 k) ?_
      refine ev_s (fun Q k => rn_geti f_X0_41 (oF hB).1 (oF hB).2.1 (okO_1 (oF hB)) rfl dX0_addPerson_42 k) ?_
      refine ev_s (fun Q k => rn_iconst (v := 1) (by decide) dX0_addPerson_45 k) ?_
      refine ev_s (fun Q k => rn_iadd dX0_addPerson_46 k) ?_
      refine ev_s (fun Q k => rn_puti f_X0_41 (oF hB).1 (oF hB).2.1 (okO_1 (oF hB)) rfl rfl rfl rfl dX0_addPerson_47 k) ?_
      refine ev_s (fun Q k => rn_aload_n (j := 0) 0 rfl rfl (okO_0 (oF hB)) dX0_addPerson_50 k) ?_
      refine ev_s (fun Q k => rn_geti f_X0_41 (oF hB).1 (oF hB).2.1 (okO_1 (oF hB)) rfl dX0_addPerson_51 k) ?_
      refine ev_s (fun Q k => rn_iconst (v := 1) (by decide) dX0_addPerson_54 k) ?_
      refine ev_s (fun Q k => rn_isub dX0_addPerson_55 k) ?_
      exact ev_ret (fun Q q => rn_ret q .int rfl rfl dX0_addPerson_56)
    · refine ev_s (fun Q k => rn_bipush (v := -4) (by decide) dX0_addPerson_24 k) ?_
      exact ev_ret (fun Q q => rn_ret q .int rfl rfl dX0_addPerson_26)

def F_X5_person (x1 : Int32) (D : dT) : Option (Int32 × dT) := bd (F_X1_note 19 D) (fun (r1 : Int32) (D2 : dT) => bd (F_X0_addPerson 19 x1 D2) (fun (r3 : Int32) (D4 : dT) => bd (F_X1_keepUnlessError r3 D4) (fun (r5 : Int32) (D6 : dT) => some (r5, D6))))
set_option maxRecDepth 20000 in
theorem e_X5_person (l : Launch) (E : eE) (d : Nat) (x1 : Int32) (D : dT) : ev l E (d + 3) yX5_person cX5_person 2 (some .int) 0 [(0, .inr (.inr 18)), (1, .inl x1)] [] D eI (F_X5_person x1 D) := by
  unfold F_X5_person
  refine ev_s (fun Q k => rn_aload_n (j := 0) 0 rfl rfl (okO_0 ok_18) dX5_person_0 k) ?_
  refine ev_s (fun Q k => rn_getr (q := 85) f_X5_30 ok_18.1 ok_18.2.1 (okO_1 ok_18) rfl rfl dX5_person_1 k) ?_
  refine ev_s (fun Q k => rn_aload_n (j := 0) 0 rfl rfl (okO_0 ok_18) dX5_person_4 k) ?_
  refine ev_s (fun Q k => rn_getr (q := 19) f_X5_10 ok_18.1 ok_18.2.1 (okO_1 ok_18) rfl rfl dX5_person_5 k) ?_
  refine ev_bindU (as := [.inr (.inr 85), .inr (.inr 19)]) (fun Q Q1 => rn_callV (as := [.inr (.inr 19)]) (rest := []) (o := 85) m_X5_41 dX5_person_8 (rcv_own ok_85.1 ok_85.2.1 (by decide) (okO_1 ok_85)) rfl rfl (Nat.le_of_ble_eq_true rfl)) pl_X1_note (Nat.le_of_ble_eq_true rfl) rfl (e_X1_note l E d 19 isF_19 D) (fun r1 D2 => ?_)
  refine ev_s (fun Q k => rn_aload_n (j := 0) 0 rfl rfl (okO_0 ok_18) dX5_person_11 k) ?_
  refine ev_s (fun Q k => rn_getr (q := 85) f_X5_30 ok_18.1 ok_18.2.1 (okO_1 ok_18) rfl rfl dX5_person_12 k) ?_
  refine ev_s (fun Q k => rn_aload_n (j := 0) 0 rfl rfl (okO_0 ok_18) dX5_person_15 k) ?_
  refine ev_s (fun Q k => rn_getr (q := 19) f_X5_10 ok_18.1 ok_18.2.1 (okO_1 ok_18) rfl rfl dX5_person_16 k) ?_
  refine ev_s (fun Q k => rn_iload_n (j := 1) 1 rfl rfl dX5_person_19 k) ?_
  refine ev_bindI (as := [.inr (.inr 19), .inl x1]) (fun Q Q1 => rn_callV (as := [.inl x1]) (rest := [.inr (.inr 85)]) (o := 19) m_X5_53 dX5_person_20 (rcv_own (oF isF_19).1 (oF isF_19).2.1 (by decide) (okO_1 (oF isF_19))) rfl rfl (Nat.le_of_ble_eq_true rfl)) pl_X0_addPerson (Nat.le_of_ble_eq_true rfl) rfl (e_X0_addPerson l E (d + 1) 19 isF_19 x1 D2) (fun r3 D4 => ?_)
  refine ev_bindI (as := [.inr (.inr 85), .inl r3]) (fun Q Q1 => rn_callV (as := [.inl r3]) (rest := []) (o := 85) m_X5_49 dX5_person_23 (rcv_own ok_85.1 ok_85.2.1 (by decide) (okO_1 ok_85)) rfl rfl (Nat.le_of_ble_eq_true rfl)) pl_X1_keepUnlessError (Nat.le_of_ble_eq_true rfl) rfl (e_X1_keepUnlessError l E d r3 D4) (fun r5 D6 => ?_)
  exact ev_ret (fun Q q => rn_ret q .int rfl rfl dX5_person_26)

def F_X2_come (o : Nat) (x1 : Int32) (x2 : Int32) (x3 : Int32) (x4 : Int32) (x5 : Int32) (D : dT) : Option (Int32 × dT) := some ((0 : Int32), (up2 (up2 (up2 (up2 (up2 (up2 (up2 (up2 (up2 (up2 (up2 (up2 D o 0 x1) o 1 x2) o 2 x3) o 3 x4) o 4 x5) o 5 (0 : Int32)) o 6 (0 : Int32)) o 7 (0 : Int32)) o 8 (-6 : Int32)) o 9 (0 : Int32)) o 10 (0 : Int32)) o 11 (-6 : Int32)))
set_option maxRecDepth 20000 in
theorem e_X2_come (l : Launch) (E : eE) (d : Nat) (o : Nat) (ho : okO o 2 0) (x1 : Int32) (x2 : Int32) (x3 : Int32) (x4 : Int32) (x5 : Int32) (D : dT) : ev l E d yX2_come cX2_come 6 none 0 [(0, .inr (.inr o)), (1, .inl x1), (2, .inl x2), (3, .inl x3), (4, .inl x4), (5, .inl x5)] [] D eU (F_X2_come o x1 x2 x3 x4 x5 D) := by
  unfold F_X2_come
  refine ev_s (fun Q k => rn_aload_n (j := 0) 0 rfl rfl (okO_0 ho) dX2_come_0 k) ?_
  refine ev_s (fun Q k => rn_iload_n (j := 1) 1 rfl rfl dX2_come_1 k) ?_
  refine ev_s (fun Q k => rn_puti f_X2_9 ho.1 ho.2.1 (okO_1 ho) rfl rfl rfl rfl dX2_come_2 k) ?_
  refine ev_s (fun Q k => rn_aload_n (j := 0) 0 rfl rfl (okO_0 ho) dX2_come_5 k) ?_
  refine ev_s (fun Q k => rn_iload_n (j := 2) 2 rfl rfl dX2_come_6 k) ?_
  refine ev_s (fun Q k => rn_puti f_X2_15 ho.1 ho.2.1 (okO_1 ho) rfl rfl rfl rfl dX2_come_7 k) ?_
  refine ev_s (fun Q k => rn_aload_n (j := 0) 0 rfl rfl (okO_0 ho) dX2_come_10 k) ?_
  refine ev_s (fun Q k => rn_iload_n (j := 3) 3 rfl rfl dX2_come_11 k) ?_
  refine ev_s (fun Q k => rn_puti f_X2_18 ho.1 ho.2.1 (okO_1 ho) rfl rfl rfl rfl dX2_come_12 k) ?_
  refine ev_s (fun Q k => rn_aload_n (j := 0) 0 rfl rfl (okO_0 ho) dX2_come_15 k) ?_
  refine ev_s (fun Q k => rn_iload (j := 4) 4 rfl dX2_come_16 k) ?_
  refine ev_s (fun Q k => rn_puti f_X2_21 ho.1 ho.2.1 (okO_1 ho) rfl rfl rfl rfl dX2_come_18 k) ?_
  refine ev_s (fun Q k => rn_aload_n (j := 0) 0 rfl rfl (okO_0 ho) dX2_come_21 k) ?_
  refine ev_s (fun Q k => rn_iload (j := 5) 5 rfl dX2_come_22 k) ?_
  refine ev_s (fun Q k => rn_puti f_X2_24 ho.1 ho.2.1 (okO_1 ho) rfl rfl rfl rfl dX2_come_24 k) ?_
  refine ev_s (fun Q k => rn_aload_n (j := 0) 0 rfl rfl (okO_0 ho) dX2_come_27 k) ?_
  refine ev_s (fun Q k => rn_iconst (v := 0) (by decide) dX2_come_28 k) ?_
  refine ev_s (fun Q k => rn_puti f_X2_27 ho.1 ho.2.1 (okO_1 ho) rfl rfl rfl rfl dX2_come_29 k) ?_
  refine ev_s (fun Q k => rn_aload_n (j := 0) 0 rfl rfl (okO_0 ho) dX2_come_32 k) ?_
  refine ev_s (fun Q k => rn_iconst (v := 0) (by decide) dX2_come_33 k) ?_
  refine ev_s (fun Q k => rn_puti f_X2_30 ho.1 ho.2.1 (okO_1 ho) rfl rfl rfl rfl dX2_come_34 k) ?_
  refine ev_s (fun Q k => rn_aload_n (j := 0) 0 rfl rfl (okO_0 ho) dX2_come_37 k) ?_
  refine ev_s (fun Q k => rn_iconst (v := 0) (by decide) dX2_come_38 k) ?_
  refine ev_s (fun Q k => rn_puti f_X2_33 ho.1 ho.2.1 (okO_1 ho) rfl rfl rfl rfl dX2_come_39 k) ?_
  refine ev_s (fun Q k => rn_aload_n (j := 0) 0 rfl rfl (okO_0 ho) dX2_come_42 k) ?_
  refine ev_s (fun Q k => rn_bipush (v := -6) (by decide) dX2_come_43 k) ?_
  refine ev_s (fun Q k => rn_puti f_X2_36 ho.1 ho.2.1 (okO_1 ho) rfl rfl rfl rfl dX2_come_45 k) ?_
  refine ev_s (fun Q k => rn_aload_n (j := 0) 0 rfl rfl (okO_0 ho) dX2_come_48 k) ?_
  refine ev_s (fun Q k => rn_iconst (v := 0) (by decide) dX2_come_49 k) ?_
  refine ev_s (fun Q k => rn_puti f_X2_39 ho.1 ho.2.1 (okO_1 ho) rfl rfl rfl rfl dX2_come_50 k) ?_
  refine ev_s (fun Q k => rn_aload_n (j := 0) 0 rfl rfl (okO_0 ho) dX2_come_53 k) ?_
  refine ev_s (fun Q k => rn_iconst (v := 0) (by decide) dX2_come_54 k) ?_
  refine ev_s (fun Q k => rn_puti f_X2_42 ho.1 ho.2.1 (okO_1 ho) rfl rfl rfl rfl dX2_come_55 k) ?_
  refine ev_s (fun Q k => rn_aload_n (j := 0) 0 rfl rfl (okO_0 ho) dX2_come_58 k) ?_
  refine ev_s (fun Q k => rn_bipush (v := -6) (by decide) dX2_come_59 k) ?_
  refine ev_s (fun Q k => rn_puti f_X2_45 ho.1 ho.2.1 (okO_1 ho) rfl rfl rfl rfl dX2_come_61 k) ?_
  exact ev_ret (fun Q q => rn_retv q rfl dX2_come_64)

def F_X0_addJob (B : Nat) (x1 : Int32) (x2 : Int32) (x3 : Int32) (x4 : Int32) (x5 : Int32) (D : dT) : Option (Int32 × dT) := bd (F_X5_isWithin x1 (50 : Int32) (600 : Int32) D) (fun (r1 : Int32) (D2 : dT) => if r1 = 0 then some ((-2 : Int32), D2) else bd (F_X5_isWithin x2 (0 : Int32) (9 : Int32) D2) (fun (r3 : Int32) (D4 : dT) => if r3 = 0 then some ((-2 : Int32), D4) else bd (F_X5_isWithin x3 (1 : Int32) (9 : Int32) D4) (fun (r5 : Int32) (D6 : dT) => if r5 = 0 then some ((-2 : Int32), D6) else bd (F_X5_isWithin x4 (0 : Int32) (3 : Int32) D6) (fun (r7 : Int32) (D8 : dT) => if r7 = 0 then some ((-2 : Int32), D8) else bd (F_X5_isWithin x5 (0 : Int32) (999 : Int32) D8) (fun (r9 : Int32) (D10 : dT) => if r9 = 0 then some ((-2 : Int32), D10) else if (D10 B 6) < (16 : Int32) then if inR (D10 B 6) 16 then bd (F_X2_come (B + 16 + (D10 B 6).toNatClampNeg) x1 x2 x3 x4 x5 D10) (fun (r12 : Int32) (D13 : dT) => some ((((up2 D13 B 6 ((D13 B 6) + (1 : Int32))) B 6) - (1 : Int32)), (up2 D13 B 6 ((D13 B 6) + (1 : Int32))))) else none else some ((-4 : Int32), D10))))))
set_option maxRecDepth 20000 in
theorem e_X0_addJob (l : Launch) (E : eE) (d : Nat) (B : Nat) (hB : isF B) (x1 : Int32) (x2 : Int32) (x3 : Int32) (x4 : Int32) (x5 : Int32) (D : dT) : ev l E (d + 1) yX0_addJob cX0_addJob 6 (some .int) 0 [(0, .inr (.inr B)), (1, .inl x1), (2, .inl x2), (3, .inl x3), (4, .inl x4), (5, .inl x5)] [] D eI (F_X0_addJob B x1 x2 x3 x4 x5 D) := by
  unfold F_X0_addJob
  refine ev_s (fun Q k => rn_iload_n (j := 1) 1 rfl rfl dX0_addJob_0 k) ?_
  refine ev_s (fun Q k => rn_bipush (v := 50) (by decide) dX0_addJob_1 k) ?_
  refine ev_s (fun Q k => rn_sipush (v := 600) (by decide) dX0_addJob_3 k) ?_
  refine ev_bindI (as := [.inl x1, .inl (50 : Int32), .inl (600 : Int32)]) (fun Q Q1 => rn_callSN (as := [.inl x1, .inl (50 : Int32), .inl (600 : Int32)]) (rest := []) m_X0_64 dX0_addJob_6 rfl rfl (Nat.le_of_ble_eq_true rfl)) pl_X5_isWithin (Nat.le_of_ble_eq_true rfl) rfl (e_X5_isWithin l E d x1 (50 : Int32) (600 : Int32) D) (fun r1 D2 => ?_)
  refine ev_if (fun Q => rn_if_eq (tgt := 54) dX0_addJob_9 (by decide)) (fun c24 => ?_) (fun c25 => ?_)
  · refine ev_s (fun Q k => rn_bipush (v := -2) (by decide) dX0_addJob_54 k) ?_
    exact ev_ret (fun Q q => rn_ret q .int rfl rfl dX0_addJob_56)
  · refine ev_s (fun Q k => rn_iload_n (j := 2) 2 rfl rfl dX0_addJob_12 k) ?_
    refine ev_s (fun Q k => rn_iconst (v := 0) (by decide) dX0_addJob_13 k) ?_
    refine ev_s (fun Q k => rn_bipush (v := 9) (by decide) dX0_addJob_14 k) ?_
    refine ev_bindI (as := [.inl x2, .inl (0 : Int32), .inl (9 : Int32)]) (fun Q Q1 => rn_callSN (as := [.inl x2, .inl (0 : Int32), .inl (9 : Int32)]) (rest := []) m_X0_64 dX0_addJob_16 rfl rfl (Nat.le_of_ble_eq_true rfl)) pl_X5_isWithin (Nat.le_of_ble_eq_true rfl) rfl (e_X5_isWithin l E d x2 (0 : Int32) (9 : Int32) D2) (fun r3 D4 => ?_)
    refine ev_if (fun Q => rn_if_eq (tgt := 54) dX0_addJob_19 (by decide)) (fun c22 => ?_) (fun c23 => ?_)
    · refine ev_s (fun Q k => rn_bipush (v := -2) (by decide) dX0_addJob_54 k) ?_
      exact ev_ret (fun Q q => rn_ret q .int rfl rfl dX0_addJob_56)
    · refine ev_s (fun Q k => rn_iload_n (j := 3) 3 rfl rfl dX0_addJob_22 k) ?_
      refine ev_s (fun Q k => rn_iconst (v := 1) (by decide) dX0_addJob_23 k) ?_
      refine ev_s (fun Q k => rn_bipush (v := 9) (by decide) dX0_addJob_24 k) ?_
      refine ev_bindI (as := [.inl x3, .inl (1 : Int32), .inl (9 : Int32)]) (fun Q Q1 => rn_callSN (as := [.inl x3, .inl (1 : Int32), .inl (9 : Int32)]) (rest := []) m_X0_64 dX0_addJob_26 rfl rfl (Nat.le_of_ble_eq_true rfl)) pl_X5_isWithin (Nat.le_of_ble_eq_true rfl) rfl (e_X5_isWithin l E d x3 (1 : Int32) (9 : Int32) D4) (fun r5 D6 => ?_)
      refine ev_if (fun Q => rn_if_eq (tgt := 54) dX0_addJob_29 (by decide)) (fun c20 => ?_) (fun c21 => ?_)
      · refine ev_s (fun Q k => rn_bipush (v := -2) (by decide) dX0_addJob_54 k) ?_
        exact ev_ret (fun Q q => rn_ret q .int rfl rfl dX0_addJob_56)
      · refine ev_s (fun Q k => rn_iload (j := 4) 4 rfl dX0_addJob_32 k) ?_
        refine ev_s (fun Q k => rn_iconst (v := 0) (by decide) dX0_addJob_34 k) ?_
        refine ev_s (fun Q k => rn_iconst (v := 3) (by decide) dX0_addJob_35 k) ?_
        refine ev_bindI (as := [.inl x4, .inl (0 : Int32), .inl (3 : Int32)]) (fun Q Q1 => rn_callSN (as := [.inl x4, .inl (0 : Int32), .inl (3 : Int32)]) (rest := []) m_X0_64 dX0_addJob_36 rfl rfl (Nat.le_of_ble_eq_true rfl)) pl_X5_isWithin (Nat.le_of_ble_eq_true rfl) rfl (e_X5_isWithin l E d x4 (0 : Int32) (3 : Int32) D6) (fun r7 D8 => ?_)
        refine ev_if (fun Q => rn_if_eq (tgt := 54) dX0_addJob_39 (by decide)) (fun c18 => ?_) (fun c19 => ?_)
        · refine ev_s (fun Q k => rn_bipush (v := -2) (by decide) dX0_addJob_54 k) ?_
          exact ev_ret (fun Q q => rn_ret q .int rfl rfl dX0_addJob_56)
        · refine ev_s (fun Q k => rn_iload (j := 5) 5 rfl dX0_addJob_42 k) ?_
          refine ev_s (fun Q k => rn_iconst (v := 0) (by decide) dX0_addJob_44 k) ?_
          refine ev_s (fun Q k => rn_sipush (v := 999) (by decide) dX0_addJob_45 k) ?_
          refine ev_bindI (as := [.inl x5, .inl (0 : Int32), .inl (999 : Int32)]) (fun Q Q1 => rn_callSN (as := [.inl x5, .inl (0 : Int32), .inl (999 : Int32)]) (rest := []) m_X0_64 dX0_addJob_48 rfl rfl (Nat.le_of_ble_eq_true rfl)) pl_X5_isWithin (Nat.le_of_ble_eq_true rfl) rfl (e_X5_isWithin l E d x5 (0 : Int32) (999 : Int32) D8) (fun r9 D10 => ?_)
          refine ev_if (fun Q => rn_if_ne (tgt := 57) dX0_addJob_51 (by decide)) (fun c16 => ?_) (fun c17 => ?_)
          · refine ev_s (fun Q k => rn_bipush (v := -2) (by decide) dX0_addJob_54 k) ?_
            exact ev_ret (fun Q q => rn_ret q .int rfl rfl dX0_addJob_56)
          · refine ev_s (fun Q k => rn_aload_n (j := 0) 0 rfl rfl (okO_0 (oF hB)) dX0_addJob_57 k) ?_
            refine ev_s (fun Q k => rn_geti f_X0_45 (oF hB).1 (oF hB).2.1 (okO_1 (oF hB)) rfl dX0_addJob_58 k) ?_
            refine ev_s (fun Q k => rn_bipush (v := 16) (by decide) dX0_addJob_61 k) ?_
            refine ev_if (fun Q => rn_icmp_lt (tgt := 69) dX0_addJob_63 (by decide)) (fun c14 => ?_) (fun c15 => ?_)
            · refine ev_s (fun Q k => rn_aload_n (j := 0) 0 rfl rfl (okO_0 (oF hB)) dX0_addJob_69 k) ?_
              refine ev_s (fun Q k => rn_getr (q := (B + 5)) f_X0_29 (oF hB).1 (oF hB).2.1 (okO_1 (oF hB)) rfl (rF4 hB) dX0_addJob_70 k) ?_
              refine ev_s (fun Q k => rn_aload_n (j := 0) 0 rfl rfl (okO_0 (oF hB)) dX0_addJob_73 k) ?_
              refine ev_s (fun Q k => rn_geti f_X0_45 (oF hB).1 (oF hB).2.1 (okO_1 (oF hB)) rfl dX0_addJob_74 k) ?_
              refine ev_gd (fun g11 => ?_)
              refine ev_s (fun Q k => rn_aald (q := (B + 16 + (D10 B 6).toNatClampNeg)) (oF5 hB).1 (oF5 hB).2.1 (by decide) (by decide) (oF5 hB).2.2 (inR_vp g11) (rJ hB g11.2) dX0_addJob_77 k) ?_
              refine ev_s (fun Q k => rn_iload_n (j := 1) 1 rfl rfl dX0_addJob_78 k) ?_
              refine ev_s (fun Q k => rn_iload_n (j := 2) 2 rfl rfl dX0_addJob_79 k) ?_
              refine ev_s (fun Q k => rn_iload_n (j := 3) 3 rfl rfl dX0_addJob_80 k) ?_
              refine ev_s (fun Q k => rn_iload (j := 4) 4 rfl dX0_addJob_81 k) ?_
              refine ev_s (fun Q k => rn_iload (j := 5) 5 rfl dX0_addJob_83 k) ?_
              refine ev_bindU (as := [.inr (.inr (B + 16 + (D10 B 6).toNatClampNeg)), .inl x1, .inl x2, .inl x3, .inl x4, .inl x5]) (fun Q Q1 => rn_callV (as := [.inl x1, .inl x2, .inl x3, .inl x4, .inl x5]) (rest := []) (o := (B + 16 + (D10 B 6).toNatClampNeg)) m_X0_82 dX0_addJob_85 (rcv_own (oJ hB g11.2).1 (oJ hB g11.2).2.1 (by decide) (okO_1 (oJ hB g11.2))) rfl rfl (Nat.le_of_ble_eq_true rfl)) pl_X2_come (Nat.le_of_ble_eq_true rfl) rfl (e_X2_come l E d (B + 16 + (D10 B 6).toNatClampNeg) (oJ hB g11.2) x1 x2 x3 x4 x5 D10) (fun r12 D13 => ?_)
              refine ev_s (fun Q k => rn_aload_n (j := 0) 0 rfl rfl (okO_0 (oF hB)) dX0_addJob_88 k) ?_
              refine ev_s (fun Q k => rn_dup rfl dX0_addJob_89 k) ?_
              refine ev_s (fun Q k => rn_geti f_X0_45 (oF hB).1 (oF hB).2.1 (okO_1 (oF hB)) rfl dX0_addJob_90 k) ?_
              refine ev_s (fun Q k => rn_iconst (v := 1) (by decide) dX0_addJob_93 k) ?_
              refine ev_s (fun Q k => rn_iadd dX0_addJob_94 k) ?_
              refine ev_s (fun Q k => rn_puti f_X0_45 (oF hB).1 (oF hB).2.1 (okO_1 (oF hB)) rfl rfl rfl rfl dX0_addJob_95 k) ?_
              refine ev_s (fun Q k => rn_aload_n (j := 0) 0 rfl rfl (okO_0 (oF hB)) dX0_addJob_98 k) ?_
              refine ev_s (fun Q k => rn_geti f_X0_45 (oF hB).1 (oF hB).2.1 (okO_1 (oF hB)) rfl dX0_addJob_99 k) ?_
              refine ev_s (fun Q k => rn_iconst (v := 1) (by decide) dX0_addJob_102 k) ?_
              refine ev_s (fun Q k => rn_isub dX0_addJob_103 k) ?_
              exact ev_ret (fun Q q => rn_ret q .int rfl rfl dX0_addJob_104)
            · refine ev_s (fun Q k => rn_bipush (v := -4) (by decide) dX0_addJob_66 k) ?_
              exact ev_ret (fun Q q => rn_ret q .int rfl rfl dX0_addJob_68)

