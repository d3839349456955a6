def F_X6_undo_27 (fuel : Nat)   (v1 : Int32) (D : dT) : Option (Int32 × dT) := match fuel with
  | 0 => none
  | fu + 1 => if (244 : Int32) ≤ v1 then some ((D 378 4), D) else if inR (((244 : Int32) * (D 378 4)) + v1) 1464 then if inR v1 244 then F_X6_undo_27 fu (v1 + (1 : Int32)) (up2 D 379 v1.toNatClampNeg (D 381 (((244 : Int32) * (D 378 4)) + v1).toNatClampNeg)) else none else none
def F_X6_undo  (D : dT) : Option (Int32 × dT) := if ((up2 D 378 0 (0 : Int32)) 378 4) = 0 then some ((-5 : Int32), (up2 D 378 0 (0 : Int32))) else F_X6_undo_27 lim (0 : Int32) (up2 (up2 D 378 0 (0 : Int32)) 378 4 (((up2 D 378 0 (0 : Int32)) 378 4) - (1 : Int32)))
set_option maxRecDepth 20000 in
theorem e_X6_undo_27 (l : Launch) (E : eE) (d : Nat)   (fuel : Nat) : ∀ (v1 : Int32) (D : dT), ev l E d yX6_undo cX6_undo 2 (some .int) 27 [(0, .inr (.inr 378)), (1, .inl v1)] [] D eI (F_X6_undo_27 fuel v1 D) := by
  induction fuel with
  | zero =>
    intro v1 D
    exact ev_none
  | succ fu ih =>
    intro v1 D
    rw [F_X6_undo_27]
    refine ev_s (fun Q k => rn_iload_n (j := 1) 1 rfl rfl dX6_undo_27 k) ?_
    refine ev_s (fun Q k => rn_sipush (v := 244) (by decide) dX6_undo_28 k) ?_
    refine ev_if (fun Q => rn_icmp_ge (tgt := 61) dX6_undo_31 (by decide)) (fun c3 => ?_) (fun c4 => ?_)
    · refine ev_s (fun Q k => rn_aload_n (j := 0) 0 rfl rfl (okO_0 ok_378) dX6_undo_61 k) ?_
      refine ev_s (fun Q k => rn_geti f_X6_40 ok_378.1 ok_378.2.1 (okO_1 ok_378) rfl dX6_undo_62 k) ?_
      exact ev_ret (fun Q q => rn_ret q .int rfl rfl dX6_undo_65)
    · refine ev_s (fun Q k => rn_aload_n (j := 0) 0 rfl rfl (okO_0 ok_378) dX6_undo_34 k) ?_
      refine ev_s (fun Q k => rn_getr (q := 379) f_X6_7 ok_378.1 ok_378.2.1 (okO_1 ok_378) rfl rfl dX6_undo_35 k) ?_
      refine ev_s (fun Q k => rn_iload_n (j := 1) 1 rfl rfl dX6_undo_38 k) ?_
      refine ev_s (fun Q k => rn_aload_n (j := 0) 0 rfl rfl (okO_0 ok_378) dX6_undo_39 k) ?_
      refine ev_s (fun Q k => rn_getr (q := 381) f_X6_16 ok_378.1 ok_378.2.1 (okO_1 ok_378) rfl rfl dX6_undo_40 k) ?_
      refine ev_s (fun Q k => rn_sipush (v := 244) (by decide) dX6_undo_43 k) ?_
      refine ev_s (fun Q k => rn_aload_n (j := 0) 0 rfl rfl (okO_0 ok_378) dX6_undo_46 k) ?_
      refine ev_s (fun Q k => rn_geti f_X6_40 ok_378.1 ok_378.2.1 (okO_1 ok_378) rfl dX6_undo_47 k) ?_
      refine ev_s (fun Q k => rn_imul dX6_undo_50 k) ?_
      refine ev_s (fun Q k => rn_iload_n (j := 1) 1 rfl rfl dX6_undo_51 k) ?_
      refine ev_s (fun Q k => rn_iadd dX6_undo_52 k) ?_
      refine ev_gd (fun g1 => ?_)
      refine ev_s (fun Q k => rn_iald ok_381.1 ok_381.2.1 ok_381.2.2 (inR_vp g1) dX6_undo_53 k) ?_
      refine ev_gd (fun g2 => ?_)
      refine ev_s (fun Q k => rn_iast ok_379.1 ok_379.2.1 ok_379.2.2 (inR_vp g2) dX6_undo_54 k) ?_
      refine ev_s (fun Q k => rn_iinc (v := (v1 + (1 : Int32))) (ls' := [(1, .inl (v1 + (1 : Int32))), (0, .inr (.inr 378))]) 1 rfl rfl (by decide) rfl dX6_undo_55 k) ?_
      refine ev_s (fun Q k => rn_goto (tgt := 27) dX6_undo_58 (by decide) k) ?_
      refine ev_s (fun Q k => rn_sub (ls' := [(0, .inr (.inr 378)), (1, .inl (v1 + (1 : Int32)))]) [1, 0] rfl k) ?_
      exact ih (v1 + (1 : Int32)) (up2 D 379 v1.toNatClampNeg (D 381 (((244 : Int32) * (D 378 4)) + v1).toNatClampNeg))

set_option maxRecDepth 20000 in
theorem e_X6_undo (l : Launch) (E : eE) (d : Nat)  (D : dT) : ev l E d yX6_undo cX6_undo 2 (some .int) 0 [(0, .inr (.inr 378))] [] D eI (F_X6_undo D) := by
  unfold F_X6_undo
  refine ev_s (fun Q k => rn_aload_n (j := 0) 0 rfl rfl (okO_0 ok_378) dX6_undo_0 k) ?_
  refine ev_s (fun Q k => rn_iconst (v := 0) (by decide) dX6_undo_1 k) ?_
  refine ev_s (fun Q k => rn_puti f_X6_32 ok_378.1 ok_378.2.1 (okO_1 ok_378) rfl rfl rfl rfl dX6_undo_2 k) ?_
  refine ev_s (fun Q k => rn_aload_n (j := 0) 0 rfl rfl (okO_0 ok_378) dX6_undo_5 k) ?_
  refine ev_s (fun Q k => rn_geti f_X6_40 ok_378.1 ok_378.2.1 (okO_1 ok_378) rfl dX6_undo_6 k) ?_
  refine ev_if (fun Q => rn_if_ne (tgt := 15) dX6_undo_9 (by decide)) (fun c1 => ?_) (fun c2 => ?_)
  · refine ev_s (fun Q k => rn_bipush (v := -5) (by decide) dX6_undo_12 k) ?_
    exact ev_ret (fun Q q => rn_ret q .int rfl rfl dX6_undo_14)
  · refine ev_s (fun Q k => rn_aload_n (j := 0) 0 rfl rfl (okO_0 ok_378) dX6_undo_15 k) ?_
    refine ev_s (fun Q k => rn_dup rfl dX6_undo_16 k) ?_
    refine ev_s (fun Q k => rn_geti f_X6_40 ok_378.1 ok_378.2.1 (okO_1 ok_378) rfl dX6_undo_17 k) ?_
    refine ev_s (fun Q k => rn_iconst (v := 1) (by decide) dX6_undo_20 k) ?_
    refine ev_s (fun Q k => rn_isub dX6_undo_21 k) ?_
    refine ev_s (fun Q k => rn_puti f_X6_40 ok_378.1 ok_378.2.1 (okO_1 ok_378) rfl rfl rfl rfl dX6_undo_22 k) ?_
    refine ev_s (fun Q k => rn_iconst (v := 0) (by decide) dX6_undo_25 k) ?_
    refine ev_s (fun Q k => rn_istore_n (j := 1) (ls' := [(1, .inl (0 : Int32)), (0, .inr (.inr 378))]) rfl (by decide) rfl dX6_undo_26 k) ?_
    refine ev_s (fun Q k => rn_sub (ls' := [(0, .inr (.inr 378)), (1, .inl (0 : Int32))]) [1, 0] rfl k) ?_
    exact e_X6_undo_27 l E d   lim (0 : Int32) (up2 (up2 D 378 0 (0 : Int32)) 378 4 (((up2 D 378 0 (0 : Int32)) 378 4) - (1 : Int32)))

def F_X6_save_19 (fuel : Nat) (x1 : Int32)  (v2 : Int32) (D : dT) : Option (Int32 × dT) := match fuel with
  | 0 => none
  | fu + 1 => if (244 : Int32) ≤ v2 then if inR x1 2 then if inR (6 : Int32) 244 then some (((up2 D 383 x1.toNatClampNeg (1 : Int32)) 379 (6 : Int32).toNatClampNeg), (up2 D 383 x1.toNatClampNeg (1 : Int32))) else none else none else if inR v2 244 then if inR (((244 : Int32) * x1) + v2) 488 then F_X6_save_19 fu x1 (v2 + (1 : Int32)) (up2 D 382 (((244 : Int32) * x1) + v2).toNatClampNeg (D 379 v2.toNatClampNeg)) else none else none
def F_X6_save (x1 : Int32) (D : dT) : Option (Int32 × dT) := bd (F_X6_in x1 (0 : Int32) (1 : Int32) (up2 D 378 0 (0 : Int32))) (fun (r1 : Int32) (D2 : dT) => if r1 = 0 then some ((-2 : Int32), D2) else F_X6_save_19 lim x1 (0 : Int32) D2)
set_option maxRecDepth 20000 in
theorem e_X6_save_19 (l : Launch) (E : eE) (d : Nat) (x1 : Int32)  (fuel : Nat) : ∀ (v2 : Int32) (D : dT), ev l E (d + 1) yX6_save cX6_save 3 (some .int) 19 [(0, .inr (.inr 378)), (1, .inl x1), (2, .inl v2)] [] D eI (F_X6_save_19 fuel x1 v2 D) := by
  induction fuel with
  | zero =>
    intro v2 D
    exact ev_none
  | succ fu ih =>
    intro v2 D
    rw [F_X6_save_19]
    refine ev_s (fun Q k => rn_iload_n (j := 2) 2 rfl rfl dX6_save_19 k) ?_
    refine ev_s (fun Q k => rn_sipush (v := 244) (by decide) dX6_save_20 k) ?_
    refine ev_if (fun Q => rn_icmp_ge (tgt := 50) dX6_save_23 (by decide)) (fun c5 => ?_) (fun c6 => ?_)
    · refine ev_s (fun Q k => rn_aload_n (j := 0) 0 rfl rfl (okO_0 ok_378) dX6_save_50 k) ?_
      refine ev_s (fun Q k => rn_getr (q := 383) f_X6_22 ok_378.1 ok_378.2.1 (okO_1 ok_378) rfl rfl dX6_save_51 k) ?_
      refine ev_s (fun Q k => rn_iload_n (j := 1) 1 rfl rfl dX6_save_54 k) ?_
      refine ev_s (fun Q k => rn_iconst (v := 1) (by decide) dX6_save_55 k) ?_
      refine ev_gd (fun g1 => ?_)
      refine ev_s (fun Q k => rn_zast ok_383.1 ok_383.2.1 ok_383.2.2 (inR_vp g1) rfl dX6_save_56 k) ?_
      refine ev_s (fun Q k => rn_aload_n (j := 0) 0 rfl rfl (okO_0 ok_378) dX6_save_57 k) ?_
      refine ev_s (fun Q k => rn_getr (q := 379) f_X6_7 ok_378.1 ok_378.2.1 (okO_1 ok_378) rfl rfl dX6_save_58 k) ?_
      refine ev_s (fun Q k => rn_bipush (v := 6) (by decide) dX6_save_61 k) ?_
      refine ev_gd (fun g2 => ?_)
      refine ev_s (fun Q k => rn_iald ok_379.1 ok_379.2.1 ok_379.2.2 (inR_vp g2) dX6_save_63 k) ?_
      exact ev_ret (fun Q q => rn_ret q .int rfl rfl dX6_save_64)
    · refine ev_s (fun Q k => rn_aload_n (j := 0) 0 rfl rfl (okO_0 ok_378) dX6_save_26 k) ?_
      refine ev_s (fun Q k => rn_getr (q := 382) f_X6_19 ok_378.1 ok_378.2.1 (okO_1 ok_378) rfl rfl dX6_save_27 k) ?_
      refine ev_s (fun Q k => rn_sipush (v := 244) (by decide) dX6_save_30 k) ?_
      refine ev_s (fun Q k => rn_iload_n (j := 1) 1 rfl rfl dX6_save_33 k) ?_
      refine ev_s (fun Q k => rn_imul dX6_save_34 k) ?_
      refine ev_s (fun Q k => rn_iload_n (j := 2) 2 rfl rfl dX6_save_35 k) ?_
      refine ev_s (fun Q k => rn_iadd dX6_save_36 k) ?_
      refine ev_s (fun Q k => rn_aload_n (j := 0) 0 rfl rfl (okO_0 ok_378) dX6_save_37 k) ?_
      refine ev_s (fun Q k => rn_getr (q := 379) f_X6_7 ok_378.1 ok_378.2.1 (okO_1 ok_378) rfl rfl dX6_save_38 k) ?_
      refine ev_s (fun Q k => rn_iload_n (j := 2) 2 rfl rfl dX6_save_41 k) ?_
      refine ev_gd (fun g3 => ?_)
      refine ev_s (fun Q k => rn_iald ok_379.1 ok_379.2.1 ok_379.2.2 (inR_vp g3) dX6_save_42 k) ?_
      refine ev_gd (fun g4 => ?_)
      refine ev_s (fun Q k => rn_iast ok_382.1 ok_382.2.1 ok_382.2.2 (inR_vp g4) dX6_save_43 k) ?_
      refine ev_s (fun Q k => rn_iinc (v := (v2 + (1 : Int32))) (ls' := [(2, .inl (v2 + (1 : Int32))), (0, .inr (.inr 378)), (1, .inl x1)]) 2 rfl rfl (by decide) rfl dX6_save_44 k) ?_
      refine ev_s (fun Q k => rn_goto (tgt := 19) dX6_save_47 (by decide) k) ?_
      refine ev_s (fun Q k => rn_sub (ls' := [(0, .inr (.inr 378)), (1, .inl x1), (2, .inl (v2 + (1 : Int32)))]) [1, 2, 0] rfl k) ?_
      exact ih (v2 + (1 : Int32)) (up2 D 382 (((244 : Int32) * x1) + v2).toNatClampNeg (D 379 v2.toNatClampNeg))

set_option maxRecDepth 20000 in
theorem e_X6_save (l : Launch) (E : eE) (d : Nat) (x1 : Int32) (D : dT) : ev l E (d + 1) yX6_save cX6_save 3 (some .int) 0 [(0, .inr (.inr 378)), (1, .inl x1)] [] D eI (F_X6_save x1 D) := by
  unfold F_X6_save
  refine ev_s (fun Q k => rn_aload_n (j := 0) 0 rfl rfl (okO_0 ok_378) dX6_save_0 k) ?_
  refine ev_s (fun Q k => rn_iconst (v := 0) (by decide) dX6_save_1 k) ?_
  refine ev_s (fun Q k => rn_puti f_X6_32 ok_378.1 ok_378.2.1 (okO_1 ok_378) rfl rfl rfl rfl dX6_save_2 k) ?_
  refine ev_s (fun Q k => rn_iload_n (j := 1) 1 rfl rfl dX6_save_5 k) ?_
  refine ev_s (fun Q k => rn_iconst (v := 0) (by decide) dX6_save_6 k) ?_
  refine ev_s (fun Q k => rn_iconst (v := 1) (by decide) dX6_save_7 k) ?_
  refine ev_bindI (as := [.inl x1, .inl (0 : Int32), .inl (1 : Int32)]) (fun Q Q1 => rn_callS (as := [.inl x1, .inl (0 : Int32), .inl (1 : Int32)]) (rest := []) m_X6_36 dX6_save_8 rfl rfl (Nat.le_of_ble_eq_true rfl)) pl_X6_in (Nat.le_of_ble_eq_true rfl) rfl (e_X6_in l E d x1 (0 : Int32) (1 : Int32) (up2 D 378 0 (0 : Int32))) (fun r1 D2 => ?_)
  refine ev_if (fun Q => rn_if_ne (tgt := 17) dX6_save_11 (by decide)) (fun c3 => ?_) (fun c4 => ?_)
  · refine ev_s (fun Q k => rn_bipush (v := -2) (by decide) dX6_save_14 k) ?_
    exact ev_ret (fun Q q => rn_ret q .int rfl rfl dX6_save_16)
  · refine ev_s (fun Q k => rn_iconst (v := 0) (by decide) dX6_save_17 k) ?_
    refine ev_s (fun Q k => rn_istore_n (j := 2) (ls' := [(2, .inl (0 : Int32)), (0, .inr (.inr 378)), (1, .inl x1)]) rfl (by decide) rfl dX6_save_18 k) ?_
    refine ev_s (fun Q k => rn_sub (ls' := [(0, .inr (.inr 378)), (1, .inl x1), (2, .inl (0 : Int32))]) [1, 2, 0] rfl k) ?_
    exact e_X6_save_19 l E d x1  lim (0 : Int32) D2

def F_X6_restore_35 (fuel : Nat) (x1 : Int32)  (v2 : Int32) (D : dT) : Option (Int32 × dT) := match fuel with
  | 0 => none
  | fu + 1 => if (244 : Int32) ≤ v2 then if inR (6 : Int32) 244 then some ((D 379 (6 : Int32).toNatClampNeg), D) else none else if inR (((244 : Int32) * x1) + v2) 488 then if inR v2 244 then F_X6_restore_35 fu x1 (v2 + (1 : Int32)) (up2 D 379 v2.toNatClampNeg (D 382 (((244 : Int32) * x1) + v2).toNatClampNeg)) else none else none
def F_X6_restore (x1 : Int32) (D : dT) : Option (Int32 × dT) := bd (F_X6_in x1 (0 : Int32) (1 : Int32) (up2 D 378 0 (0 : Int32))) (fun (r1 : Int32) (D2 : dT) => if r1 = 0 then some ((-2 : Int32), D2) else if inR x1 2 then if (D2 383 x1.toNatClampNeg) = 0 then some ((-5 : Int32), D2) else bd (F_X6_records  D2) (fun (r4 : Int32) (D5 : dT) => F_X6_restore_35 lim x1 (0 : Int32) D5) else none)
set_option maxRecDepth 20000 in
theorem e_X6_restore_35 (l : Launch) (E : eE) (d : Nat) (x1 : Int32)  (fuel : Nat) : ∀ (v2 : Int32) (D : dT), ev l E (d + 1) yX6_restore cX6_restore 3 (some .int) 35 [(0, .inr (.inr 378)), (1, .inl x1), (2, .inl v2)] [] D eI (F_X6_restore_35 fuel x1 v2 D) := by
  induction fuel with
  | zero =>
    intro v2 D
    exact ev_none
  | succ fu ih =>
    intro v2 D
    rw [F_X6_restore_35]
    refine ev_s (fun Q k => rn_iload_n (j := 2) 2 rfl rfl dX6_restore_35 k) ?_
    refine ev_s (fun Q k => rn_sipush (v := 244) (by decide) dX6_restore_36 k) ?_
    refine ev_if (fun Q => rn_icmp_ge (tgt := 66) dX6_restore_39 (by decide)) (fun c4 => ?_) (fun c5 => ?_)
    · refine ev_s (fun Q k => rn_aload_n (j := 0) 0 rfl rfl (okO_0 ok_378) dX6_restore_66 k) ?_
      refine ev_s (fun Q k => rn_getr (q := 379) f_X6_7 ok_378.1 ok_378.2.1 (okO_1 ok_378) rfl rfl dX6_restore_67 k) ?_
      refine ev_s (fun Q k => rn_bipush (v := 6) (by decide) dX6_restore_70 k) ?_
      refine ev_gd (fun g1 => ?_)
      refine ev_s (fun Q k => rn_iald ok_379.1 ok_379.2.1 ok_379.2.2 (inR_vp g1) dX6_restore_72 k) ?_
      exact ev_ret (fun Q q => rn_ret q .int rfl rfl dX6_restore_73)
    · refine ev_s (fun Q k => rn_aload_n (j := 0) 0 rfl rfl (okO_0 ok_378) dX6_restore_42 k) ?_
      refine ev_s (fun Q k => rn_getr (q := 379) f_X6_7 ok_378.1 ok_378.2.1 (okO_1 ok_378) rfl rfl dX6_restore_43 k) ?_
      refine ev_s (fun Q k => rn_iload_n (j := 2) 2 rfl rfl dX6_restore_46 k) ?_
      refine ev_s (fun Q k => rn_aload_n (j := 0) 0 rfl rfl (okO_0 ok_378) dX6_restore_47 k) ?_
      refine ev_s (fun Q k => rn_getr (q := 382) f_X6_19 ok_378.1 ok_378.2.1 (okO_1 ok_378) rfl rfl dX6_restore_48 k) ?_
      refine ev_s (fun Q k => rn_sipush (v := 244) (by decide) dX6_restore_51 k) ?_
      refine ev_s (fun Q k => rn_iload_n (j := 1) 1 rfl rfl dX6_restore_54 k) ?_
      refine ev_s (fun Q k => rn_imul dX6_restore_55 k) ?_
      refine ev_s (fun Q k => rn_iload_n (j := 2) 2 rfl rfl dX6_restore_56 k) ?_
      refine ev_s (fun Q k => rn_iadd dX6_restore_57 k) ?_
      refine ev_gd (fun g2 => ?_)
      refine ev_s (fun Q k => rn_iald ok_382.1 ok_382.2.1 ok_382.2.2 (inR_vp g2) dX6_restore_58 k) ?_
      refine ev_gd (fun g3 => ?_)
      refine ev_s (fun Q k => rn_iast ok_379.1 ok_379.2.1 ok_379.2.2 (inR_vp g3) dX6_restore_59 k) ?_
      refine ev_s (fun Q k => rn_iinc (v := (v2 + (1 : Int32))) (ls' := [(2, .inl (v2 + (1 : Int32))), (0, .inr (.inr 378)), (1, .inl x1)]) 2 rfl rfl (by decide) rfl dX6_restore_60 k) ?_
      refine ev_s (fun Q k => rn_goto (tgt := 35) dX6_restore_63 (by decide) k) ?_
      refine ev_s (fun Q k => rn_sub (ls' := [(0, .inr (.inr 378)), (1, .inl x1), (2, .inl (v2 + (1 : Int32)))]) [1, 2, 0] rfl k) ?_
      exact ih (v2 + (1 : Int32)) (up2 D 379 v2.toNatClampNeg (D 382 (((244 : Int32) * x1) + v2).toNatClampNeg))

set_option maxRecDepth 20000 in
theorem e_X6_restore (l : Launch) (E : eE) (d : Nat) (x1 : Int32) (D : dT) : ev l E (d + 1) yX6_restore cX6_restore 3 (some .int) 0 [(0, .inr (.inr 378)), (1, .inl x1)] [] D eI (F_X6_restore x1 D) := by
  unfold F_X6_restore
  refine ev_s (fun Q k => rn_aload_n (j := 0) 0 rfl rfl (okO_0 ok_378) dX6_restore_0 k) ?_
  refine ev_s (fun Q k => rn_iconst (v := 0) (by decide) dX6_restore_1 k) ?_
  refine ev_s (fun Q k => rn_puti f_X6_32 ok_378.1 ok_378.2.1 (okO_1 ok_378) rfl rfl rfl rfl dX6_restore_2 k) ?_
  refine ev_s (fun Q k => rn_iload_n (j := 1) 1 rfl rfl dX6_restore_5 k) ?_
  refine ev_s (fun Q k => rn_iconst (v := 0) (by decide) dX6_restore_6 k) ?_
  refine ev_s (fun Q k => rn_iconst (v := 1) (by decide) dX6_restore_7 k) ?_
  refine ev_bindI (as := [.inl x1, .inl (0 : Int32), .inl (1 : Int32)]) (fun Q Q1 => rn_callS (as := [.inl x1, .inl (0 : Int32), .inl (1 : Int32)]) (rest := []) m_X6_36 dX6_restore_8 rfl rfl (Nat.le_of_ble_eq_true rfl)) pl_X6_in (Nat.le_of_ble_eq_true rfl) rfl (e_X6_in l E d x1 (0 : Int32) (1 : Int32) (up2 D 378 0 (0 : Int32))) (fun r1 D2 => ?_)
  refine ev_if (fun Q => rn_if_ne (tgt := 17) dX6_restore_11 (by decide)) (fun c8 => ?_) (fun c9 => ?_)
  · refine ev_s (fun Q k => rn_bipush (v := -2) (by decide) dX6_restore_14 k) ?_
    exact ev_ret (fun Q q => rn_ret q .int rfl rfl dX6_restore_16)
  · refine ev_s (fun Q k => rn_aload_n (j := 0) 0 rfl rfl (okO_0 ok_378) dX6_restore_17 k) ?_
    refine ev_s (fun Q k => rn_getr (q := 383) f_X6_22 ok_378.1 ok_378.2.1 (okO_1 ok_378) rfl rfl dX6_restore_18 k) ?_
    refine ev_s (fun Q k => rn_iload_n (j := 1) 1 rfl rfl dX6_restore_21 k) ?_
    refine ev_gd (fun g3 => ?_)
    refine ev_s (fun Q k => rn_zald ok_383.1 ok_383.2.1 ok_383.2.2 (inR_vp g3) dX6_restore_22 k) ?_
    refine ev_if (fun Q => rn_if_ne (tgt := 29) dX6_restore_23 (by decide)) (fun c6 => ?_) (fun c7 => ?_)
    · refine ev_s (fun Q k => rn_bipush (v := -5) (by decide) dX6_restore_26 k) ?_
      exact ev_ret (fun Q q => rn_ret q .int rfl rfl dX6_restore_28)
    · refine ev_s (fun Q k => rn_aload_n (j := 0) 0 rfl rfl (okO_0 ok_378) dX6_restore_29 k) ?_
      refine ev_bindU (as := [.inr (.inr 378)]) (fun Q Q1 => rn_callV (as := []) (rest := []) (o := 378) m_X6_117 dX6_restore_30 (rcv_own ok_378.1 ok_378.2.1 (by decide) (okO_1 ok_378)) rfl rfl (Nat.le_of_ble_eq_true rfl)) pl_X6_records (Nat.le_of_ble_eq_true rfl) rfl (e_X6_records l E d  D2) (fun r4 D5 => ?_)
      refine ev_s (fun Q k => rn_iconst (v := 0) (by decide) dX6_restore_33 k) ?_
      refine ev_s (fun Q k => rn_istore_n (j := 2) (ls' := [(2, .inl (0 : Int32)), (0, .inr (.inr 378)), (1, .inl x1)]) rfl (by decide) rfl dX6_restore_34 k) ?_
      refine ev_s (fun Q k => rn_sub (ls' := [(0, .inr (.inr 378)), (1, .inl x1), (2, .inl (0 : Int32))]) [1, 2, 0] rfl k) ?_
      exact e_X6_restore_35 l E d x1  lim (0 : Int32) D5

