def F_X0_passOneHour_9 (fuel : Nat) (B : Nat)  (v1 : Int32) (v2 : Int32) (v3 : Int32) (D : dT) : Option (Int32 × dT) := match fuel with
  | 0 => none
  | fu + 1 => if (D B 6) ≤ v3 then bd (F_X0_restPeople B (v2 ^^^ (-1 : Int32)) D) (fun (r1 : Int32) (D2 : dT) => some (v1, (up2 D2 B 7 ((D2 B 7) + (1 : Int32))))) else if inR v3 16 then if (D (B + 16 + v3.toNatClampNeg) 5) = (1 : Int32) then if inR v3 16 then bd (F_X0_workOneHour B (B + 16 + v3.toNatClampNeg) D) (fun (r5 : Int32) (D6 : dT) => if r5 = 0 then F_X0_passOneHour_9 fu B v1 v2 (v3 + (1 : Int32)) D6 else F_X0_passOneHour_9 fu B (v1 + (1 : Int32)) v2 (v3 + (1 : Int32)) D6) else none else F_X0_passOneHour_9 fu B v1 v2 (v3 + (1 : Int32)) D else none
def F_X0_passOneHour (B : Nat) (D : dT) : Option (Int32 × dT) := bd (F_X0_busyPeople B D) (fun (r1 : Int32) (D2 : dT) => F_X0_passOneHour_9 lim B (0 : Int32) r1 (0 : Int32) D2)
set_option maxRecDepth 20000 in
theorem e_X0_passOneHour_9 (l : Launch) (E : eE) (d : Nat) (B : Nat) (hB : isF B)  (fuel : Nat) : ∀ (v1 : Int32) (v2 : Int32) (v3 : Int32) (D : dT), ev l E (d + 4) yX0_passOneHour cX0_passOneHour 4 (some .int) 9 [(0, .inr (.inr B)), (1, .inl v1), (2, .inl v2), (3, .inl v3)] [] D eI (F_X0_passOneHour_9 fuel B v1 v2 v3 D) := by
  induction fuel with
  | zero =>
    intro v1 v2 v3 D
    exact ev_none
  | succ fu ih =>
    intro v1 v2 v3 D
    rw [F_X0_passOneHour_9]
    refine ev_s (fun Q k => rn_iload_n (j := 3) 3 rfl rfl dX0_passOneHour_9 k) ?_
    refine ev_s (fun Q k => rn_aload_n (j := 0) 0 rfl rfl (okO_0 (oF hB)) dX0_passOneHour_10 k) ?_
    refine ev_s (fun Q k => rn_geti f_X0_45 (oF hB).1 (oF hB).2.1 (okO_1 (oF hB)) rfl dX0_passOneHour_11 k) ?_
    refine ev_if (fun Q => rn_icmp_ge (tgt := 52) dX0_passOneHour_14 (by decide)) (fun c11 => ?_) (fun c12 => ?_)
    · refine ev_s (fun Q k => rn_aload_n (j := 0) 0 rfl rfl (okO_0 (oF hB)) dX0_passOneHour_52 k) ?_
      refine ev_s (fun Q k => rn_iload_n (j := 2) 2 rfl rfl dX0_passOneHour_53 k) ?_
      refine ev_s (fun Q k => rn_iconst (v := -1) (by decide) dX0_passOneHour_54 k) ?_
      refine ev_s (fun Q k => rn_ixor dX0_passOneHour_55 k) ?_
      refine ev_bindU (as := [.inr (.inr B), .inl (v2 ^^^ (-1 : Int32))]) (fun Q Q1 => rn_callV (as := [.inl (v2 ^^^ (-1 : Int32))]) (rest := []) (o := B) m_X0_196 dX0_passOneHour_56 (rcv_own (oF hB).1 (oF hB).2.1 (by decide) (okO_1 (oF hB))) rfl rfl (Nat.le_of_ble_eq_true rfl)) pl_X0_restPeople (Nat.le_of_ble_eq_true rfl) rfl (e_X0_restPeople l E (d + 1) B hB (v2 ^^^ (-1 : Int32)) D) (fun r1 D2 => ?_)
      refine ev_s (fun Q k => rn_aload_n (j := 0) 0 rfl rfl (okO_0 (oF hB)) dX0_passOneHour_59 k) ?_
      refine ev_s (fun Q k => rn_dup rfl dX0_passOneHour_60 k) ?_
      refine ev_s (fun Q k => rn_geti f_X0_48 (oF hB).1 (oF hB).2.1 (okO_1 (oF hB)) rfl dX0_passOneHour_61 k) ?_
      refine ev_s (fun Q k => rn_iconst (v := 1) (by decide) dX0_passOneHour_64 k) ?_
      refine ev_s (fun Q k => rn_iadd dX0_passOneHour_65 k) ?_
      refine ev_s (fun Q k => rn_puti f_X0_48 (oF hB).1 (oF hB).2.1 (okO_1 (oF hB)) rfl rfl rfl rfl dX0_passOneHour_66 k) ?_
      refine ev_s (fun Q k => rn_iload_n (j := 1) 1 rfl rfl dX0_passOneHour_69 k) ?_
      exact ev_ret (fun Q q => rn_ret q .int rfl rfl dX0_passOneHour_70)
    · refine ev_s (fun Q k => rn_aload_n (j := 0) 0 rfl rfl (okO_0 (oF hB)) dX0_passOneHour_17 k) ?_
      refine ev_s (fun Q k => rn_getr (q := (B + 5)) f_X0_29 (oF hB).1 (oF hB).2.1 (okO_1 (oF hB)) rfl (rF4 hB) dX0_passOneHour_18 k) ?_
      refine ev_s (fun Q k => rn_iload_n (j := 3) 3 rfl rfl dX0_passOneHour_21 k) ?_
      refine ev_gd (fun g3 => ?_)
      refine ev_s (fun Q k => rn_aald (q := (B + 16 + v3.toNatClampNeg)) (oF5 hB).1 (oF5 hB).2.1 (by decide) (by decide) (oF5 hB).2.2 (inR_vp g3) (rJ hB g3.2) dX0_passOneHour_22 k) ?_
      refine ev_s (fun Q k => rn_geti f_X0_120 (oJ hB g3.2).1 (oJ hB g3.2).2.1 (okO_1 (oJ hB g3.2)) rfl dX0_passOneHour_23 k) ?_
      refine ev_s (fun Q k => rn_iconst (v := 1) (by decide) dX0_passOneHour_26 k) ?_
      refine ev_if (fun Q => rn_icmp_ne (tgt := 46) dX0_passOneHour_27 (by decide)) (fun c9 => ?_) (fun c10 => ?_)
      · refine ev_s (fun Q k => rn_aload_n (j := 0) 0 rfl rfl (okO_0 (oF hB)) dX0_passOneHour_30 k) ?_
        refine ev_s (fun Q k => rn_aload_n (j := 0) 0 rfl rfl (okO_0 (oF hB)) dX0_passOneHour_31 k) ?_
        refine ev_s (fun Q k => rn_getr (q := (B + 5)) f_X0_29 (oF hB).1 (oF hB).2.1 (okO_1 (oF hB)) rfl (rF4 hB) dX0_passOneHour_32 k) ?_
        refine ev_s (fun Q k => rn_iload_n (j := 3) 3 rfl rfl dX0_passOneHour_35 k) ?_
        refine ev_gd (fun g4 => ?_)
        refine ev_s (fun Q k => rn_aald (q := (B + 16 + v3.toNatClampNeg)) (oF5 hB).1 (oF5 hB).2.1 (by decide) (by decide) (oF5 hB).2.2 (inR_vp g4) (rJ hB g4.2) dX0_passOneHour_36 k) ?_
        refine ev_bindI (as := [.inr (.inr B), .inr (.inr (B + 16 + v3.toNatClampNeg))]) (fun Q Q1 => rn_callV (as := [.inr (.inr (B + 16 + v3.toNatClampNeg))]) (rest := []) (o := B) m_X0_193 dX0_passOneHour_37 (rcv_own (oF hB).1 (oF hB).2.1 (by decide) (okO_1 (oF hB))) rfl rfl (Nat.le_of_ble_eq_true rfl)) pl_X0_workOneHour (Nat.le_of_ble_eq_true rfl) rfl (e_X0_workOneHour l E d B hB (B + 16 + v3.toNatClampNeg) (oJ hB g4.2) D) (fun r5 D6 => ?_)
        refine ev_if (fun Q => rn_if_eq (tgt := 46) dX0_passOneHour_40 (by decide)) (fun c7 => ?_) (fun c8 => ?_)
        · refine ev_s (fun Q k => rn_iinc (v := (v3 + (1 : Int32))) (ls' := [(3, .inl (v3 + (1 : Int32))), (0, .inr (.inr B)), (1, .inl v1), (2, .inl v2)]) 3 rfl rfl (by decide) rfl dX0_passOneHour_46 k) ?_
          refine ev_s (fun Q k => rn_goto (tgt := 9) dX0_passOneHour_49 (by decide) k) ?_
          refine ev_s (fun Q k => rn_sub (ls' := [(0, .inr (.inr B)), (1, .inl v1), (2, .inl v2), (3, .inl (v3 + (1 : Int32)))]) [1, 2, 3, 0] rfl k) ?_
          exact ih v1 v2 (v3 + (1 : Int32)) D6
        · refine ev_s (fun Q k => rn_iinc (v := (v1 + (1 : Int32))) (ls' := [(1, .inl (v1 + (1 : Int32))), (0, .inr (.inr B)), (2, .inl v2), (3, .inl v3)]) 1 rfl rfl (by decide) rfl dX0_passOneHour_43 k) ?_
          refine ev_s (fun Q k => rn_iinc (v := (v3 + (1 : Int32))) (ls' := [(3, .inl (v3 + (1 : Int32))), (1, .inl (v1 + (1 : Int32))), (0, .inr (.inr B)), (2, .inl v2)]) 3 rfl rfl (by decide) rfl dX0_passOneHour_46 k) ?_
          refine ev_s (fun Q k => rn_goto (tgt := 9) dX0_passOneHour_49 (by decide) k) ?_
          refine ev_s (fun Q k => rn_sub (ls' := [(0, .inr (.inr B)), (1, .inl (v1 + (1 : Int32))), (2, .inl v2), (3, .inl (v3 + (1 : Int32)))]) [2, 1, 3, 0] rfl k) ?_
          exact ih (v1 + (1 : Int32)) v2 (v3 + (1 : Int32)) D6
      · refine ev_s (fun Q k => rn_iinc (v := (v3 + (1 : Int32))) (ls' := [(3, .inl (v3 + (1 : Int32))), (0, .inr (.inr B)), (1, .inl v1), (2, .inl v2)]) 3 rfl rfl (by decide) rfl dX0_passOneHour_46 k) ?_
        refine ev_s (fun Q k => rn_goto (tgt := 9) dX0_passOneHour_49 (by decide) k) ?_
        refine ev_s (fun Q k => rn_sub (ls' := [(0, .inr (.inr B)), (1, .inl v1), (2, .inl v2), (3, .inl (v3 + (1 : Int32)))]) [1, 2, 3, 0] rfl k) ?_
        exact ih v1 v2 (v3 + (1 : Int32)) D

set_option maxRecDepth 20000 in
theorem e_X0_passOneHour (l : Launch) (E : eE) (d : Nat) (B : Nat) (hB : isF B) (D : dT) : ev l E (d + 4) yX0_passOneHour cX0_passOneHour 4 (some .int) 0 [(0, .inr (.inr B))] [] D eI (F_X0_passOneHour B D) := by
  unfold F_X0_passOneHour
  refine ev_s (fun Q k => rn_iconst (v := 0) (by decide) dX0_passOneHour_0 k) ?_
  refine ev_s (fun Q k => rn_istore_n (j := 1) (ls' := [(1, .inl (0 : Int32)), (0, .inr (.inr B))]) rfl (by decide) rfl dX0_passOneHour_1 k) ?_
  refine ev_s (fun Q k => rn_aload_n (j := 0) 1 rfl rfl (okO_0 (oF hB)) dX0_passOneHour_2 k) ?_
  refine ev_bindI (as := [.inr (.inr B)]) (fun Q Q1 => rn_callV (as := []) (rest := []) (o := B) m_X0_126 dX0_passOneHour_3 (rcv_own (oF hB).1 (oF hB).2.1 (by decide) (okO_1 (oF hB))) rfl rfl (Nat.le_of_ble_eq_true rfl)) pl_X0_busyPeople (Nat.le_of_ble_eq_true rfl) rfl (e_X0_busyPeople l E (d + 3) B hB D) (fun r1 D2 => ?_)
  refine ev_s (fun Q k => rn_istore_n (j := 2) (ls' := [(2, .inl r1), (1, .inl (0 : Int32)), (0, .inr (.inr B))]) rfl (by decide) rfl dX0_passOneHour_6 k) ?_
  refine ev_s (fun Q k => rn_iconst (v := 0) (by decide) dX0_passOneHour_7 k) ?_
  refine ev_s (fun Q k => rn_istore_n (j := 3) (ls' := [(3, .inl (0 : Int32)), (2, .inl r1), (1, .inl (0 : Int32)), (0, .inr (.inr B))]) rfl (by decide) rfl dX0_passOneHour_8 k) ?_
  refine ev_s (fun Q k => rn_sub (ls' := [(0, .inr (.inr B)), (1, .inl (0 : Int32)), (2, .inl r1), (3, .inl (0 : Int32))]) [3, 2, 1, 0] rfl k) ?_
  exact e_X0_passOneHour_9 l E d B hB  lim (0 : Int32) r1 (0 : Int32) D2

def F_X0_passHours_32 (fuel : Nat) (B : Nat) (x1 : Int32)  (v2 : Int32) (v3 : Int32) (D : dT) : Option (Int32 × dT) := match fuel with
  | 0 => none
  | fu + 1 => if x1 ≤ v3 then some (v2, D) else bd (F_X0_passOneHour B D) (fun (r1 : Int32) (D2 : dT) => F_X0_passHours_32 fu B x1 (v2 + r1) (v3 + (1 : Int32)) D2)
def F_X0_passHours (B : Nat) (x1 : Int32) (D : dT) : Option (Int32 × dT) := bd (F_X5_isWithin x1 (1 : Int32) (99 : Int32) D) (fun (r1 : Int32) (D2 : dT) => if r1 = 0 then some ((-2 : Int32), D2) else if ((D2 B 7) + x1) ≤ (9999 : Int32) then F_X0_passHours_32 lim B x1 (0 : Int32) (0 : Int32) D2 else some ((-5 : Int32), D2))
set_option maxRecDepth 20000 in
theorem e_X0_passHours_32 (l : Launch) (E : eE) (d : Nat) (B : Nat) (hB : isF B) (x1 : Int32)  (fuel : Nat) : ∀ (v2 : Int32) (v3 : Int32) (D : dT), ev l E (d + 5) yX0_passHours cX0_passHours 4 (some .int) 32 [(0, .inr (.inr B)), (1, .inl x1), (2, .inl v2), (3, .inl v3)] [] D eI (F_X0_passHours_32 fuel B x1 v2 v3 D) := by
  induction fuel with
  | zero =>
    intro v2 v3 D
    exact ev_none
  | succ fu ih =>
    intro v2 v3 D
    rw [F_X0_passHours_32]
    refine ev_s (fun Q k => rn_iload_n (j := 3) 3 rfl rfl dX0_passHours_32 k) ?_
    refine ev_s (fun Q k => rn_iload_n (j := 1) 1 rfl rfl dX0_passHours_33 k) ?_
    refine ev_if (fun Q => rn_icmp_ge (tgt := 50) dX0_passHours_34 (by decide)) (fun c3 => ?_) (fun c4 => ?_)
    · refine ev_s (fun Q k => rn_iload_n (j := 2) 2 rfl rfl dX0_passHours_50 k) ?_
      exact ev_ret (fun Q q => rn_ret q .int rfl rfl dX0_passHours_51)
    · refine ev_s (fun Q k => rn_iload_n (j := 2) 2 rfl rfl dX0_passHours_37 k) ?_
      refine ev_s (fun Q k => rn_aload_n (j := 0) 0 rfl rfl (okO_0 (oF hB)) dX0_passHours_38 k) ?_
      refine ev_bindI (as := [.inr (.inr B)]) (fun Q Q1 => rn_callV (as := []) (rest := [.inl v2]) (o := B) m_X0_190 dX0_passHours_39 (rcv_own (oF hB).1 (oF hB).2.1 (by decide) (okO_1 (oF hB))) rfl rfl (Nat.le_of_ble_eq_true rfl)) pl_X0_passOneHour (Nat.le_of_ble_eq_true rfl) rfl (e_X0_passOneHour l E d B hB D) (fun r1 D2 => ?_)
      refine ev_s (fun Q k => rn_iadd dX0_passHours_42 k) ?_
      refine ev_s (fun Q k => rn_istore_n (j := 2) (ls' := [(2, .inl (v2 + r1)), (0, .inr (.inr B)), (1, .inl x1), (3, .inl v3)]) rfl (by decide) rfl dX0_passHours_43 k) ?_
      refine ev_s (fun Q k => rn_iinc (v := (v3 + (1 : Int32))) (ls' := [(3, .inl (v3 + (1 : Int32))), (2, .inl (v2 + r1)), (0, .inr (.inr B)), (1, .inl x1)]) 3 rfl rfl (by decide) rfl dX0_passHours_44 k) ?_
      refine ev_s (fun Q k => rn_goto (tgt := 32) dX0_passHours_47 (by decide) k) ?_
      refine ev_s (fun Q k => rn_sub (ls' := [(0, .inr (.inr B)), (1, .inl x1), (2, .inl (v2 + r1)), (3, .inl (v3 + (1 : Int32)))]) [2, 3, 1, 0] rfl k) ?_
      exact ih (v2 + r1) (v3 + (1 : Int32)) D2

set_option maxRecDepth 20000 in
theorem e_X0_passHours (l : Launch) (E : eE) (d : Nat) (B : Nat) (hB : isF B) (x1 : Int32) (D : dT) : ev l E (d + 5) yX0_passHours cX0_passHours 4 (some .int) 0 [(0, .inr (.inr B)), (1, .inl x1)] [] D eI (F_X0_passHours B x1 D) := by
  unfold F_X0_passHours
  refine ev_s (fun Q k => rn_iload_n (j := 1) 1 rfl rfl dX0_passHours_0 k) ?_
  refine ev_s (fun Q k => rn_iconst (v := 1) (by decide) dX0_passHours_1 k) ?_
  refine ev_s (fun Q k => rn_bipush (v := 99) (by decide) dX0_passHours_2 k) ?_
  refine ev_bindI (as := [.inl x1, .inl (1 : Int32), .inl (99 : Int32)]) (fun Q Q1 => rn_callSN (as := [.inl x1, .inl (1 : Int32), .inl (99 : Int32)]) (rest := []) m_X0_64 dX0_passHours_4 rfl rfl (Nat.le_of_ble_eq_true rfl)) pl_X5_isWithin (Nat.le_of_ble_eq_true rfl) rfl (e_X5_isWithin l E (d + 4) x1 (1 : Int32) (99 : Int32) D) (fun r1 D2 => ?_)
  refine ev_if (fun Q => rn_if_ne (tgt := 13) dX0_passHours_7 (by decide)) (fun c5 => ?_) (fun c6 => ?_)
  · refine ev_s (fun Q k => rn_bipush (v := -2) (by decide) dX0_passHours_10 k) ?_
    exact ev_ret (fun Q q => rn_ret q .int rfl rfl dX0_passHours_12)
  · refine ev_s (fun Q k => rn_aload_n (j := 0) 0 rfl rfl (okO_0 (oF hB)) dX0_passHours_13 k) ?_
    refine ev_s (fun Q k => rn_geti f_X0_48 (oF hB).1 (oF hB).2.1 (okO_1 (oF hB)) rfl dX0_passHours_14 k) ?_
    refine ev_s (fun Q k => rn_iload_n (j := 1) 1 rfl rfl dX0_passHours_17 k) ?_
    refine ev_s (fun Q k => rn_iadd dX0_passHours_18 k) ?_
    refine ev_s (fun Q k => rn_sipush (v := 9999) (by decide) dX0_passHours_19 k) ?_
    refine ev_if (fun Q => rn_icmp_le (tgt := 28) dX0_passHours_22 (by decide)) (fun c3 => ?_) (fun c4 => ?_)
    · refine ev_s (fun Q k => rn_iconst (v := 0) (by decide) dX0_passHours_28 k) ?_
      refine ev_s (fun Q k => rn_istore_n (j := 2) (ls' := [(2, .inl (0 : Int32)), (0, .inr (.inr B)), (1, .inl x1)]) rfl (by decide) rfl dX0_passHours_29 k) ?_
      refine ev_s (fun Q k => rn_iconst (v := 0) (by decide) dX0_passHours_30 k) ?_
      refine ev_s (fun Q k => rn_istore_n (j := 3) (ls' := [(3, .inl (0 : Int32)), (2, .inl (0 : Int32)), (0, .inr (.inr B)), (1, .inl x1)]) rfl (by decide) rfl dX0_passHours_31 k) ?_
      refine ev_s (fun Q k => rn_sub (ls' := [(0, .inr (.inr B)), (1, .inl x1), (2, .inl (0 : Int32)), (3, .inl (0 : Int32))]) [2, 3, 1, 0] rfl k) ?_
      exact e_X0_passHours_32 l E d B hB x1  lim (0 : Int32) (0 : Int32) D2
    · refine ev_s (fun Q k => rn_bipush (v := -5) (by decide) dX0_passHours_25 k) ?_
      exact ev_ret (fun Q q => rn_ret q .int rfl rfl dX0_passHours_27)

def F_X5_pass (x1 : Int32) (D : dT) : Option (Int32 × dT) := bd (F_X1_note 19 D) (fun (r1 : Int32) (D2 : dT) => bd (F_X0_passHours 19 x1 D2) (fun (r3 : Int32) (D4 : dT) => bd (F_X1_keepUnlessError r3 D4) (fun (r5 : Int32) (D6 : dT) => some (r5, D6))))
set_option maxRecDepth 20000 in
theorem e_X5_pass (l : Launch) (E : eE) (d : Nat) (x1 : Int32) (D : dT) : ev l E (d + 6) yX5_pass cX5_pass 2 (some .int) 0 [(0, .inr (.inr 18)), (1, .inl x1)] [] D eI (F_X5_pass x1 D) := by
  unfold F_X5_pass
  refine ev_s (fun Q k => rn_aload_n (j := 0) 0 rfl rfl (okO_0 ok_18) dX5_pass_0 k) ?_
  refine ev_s (fun Q k => rn_getr (q := 85) f_X5_30 ok_18.1 ok_18.2.1 (okO_1 ok_18) rfl rfl dX5_pass_1 k) ?_
  refine ev_s (fun Q k => rn_aload_n (j := 0) 0 rfl rfl (okO_0 ok_18) dX5_pass_4 k) ?_
  refine ev_s (fun Q k => rn_getr (q := 19) f_X5_10 ok_18.1 ok_18.2.1 (okO_1 ok_18) rfl rfl dX5_pass_5 k) ?_
  refine ev_bindU (as := [.inr (.inr 85), .inr (.inr 19)]) (fun Q Q1 => rn_callV (as := [.inr (.inr 19)]) (rest := []) (o := 85) m_X5_41 dX5_pass_8 (rcv_own ok_85.1 ok_85.2.1 (by decide) (okO_1 ok_85)) rfl rfl (Nat.le_of_ble_eq_true rfl)) pl_X1_note (Nat.le_of_ble_eq_true rfl) rfl (e_X1_note l E (d + 3) 19 isF_19 D) (fun r1 D2 => ?_)
  refine ev_s (fun Q k => rn_aload_n (j := 0) 0 rfl rfl (okO_0 ok_18) dX5_pass_11 k) ?_
  refine ev_s (fun Q k => rn_getr (q := 85) f_X5_30 ok_18.1 ok_18.2.1 (okO_1 ok_18) rfl rfl dX5_pass_12 k) ?_
  refine ev_s (fun Q k => rn_aload_n (j := 0) 0 rfl rfl (okO_0 ok_18) dX5_pass_15 k) ?_
  refine ev_s (fun Q k => rn_getr (q := 19) f_X5_10 ok_18.1 ok_18.2.1 (okO_1 ok_18) rfl rfl dX5_pass_16 k) ?_
  refine ev_s (fun Q k => rn_iload_n (j := 1) 1 rfl rfl dX5_pass_19 k) ?_
  refine ev_bindI (as := [.inr (.inr 19), .inl x1]) (fun Q Q1 => rn_callV (as := [.inl x1]) (rest := [.inr (.inr 85)]) (o := 19) m_X5_77 dX5_pass_20 (rcv_own (oF isF_19).1 (oF isF_19).2.1 (by decide) (okO_1 (oF isF_19))) rfl rfl (Nat.le_of_ble_eq_true rfl)) pl_X0_passHours (Nat.le_of_ble_eq_true rfl) rfl (e_X0_passHours l E d 19 isF_19 x1 D2) (fun r3 D4 => ?_)
  refine ev_bindI (as := [.inr (.inr 85), .inl r3]) (fun Q Q1 => rn_callV (as := [.inl r3]) (rest := []) (o := 85) m_X5_49 dX5_pass_23 (rcv_own ok_85.1 ok_85.2.1 (by decide) (okO_1 ok_85)) rfl rfl (Nat.le_of_ble_eq_true rfl)) pl_X1_keepUnlessError (Nat.le_of_ble_eq_true rfl) rfl (e_X1_keepUnlessError l E (d + 3) r3 D4) (fun r5 D6 => ?_)
  exact ev_ret (fun Q q => rn_ret q .int rfl rfl dX5_pass_26)

