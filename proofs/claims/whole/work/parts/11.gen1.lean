def F_X0_hasJob (B : Nat) (x1 : Int32) (D : dT) : Option (Int32 × dT) := if x1 < 0 then some ((0 : Int32), D) else if (D B 6) ≤ x1 then some ((0 : Int32), D) else some ((1 : Int32), D)
set_option maxRecDepth 20000 in
theorem e_X0_hasJob (l : Launch) (E : eE) (d : Nat) (B : Nat) (hB : isF B) (x1 : Int32) (D : dT) : ev l E d yX0_hasJob cX0_hasJob 2 (some .boolean) 0 [(0, .inr (.inr B)), (1, .inl x1)] [] D eI (F_X0_hasJob B x1 D) := by
  unfold F_X0_hasJob
  refine ev_s (fun Q k => rn_iload_n (j := 1) 1 rfl rfl dX0_hasJob_0 k) ?_
  refine ev_if (fun Q => rn_if_lt (tgt := 16) dX0_hasJob_1 (by decide)) (fun c3 => ?_) (fun c4 => ?_)
  · refine ev_s (fun Q k => rn_iconst (v := 0) (by decide) dX0_hasJob_16 k) ?_
    exact ev_ret (fun Q q => rn_ret q .boolean rfl rfl dX0_hasJob_17)
  · refine ev_s (fun Q k => rn_iload_n (j := 1) 1 rfl rfl dX0_hasJob_4 k) ?_
    refine ev_s (fun Q k => rn_aload_n (j := 0) 0 rfl rfl (okO_0 (oF hB)) dX0_hasJob_5 k) ?_
    refine ev_s (fun Q k => rn_geti f_X0_45 (oF hB).1 (oF hB).2.1 (okO_1 (oF hB)) rfl dX0_hasJob_6 k) ?_
    refine ev_if (fun Q => rn_icmp_ge (tgt := 16) dX0_hasJob_9 (by decide)) (fun c1 => ?_) (fun c2 => ?_)
    · refine ev_s (fun Q k => rn_iconst (v := 0) (by decide) dX0_hasJob_16 k) ?_
      exact ev_ret (fun Q q => rn_ret q .boolean rfl rfl dX0_hasJob_17)
    · refine ev_s (fun Q k => rn_iconst (v := 1) (by decide) dX0_hasJob_12 k) ?_
      refine ev_s (fun Q k => rn_goto (tgt := 17) dX0_hasJob_13 (by decide) k) ?_
      exact ev_ret (fun Q q => rn_ret q .boolean rfl rfl dX0_hasJob_17)

def F_X5_isIn (x1 : Int32) (x2 : Int32) (D : dT) : Option (Int32 × dT) := if (x2 &&& ((1 : Int32) <<< (x1 &&& 31))) = 0 then some ((0 : Int32), D) else some ((1 : Int32), D)
set_option maxRecDepth 20000 in
theorem e_X5_isIn (l : Launch) (E : eE) (d : Nat) (x1 : Int32) (x2 : Int32) (D : dT) : ev l E d yX5_isIn cX5_isIn 2 (some .boolean) 0 [(0, .inl x1), (1, .inl x2)] [] D eI (F_X5_isIn x1 x2 D) := by
  unfold F_X5_isIn
  refine ev_s (fun Q k => rn_iload_n (j := 1) 1 rfl rfl dX5_isIn_0 k) ?_
  refine ev_s (fun Q k => rn_iconst (v := 1) (by decide) dX5_isIn_1 k) ?_
  refine ev_s (fun Q k => rn_iload_n (j := 0) 0 rfl rfl dX5_isIn_2 k) ?_
  refine ev_s (fun Q k => rn_ishl dX5_isIn_3 k) ?_
  refine ev_s (fun Q k => rn_iand dX5_isIn_4 k) ?_
  refine ev_if (fun Q => rn_if_eq (tgt := 12) dX5_isIn_5 (by decide)) (fun c1 => ?_) (fun c2 => ?_)
  · refine ev_s (fun Q k => rn_iconst (v := 0) (by decide) dX5_isIn_12 k) ?_
    exact ev_ret (fun Q q => rn_ret q .boolean rfl rfl dX5_isIn_13)
  · refine ev_s (fun Q k => rn_iconst (v := 1) (by decide) dX5_isIn_8 k) ?_
    refine ev_s (fun Q k => rn_goto (tgt := 13) dX5_isIn_9 (by decide) k) ?_
    exact ev_ret (fun Q q => rn_ret q .boolean rfl rfl dX5_isIn_13)

def F_X0_strengthOf_4 (fuel : Nat) (B : Nat) (x1 : Int32)  (v2 : Int32) (v3 : Int32) (D : dT) : Option (Int32 × dT) := match fuel with
  | 0 => none
  | fu + 1 => if (D B 5) ≤ v3 then some (v2, D) else bd (F_X5_isIn v3 x1 D) (fun (r1 : Int32) (D2 : dT) => if r1 = 0 then F_X0_strengthOf_4 fu B x1 v2 (v3 + (1 : Int32)) D2 else if inR v3 10 then F_X0_strengthOf_4 fu B x1 (v2 + (D2 (B + 6 + v3.toNatClampNeg) 1)) (v3 + (1 : Int32)) D2 else none)
def F_X0_strengthOf (B : Nat) (x1 : Int32) (D : dT) : Option (Int32 × dT) := F_X0_strengthOf_4 lim B x1 (0 : Int32) (0 : Int32) D
set_option maxRecDepth 20000 in
theorem e_X0_strengthOf_4 (l : Launch) (E : eE) (d : Nat) (B : Nat) (hB : isF B) (x1 : Int32)  (fuel : Nat) : ∀ (v2 : Int32) (v3 : Int32) (D : dT), ev l E (d + 1) yX0_strengthOf cX0_strengthOf 4 (some .int) 4 [(0, .inr (.inr B)), (1, .inl x1), (2, .inl v2), (3, .inl v3)] [] D eI (F_X0_strengthOf_4 fuel B x1 v2 v3 D) := by
  induction fuel with
  | zero =>
    intro v2 v3 D
    exact ev_none
  | succ fu ih =>
    intro v2 v3 D
    rw [F_X0_strengthOf_4]
    refine ev_s (fun Q k => rn_iload_n (j := 3) 3 rfl rfl dX0_strengthOf_4 k) ?_
    refine ev_s (fun Q k => rn_aload_n (j := 0) 0 rfl rfl (okO_0 (oF hB)) dX0_strengthOf_5 k) ?_
    refine ev_s (fun Q k => rn_geti f_X0_41 (oF hB).1 (oF hB).2.1 (okO_1 (oF hB)) rfl dX0_strengthOf_6 k) ?_
    refine ev_if (fun Q => rn_icmp_ge (tgt := 38) dX0_strengthOf_9 (by decide)) (fun c6 => ?_) (fun c7 => ?_)
    · refine ev_s (fun Q k => rn_iload_n (j := 2) 2 rfl rfl dX0_strengthOf_38 k) ?_
      exact ev_ret (fun Q q => rn_ret q .int rfl rfl dX0_strengthOf_39)
    · refine ev_s (fun Q k => rn_iload_n (j := 3) 3 rfl rfl dX0_strengthOf_12 k) ?_
      refine ev_s (fun Q k => rn_iload_n (j := 1) 1 rfl rfl dX0_strengthOf_13 k) ?_
      refine ev_bindI (as := [.inl v3, .inl x1]) (fun Q Q1 => rn_callSN (as := [.inl v3, .inl x1]) (rest := []) m_X0_101 dX0_strengthOf_14 rfl rfl (Nat.le_of_ble_eq_true rfl)) pl_X5_isIn (Nat.le_of_ble_eq_true rfl) rfl (e_X5_isIn l E d v3 x1 D) (fun r1 D2 => ?_)
      refine ev_if (fun Q => rn_if_eq (tgt := 32) dX0_strengthOf_17 (by decide)) (fun c4 => ?_) (fun c5 => ?_)
      · refine ev_s (fun Q k => rn_iinc (v := (v3 + (1 : Int32))) (ls' := [(3, .inl (v3 + (1 : Int32))), (0, .inr (.inr B)), (1, .inl x1), (2, .inl v2)]) 3 rfl rfl (by decide) rfl dX0_strengthOf_32 k) ?_
        refine ev_s (fun Q k => rn_goto (tgt := 4) dX0_strengthOf_35 (by decide) k) ?_
        refine ev_s (fun Q k => rn_sub (ls' := [(0, .inr (.inr B)), (1, .inl x1), (2, .inl v2), (3, .inl (v3 + (1 : Int32)))]) [1, 2, 3, 0] rfl k) ?_
        exact ih v2 (v3 + (1 : Int32)) D2
      · refine ev_s (fun Q k => rn_iload_n (j := 2) 2 rfl rfl dX0_strengthOf_20 k) ?_
        refine ev_s (fun Q k => rn_aload_n (j := 0) 0 rfl rfl (okO_0 (oF hB)) dX0_strengthOf_21 k) ?_
        refine ev_s (fun Q k => rn_getr f_X0_23 (oF hB).1 (oF hB).2.1 (okO_1 (oF hB)) rfl (rF3 hB) dX0_strengthOf_22 k) ?_
        refine ev_s (fun Q k => rn_iload_n (j := 3) 3 rfl rfl dX0_strengthOf_25 k) ?_
        refine ev_gd (fun g3 => ?_)
        refine ev_s (fun Q k => rn_aald (oF4 hB).1 (oF4 hB).2.1 (by decide) (by decide) (oF4 hB).2.2 (inR_vp g3) (rP hB g3.2) dX0_strengthOf_26 k) ?_
        refine ev_s (fun Q k => rn_geti f_X0_105 (oP hB g3.2).1 (oP hB g3.2).2.1 (okO_1 (oP hB g3.2)) rfl dX0_strengthOf_27 k) ?_
        refine ev_s (fun Q k => rn_iadd dX0_strengthOf_30 k) ?_
        refine ev_s (fun Q k => rn_istore_n (j := 2) (ls' := [(2, .inl (v2 + (D2 (B + 6 + v3.toNatClampNeg) 1))), (0, .inr (.inr B)), (1, .inl x1), (3, .inl v3)]) rfl (by decide) rfl dX0_strengthOf_31 k) ?_
        refine ev_s (fun Q k => rn_iinc (v := (v3 + (1 : Int32))) (ls' := [(3, .inl (v3 + (1 : Int32))), (2, .inl (v2 + (D2 (B + 6 + v3.toNatClampNeg) 1))), (0, .inr (.inr B)), (1, .inl x1)]) 3 rfl rfl (by decide) rfl dX0_strengthOf_32 k) ?_
        refine ev_s (fun Q k => rn_goto (tgt := 4) dX0_strengthOf_35 (by decide) k) ?_
        refine ev_s (fun Q k => rn_sub (ls' := [(0, .inr (.inr B)), (1, .inl x1), (2, .inl (v2 + (D2 (B + 6 + v3.toNatClampNeg) 1))), (3, .inl (v3 + (1 : Int32)))]) [2, 3, 1, 0] rfl k) ?_
        exact ih (v2 + (D2 (B + 6 + v3.toNatClampNeg) 1)) (v3 + (1 : Int32)) D2

set_option maxRecDepth 20000 in
theorem e_X0_strengthOf (l : Launch) (E : eE) (d : Nat) (B : Nat) (hB : isF B) (x1 : Int32) (D : dT) : ev l E (d + 1) yX0_strengthOf cX0_strengthOf 4 (some .int) 0 [(0, .inr (.inr B)), (1, .inl x1)] [] D eI (F_X0_strengthOf B x1 D) := by
  unfold F_X0_strengthOf
  refine ev_s (fun Q k => rn_iconst (v := 0) (by decide) dX0_strengthOf_0 k) ?_
  refine ev_s (fun Q k => rn_istore_n (j := 2) (ls' := [(2, .inl (0 : Int32)), (0, .inr (.inr B)), (1, .inl x1)]) rfl (by decide) rfl dX0_strengthOf_1 k) ?_
  refine ev_s (fun Q k => rn_iconst (v := 0) (by decide) dX0_strengthOf_2 k) ?_
  refine ev_s (fun Q k => rn_istore_n (j := 3) (ls' := [(3, .inl (0 : Int32)), (2, .inl (0 : Int32)), (0, .inr (.inr B)), (1, .inl x1)]) rfl (by decide) rfl dX0_strengthOf_3 k) ?_
  refine ev_s (fun Q k => rn_sub (ls' := [(0, .inr (.inr B)), (1, .inl x1), (2, .inl (0 : Int32)), (3, .inl (0 : Int32))]) [2, 3, 1, 0] rfl k) ?_
  exact e_X0_strengthOf_4 l E d B hB x1  lim (0 : Int32) (0 : Int32) D

def F_X4_rest (o : Nat) (x1 : Int32) (D : dT) : Option (Int32 × dT) := some ((0 : Int32), (up2 D o 1 (if ((D o 1) + x1) < (D o 0) then ((D o 1) + x1) else (D o 0))))
set_option maxRecDepth 20000 in
theorem e_X4_rest (l : Launch) (E : eE) (d : Nat) (o : Nat) (ho : okO o 4 0) (x1 : Int32) (D : dT) : ev l E (d + 1) yX4_rest cX4_rest 2 none 0 [(0, .inr (.inr o)), (1, .inl x1)] [] D eU (F_X4_rest o x1 D) := by
  unfold F_X4_rest
  refine ev_s (fun Q k => rn_aload_n (j := 0) 0 rfl rfl (okO_0 ho) dX4_rest_0 k) ?_
  refine ev_s (fun Q k => rn_aload_n (j := 0) 0 rfl rfl (okO_0 ho) dX4_rest_1 k) ?_
  refine ev_s (fun Q k => rn_geti f_X4_9 ho.1 ho.2.1 (okO_1 ho) rfl dX4_rest_2 k) ?_
  refine ev_s (fun Q k => rn_aload_n (j := 0) 0 rfl rfl (okO_0 ho) dX4_rest_5 k) ?_
  refine ev_s (fun Q k => rn_geti f_X4_15 ho.1 ho.2.1 (okO_1 ho) rfl dX4_rest_6 k) ?_
  refine ev_s (fun Q k => rn_iload_n (j := 1) 1 rfl rfl dX4_rest_9 k) ?_
  refine ev_s (fun Q k => rn_iadd dX4_rest_10 k) ?_
  refine ev_s (fun Q k => rn_mmin mth_X4_27 (Nat.le_of_ble_eq_true rfl) dX4_rest_11 k) ?_
  refine ev_s (fun Q k => rn_puti f_X4_15 ho.1 ho.2.1 (okO_1 ho) rfl rfl rfl rfl dX4_rest_14 k) ?_
  exact ev_ret (fun Q q => rn_retv q rfl dX4_rest_17)

def F_X0_restPeople_2 (fuel : Nat) (B : Nat) (x1 : Int32)  (v2 : Int32) (D : dT) : Option (Int32 × dT) := match fuel with
  | 0 => none
  | fu + 1 => if (D B 5) ≤ v2 then some ((0 : Int32), D) else bd (F_X5_isIn v2 x1 D) (fun (r1 : Int32) (D2 : dT) => if r1 = 0 then F_X0_restPeople_2 fu B x1 (v2 + (1 : Int32)) D2 else if inR v2 10 then if inR (1 : Int32) 4 then bd (F_X4_rest (B + 6 + v2.toNatClampNeg) (D2 (B + 1) (1 : Int32).toNatClampNeg) D2) (fun (r5 : Int32) (D6 : dT) => F_X0_restPeople_2 fu B x1 (v2 + (1 : Int32)) D6) else none else none)
def F_X0_restPeople (B : Nat) (x1 : Int32) (D : dT) : Option (Int32 × dT) := F_X0_restPeople_2 lim B x1 (0 : Int32) D
set_option maxRecDepth 20000 in
theorem e_X0_restPeople_2 (l : Launch) (E : eE) (d : Nat) (B : Nat) (hB : isF B) (x1 : Int32)  (fuel : Nat) : ∀ (v2 : Int32) (D : dT), ev l E (d + 2) yX0_restPeople cX0_restPeople 3 none 2 [(0, .inr (.inr B)), (1, .inl x1), (2, .inl v2)] [] D eU (F_X0_restPeople_2 fuel B x1 v2 D) := by
  induction fuel with
  | zero =>
    intro v2 D
    exact ev_none
  | succ fu ih =>
    intro v2 D
    rw [F_X0_restPeople_2]
    refine ev_s (fun Q k => rn_iload_n (j := 2) 2 rfl rfl dX0_restPeople_2 k) ?_
    refine ev_s (fun Q k => rn_aload_n (j := 0) 0 rfl rfl (okO_0 (oF hB)) dX0_restPeople_3 k) ?_
    refine ev_s (fun Q k => rn_geti f_X0_41 (oF hB).1 (oF hB).2.1 (okO_1 (oF hB)) rfl dX0_restPeople_4 k) ?_
    refine ev_if (fun Q => rn_icmp_ge (tgt := 39) dX0_restPeople_7 (by decide)) (fun c9 => ?_) (fun c10 => ?_)
    · exact ev_ret (fun Q q => rn_retv q rfl dX0_restPeople_39)
    · refine ev_s (fun Q k => rn_iload_n (j := 2) 2 rfl rfl dX0_restPeople_10 k) ?_
      refine ev_s (fun Q k => rn_iload_n (j := 1) 1 rfl rfl dX0_restPeople_11 k) ?_
      refine ev_bindI (as := [.inl v2, .inl x1]) (fun Q Q1 => rn_callSN (as := [.inl v2, .inl x1]) (rest := []) m_X0_101 dX0_restPeople_12 rfl rfl (Nat.le_of_ble_eq_true rfl)) pl_X5_isIn (Nat.le_of_ble_eq_true rfl) rfl (e_X5_isIn l E (d + 1) v2 x1 D) (fun r1 D2 => ?_)
      refine ev_if (fun Q => rn_if_eq (tgt := 33) dX0_restPeople_15 (by decide)) (fun c7 => ?_) (fun c8 => ?_)
      · refine ev_s (fun Q k => rn_iinc (v := (v2 + (1 : Int32))) (ls' := [(2, .inl (v2 + (1 : Int32))), (0, .inr (.inr B)), (1, .inl x1)]) 2 rfl rfl (by decide) rfl dX0_restPeople_33 k) ?_
        refine ev_s (fun Q k => rn_goto (tgt := 2) dX0_restPeople_36 (by decide) k) ?_
        refine ev_s (fun Q k => rn_sub (ls' := [(0, .inr (.inr B)), (1, .inl x1), (2, .inl (v2 + (1 : Int32)))]) [1, 2, 0] rfl k) ?_
        exact ih (v2 + (1 : Int32)) D2
      · refine ev_s (fun Q k => rn_aload_n (j := 0) 0 rfl rfl (okO_0 (oF hB)) dX0_restPeople_18 k) ?_
        refine ev_s (fun Q k => rn_getr f_X0_23 (oF hB).1 (oF hB).2.1 (okO_1 (oF hB)) rfl (rF3 hB) dX0_restPeople_19 k) ?_
        refine ev_s (fun Q k => rn_iload_n (j := 2) 2 rfl rfl dX0_restPeople_22 k) ?_
        refine ev_gd (fun g3 => ?_)
        refine ev_s (fun Q k => rn_aald (oF4 hB).1 (oF4 hB).2.1 (by decide) (by decide) (oF4 hB).2.2 (inR_vp g3) (rP hB g3.2) dX0_restPeople_23 k) ?_
        refine ev_s (fun Q k => rn_aload_n (j := 0) 0 rfl rfl (okO_0 (oF hB)) dX0_restPeople_24 k) ?_
        refine ev_s (fun Q k => rn_getr f_X0_9 (oF hB).1 (oF hB).2.1 (okO_1 (oF hB)) rfl (rF0 hB) dX0_restPeople_25 k) ?_
        refine ev_s (fun Q k => rn_iconst (v := 1) (by decide) dX0_restPeople_28 k) ?_
        refine ev_gd (fun g4 => ?_)
        refine ev_s (fun Q k => rn_iald (oF1 hB).1 (oF1 hB).2.1 (oF1 hB).2.2 (inR_vp g4) dX0_restPeople_29 k) ?_
        refine ev_bindU (as := [.inr (.inr (B + 6 + v2.toNatClampNeg)), .inl (D2 (B + 1) (1 : Int32).toNatClampNeg)]) (fun Q Q1 => rn_callV (as := [.inl (D2 (B + 1) (1 : Int32).toNatClampNeg)]) (rest := []) (o := (B + 6 + v2.toNatClampNeg)) m_X0_210 dX0_restPeople_30 (rcv_own (oP hB g3.2).1 (oP hB g3.2).2.1 (by decide) (okO_1 (oP hB g3.2))) rfl rfl (Nat.le_of_ble_eq_true rfl)) pl_X4_rest (Nat.le_of_ble_eq_true rfl) rfl (e_X4_rest l E d (B + 6 + v2.toNatClampNeg) (oP hB g3.2) (D2 (B + 1) (1 : Int32).toNatClampNeg) D2) (fun r5 D6 => ?_)
        refine ev_s (fun Q k => rn_iinc (v := (v2 + (1 : Int32))) (ls' := [(2, .inl (v2 + (1 : Int32))), (0, .inr (.inr B)), (1, .inl x1)]) 2 rfl rfl (by decide) rfl dX0_restPeople_33 k) ?_
        refine ev_s (fun Q k => rn_goto (tgt := 2) dX0_restPeople_36 (by decide) k) ?_
        refine ev_s (fun Q k => rn_sub (ls' := [(0, .inr (.inr B)), (1, .inl x1), (2, .inl (v2 + (1 : Int32)))]) [1, 2, 0] rfl k) ?_
        exact ih (v2 + (1 : Int32)) D6

set_option maxRecDepth 20000 in
theorem e_X0_restPeople (l : Launch) (E : eE) (d : Nat) (B : Nat) (hB : isF B) (x1 : Int32) (D : dT) : ev l E (d + 2) yX0_restPeople cX0_restPeople 3 none 0 [(0, .inr (.inr B)), (1, .inl x1)] [] D eU (F_X0_restPeople B x1 D) := by
  unfold F_X0_restPeople
  refine ev_s (fun Q k => rn_iconst (v := 0) (by decide) dX0_restPeople_0 k) ?_
  refine ev_s (fun Q k => rn_istore_n (j := 2) (ls' := [(2, .inl (0 : Int32)), (0, .inr (.inr B)), (1, .inl x1)]) rfl (by decide) rfl dX0_restPeople_1 k) ?_
  refine ev_s (fun Q k => rn_sub (ls' := [(0, .inr (.inr B)), (1, .inl x1), (2, .inl (0 : Int32))]) [1, 2, 0] rfl k) ?_
  exact e_X0_restPeople_2 l E d B hB x1  lim (0 : Int32) D

def F_X4_carry (o : Nat) (x1 : Int32) (D : dT) : Option (Int32 × dT) := some ((0 : Int32), (up2 (up2 D o 1 (if (0 : Int32) < ((D o 1) - x1) then ((D o 1) - x1) else (0 : Int32))) o 3 (((up2 D o 1 (if (0 : Int32) < ((D o 1) - x1) then ((D o 1) - x1) else (0 : Int32))) o 3) + (1 : Int32))))
set_option maxRecDepth 20000 in
theorem e_X4_carry (l : Launch) (E : eE) (d : Nat) (o : Nat) (ho : okO o 4 0) (x1 : Int32) (D : dT) : ev l E (d + 1) yX4_carry cX4_carry 2 none 0 [(0, .inr (.inr o)), (1, .inl x1)] [] D eU (F_X4_carry o x1 D) := by
  unfold F_X4_carry
  refine ev_s (fun Q k => rn_aload_n (j := 0) 0 rfl rfl (okO_0 ho) dX4_carry_0 k) ?_
  refine ev_s (fun Q k => rn_iconst (v := 0) (by decide) dX4_carry_1 k) ?_
  refine ev_s (fun Q k => rn_aload_n (j := 0) 0 rfl rfl (okO_0 ho) dX4_carry_2 k) ?_
  refine ev_s (fun Q k => rn_geti f_X4_15 ho.1 ho.2.1 (okO_1 ho) rfl dX4_carry_3 k) ?_
  refine ev_s (fun Q k => rn_iload_n (j := 1) 1 rfl rfl dX4_carry_6 k) ?_
  refine ev_s (fun Q k => rn_isub dX4_carry_7 k) ?_
  refine ev_s (fun Q k => rn_mmax mth_X4_33 (Nat.le_of_ble_eq_true rfl) dX4_carry_8 k) ?_
  refine ev_s (fun Q k => rn_puti f_X4_15 ho.1 ho.2.1 (okO_1 ho) rfl rfl rfl rfl dX4_carry_11 k) ?_
  refine ev_s (fun Q k => rn_aload_n (j := 0) 0 rfl rfl (okO_0 ho) dX4_carry_14 k) ?_
  refine ev_s (fun Q k => rn_dup rfl dX4_carry_15 k) ?_
  refine ev_s (fun Q k => rn_geti f_X4_21 ho.1 ho.2.1 (okO_1 ho) rfl dX4_carry_16 k) ?_
  refine ev_s (fun Q k => rn_iconst (v := 1) (by decide) dX4_carry_19 k) ?_
  refine ev_s (fun Q k => rn_iadd dX4_carry_20 k) ?_
  refine ev_s (fun Q k => rn_puti f_X4_21 ho.1 ho.2.1 (okO_1 ho) rfl rfl rfl rfl dX4_carry_21 k) ?_
  exact ev_ret (fun Q q => rn_retv q rfl dX4_carry_24)

def F_X0_carryHour_52 (B : Nat) (x1 : Int32) (x2 : Int32) (k2 : Int32 → dT → Option (Int32 × dT)) (v3 : Int32) (s0 : Int32) (s1 : Int32) (o2s : Nat) (D : dT) : Option (Int32 × dT) := k2 (v3 + (1 : Int32)) (up2 D o2s 4 (s1 + s0))
def F_X0_carryHour_2 (fuel : Nat) (B : Nat) (x1 : Int32) (x2 : Int32)  (v3 : Int32) (D : dT) : Option (Int32 × dT) := match fuel with
  | 0 => none
  | fu + 1 => if (D B 5) ≤ v3 then some ((0 : Int32), D) else bd (F_X5_isIn v3 x1 D) (fun (r1 : Int32) (D2 : dT) => if r1 = 0 then F_X0_carryHour_2 fu B x1 x2 (v3 + (1 : Int32)) D2 else if inR v3 10 then if inR (2 : Int32) 4 then bd (F_X4_carry (B + 6 + v3.toNatClampNeg) (D2 (B + 1) (2 : Int32).toNatClampNeg) D2) (fun (r5 : Int32) (D6 : dT) => if inR v3 10 then if x2 = 0 then F_X0_carryHour_52 B x1 x2 (fun (v3_ : Int32) (D_ : dT) => F_X0_carryHour_2 fu B x1 x2 v3_ D_) v3 (0 : Int32) (D6 (B + 6 + v3.toNatClampNeg) 4) (B + 6 + v3.toNatClampNeg) D6 else F_X0_carryHour_52 B x1 x2 (fun (v3_ : Int32) (D_ : dT) => F_X0_carryHour_2 fu B x1 x2 v3_ D_) v3 (1 : Int32) (D6 (B + 6 + v3.toNatClampNeg) 4) (B + 6 + v3.toNatClampNeg) D6 else none) else none else none)
def F_X0_carryHour (B : Nat) (x1 : Int32) (x2 : Int32) (D : dT) : Option (Int32 × dT) := F_X0_carryHour_2 lim B x1 x2 (0 : Int32) D
set_option maxRecDepth 20000 in
theorem e_X0_carryHour_52 (l : Launch) (E : eE) (d : Nat) (B : Nat) (hB : isF B) (x1 : Int32) (x2 : Int32) (k2 : Int32 → dT → Option (Int32 × dT)) (hk2 : ∀ (v3 : Int32) (D : dT), ev l E (d + 2) yX0_carryHour cX0_carryHour 4 none 2 [(0, .inr (.inr B)), (1, .inl x1), (2, .inl x2), (3, .inl v3)] [] D eU (k2 v3 D)) (v3 : Int32) (s0 : Int32) (s1 : Int32) (o2s : Nat) (ho2s : okO o2s 4 0) (D : dT) : ev l E (d + 2) yX0_carryHour cX0_carryHour 4 none 52 [(0, .inr (.inr B)), (1, .inl x1), (2, .inl x2), (3, .inl v3)] [.inl s0, .inl s1, .inr (.inr o2s)] D eU (F_X0_carryHour_52 B x1 x2 k2 v3 s0 s1 o2s D) := by
  unfold F_X0_carryHour_52
  refine ev_s (fun Q k => rn_iadd dX0_carryHour_52 k) ?_
  refine ev_s (fun Q k => rn_puti f_X0_216 ho2s.1 ho2s.2.1 (okO_1 ho2s) rfl rfl rfl rfl dX0_carryHour_53 k) ?_
  refine ev_s (fun Q k => rn_iinc (v := (v3 + (1 : Int32))) (ls' := [(3, .inl (v3 + (1 : Int32))), (0, .inr (.inr B)), (1, .inl x1), (2, .inl x2)]) 3 rfl rfl (by decide) rfl dX0_carryHour_56 k) ?_
  refine ev_s (fun Q k => rn_goto (tgt := 2) dX0_carryHour_59 (by decide) k) ?_
  refine ev_s (fun Q k => rn_sub (ls' := [(0, .inr (.inr B)), (1, .inl x1), (2, .inl x2), (3, .inl (v3 + (1 : Int32)))]) [1, 2, 3, 0] rfl k) ?_
  exact hk2 (v3 + (1 : Int32)) (up2 D o2s 4 (s1 + s0))

set_option maxRecDepth 20000 in
theorem e_X0_carryHour_2 (l : Launch) (E : eE) (d : Nat) (B : Nat) (hB : isF B) (x1 : Int32) (x2 : Int32)  (fuel : Nat) : ∀ (v3 : Int32) (D : dT), ev l E (d + 2) yX0_carryHour cX0_carryHour 4 none 2 [(0, .inr (.inr B)), (1, .inl x1), (2, .inl x2), (3, .inl v3)] [] D eU (F_X0_carryHour_2 fuel B x1 x2 v3 D) := by
  induction fuel with
  | zero =>
    intro v3 D
    exact ev_none
  | succ fu ih =>
    intro v3 D
    rw [F_X0_carryHour_2]
    refine ev_s (fun Q k => rn_iload_n (j := 3) 3 rfl rfl dX0_carryHour_2 k) ?_
    refine ev_s (fun Q k => rn_aload_n (j := 0) 0 rfl rfl (okO_0 (oF hB)) dX0_carryHour_3 k) ?_
    refine ev_s (fun Q k => rn_geti f_X0_41 (oF hB).1 (oF hB).2.1 (okO_1 (oF hB)) rfl dX0_carryHour_4 k) ?_
    refine ev_if (fun Q => rn_icmp_ge (tgt := 62) dX0_carryHour_7 (by decide)) (fun c12 => ?_) (fun c13 => ?_)
    · exact ev_ret (fun Q q => rn_retv q rfl dX0_carryHour_62)
    · refine ev_s (fun Q k => rn_iload_n (j := 3) 3 rfl rfl dX0_carryHour_10 k) ?_
      refine ev_s (fun Q k => rn_iload_n (j := 1) 1 rfl rfl dX0_carryHour_11 k) ?_
      refine ev_bindI (as := [.inl v3, .inl x1]) (fun Q Q1 => rn_callSN (as := [.inl v3, .inl x1]) (rest := []) m_X0_101 dX0_carryHour_12 rfl rfl (Nat.le_of_ble_eq_true rfl)) pl_X5_isIn (Nat.le_of_ble_eq_true rfl) rfl (e_X5_isIn l E (d + 1) v3 x1 D) (fun r1 D2 => ?_)
      refine ev_if (fun Q => rn_if_eq (tgt := 56) dX0_carryHour_15 (by decide)) (fun c10 => ?_) (fun c11 => ?_)
      · refine ev_s (fun Q k => rn_iinc (v := (v3 + (1 : Int32))) (ls' := [(3, .inl (v3 + (1 : Int32))), (0, .inr (.inr B)), (1, .inl x1), (2, .inl x2)]) 3 rfl rfl (by decide) rfl dX0_carryHour_56 k) ?_
        refine ev_s (fun Q k => rn_goto (tgt := 2) dX0_carryHour_59 (by decide) k) ?_
        refine ev_s (fun Q k => rn_sub (ls' := [(0, .inr (.inr B)), (1, .inl x1), (2, .inl x2), (3, .inl (v3 + (1 : Int32)))]) [1, 2, 3, 0] rfl k) ?_
        exact ih (v3 + (1 : Int32)) D2
      · refine ev_s (fun Q k => rn_aload_n (j := 0) 0 rfl rfl (okO_0 (oF hB)) dX0_carryHour_18 k) ?_
        refine ev_s (fun Q k => rn_getr f_X0_23 (oF hB).1 (oF hB).2.1 (okO_1 (oF hB)) rfl (rF3 hB) dX0_carryHour_19 k) ?_
        refine ev_s (fun Q k => rn_iload_n (j := 3) 3 rfl rfl dX0_carryHour_22 k) ?_
        refine ev_gd (fun g3 => ?_)
        refine ev_s (fun Q k => rn_aald (oF4 hB).1 (oF4 hB).2.1 (by decide) (by decide) (oF4 hB).2.2 (inR_vp g3) (rP hB g3.2) dX0_carryHour_23 k) ?_
        refine ev_s (fun Q k => rn_aload_n (j := 0) 0 rfl rfl (okO_0 (oF hB)) dX0_carryHour_24 k) ?_
        refine ev_s (fun Q k => rn_getr f_X0_9 (oF hB).1 (oF hB).2.1 (okO_1 (oF hB)) rfl (rF0 hB) dX0_carryHour_25 k) ?_
        refine ev_s (fun Q k => rn_iconst (v := 2) (by decide) dX0_carryHour_28 k) ?_
        refine ev_gd (fun g4 => ?_)
        refine ev_s (fun Q k => rn_iald (oF1 hB).1 (oF1 hB).2.1 (oF1 hB).2.2 (inR_vp g4) dX0_carryHour_29 k) ?_
        refine ev_bindU (as := [.inr (.inr (B + 6 + v3.toNatClampNeg)), .inl (D2 (B + 1) (2 : Int32).toNatClampNeg)]) (fun Q Q1 => rn_callV (as := [.inl (D2 (B + 1) (2 : Int32).toNatClampNeg)]) (rest := []) (o := (B + 6 + v3.toNatClampNeg)) m_X0_213 dX0_carryHour_30 (rcv_own (oP hB g3.2).1 (oP hB g3.2).2.1 (by decide) (okO_1 (oP hB g3.2))) rfl rfl (Nat.le_of_ble_eq_true rfl)) pl_X4_carry (Nat.le_of_ble_eq_true rfl) rfl (e_X4_carry l E d (B + 6 + v3.toNatClampNeg) (oP hB g3.2) (D2 (B + 1) (2 : Int32).toNatClampNeg) D2) (fun r5 D6 => ?_)
        refine ev_s (fun Q k => rn_aload_n (j := 0) 0 rfl rfl (okO_0 (oF hB)) dX0_carryHour_33 k) ?_
        refine ev_s (fun Q k => rn_getr f_X0_23 (oF hB).1 (oF hB).2.1 (okO_1 (oF hB)) rfl (rF3 hB) dX0_carryHour_34 k) ?_
        refine ev_s (fun Q k => rn_iload_n (j := 3) 3 rfl rfl dX0_carryHour_37 k) ?_
        refine ev_gd (fun g7 => ?_)
        refine ev_s (fun Q k => rn_aald (oF4 hB).1 (oF4 hB).2.1 (by decide) (by decide) (oF4 hB).2.2 (inR_vp g7) (rP hB g7.2) dX0_carryHour_38 k) ?_
        refine ev_s (fun Q k => rn_dup rfl dX0_carryHour_39 k) ?_
        refine ev_s (fun Q k => rn_geti f_X0_216 (oP hB g7.2).1 (oP hB g7.2).2.1 (okO_1 (oP hB g7.2)) rfl dX0_carryHour_40 k) ?_
        refine ev_s (fun Q k => rn_iload_n (j := 2) 2 rfl rfl dX0_carryHour_43 k) ?_
        refine ev_if (fun Q => rn_if_eq (tgt := 51) dX0_carryHour_44 (by decide)) (fun c8 => ?_) (fun c9 => ?_)
        · refine ev_s (fun Q k => rn_iconst (v := 0) (by decide) dX0_carryHour_51 k) ?_
          exact e_X0_carryHour_52 l E d B hB x1 x2 (fun (v3_ : Int32) (D_ : dT) => F_X0_carryHour_2 fu B x1 x2 v3_ D_) (fun v3_ D_ => ih v3_ D_)  v3 (0 : Int32) (D6 (B + 6 + v3.toNatClampNeg) 4) (B + 6 + v3.toNatClampNeg) (oP hB g7.2) D6
        · refine ev_s (fun Q k => rn_iconst (v := 1) (by decide) dX0_carryHour_47 k) ?_
          refine ev_s (fun Q k => rn_goto (tgt := 52) dX0_carryHour_48 (by decide) k) ?_
          exact e_X0_carryHour_52 l E d B hB x1 x2 (fun (v3_ : Int32) (D_ : dT) => F_X0_carryHour_2 fu B x1 x2 v3_ D_) (fun v3_ D_ => ih v3_ D_)  v3 (1 : Int32) (D6 (B + 6 + v3.toNatClampNeg) 4) (B + 6 + v3.toNatClampNeg) (oP hB g7.2) D6

set_option maxRecDepth 20000 in
theorem e_X0_carryHour (l : Launch) (E : eE) (d : Nat) (B : Nat) (hB : isF B) (x1 : Int32) (x2 : Int32) (D : dT) : ev l E (d + 2) yX0_carryHour cX0_carryHour 4 none 0 [(0, .inr (.inr B)), (1, .inl x1), (2, .inl x2)] [] D eU (F_X0_carryHour B x1 x2 D) := by
  unfold F_X0_carryHour
  refine ev_s (fun Q k => rn_iconst (v := 0) (by decide) dX0_carryHour_0 k) ?_
  refine ev_s (fun Q k => rn_istore_n (j := 3) (ls' := [(3, .inl (0 : Int32)), (0, .inr (.inr B)), (1, .inl x1), (2, .inl x2)]) rfl (by decide) rfl dX0_carryHour_1 k) ?_
  refine ev_s (fun Q k => rn_sub (ls' := [(0, .inr (.inr B)), (1, .inl x1), (2, .inl x2), (3, .inl (0 : Int32))]) [1, 2, 3, 0] rfl k) ?_
  exact e_X0_carryHour_2 l E d B hB x1 x2  lim (0 : Int32) D

def F_X0_placeCrew_2 (fuel : Nat) (B : Nat) (x1 : Int32) (x2 : Int32)  (v3 : Int32) (D : dT) : Option (Int32 × dT) := match fuel with
  | 0 => none
  | fu + 1 => if (D B 5) ≤ v3 then some ((0 : Int32), D) else bd (F_X5_isIn v3 x1 D) (fun (r1 : Int32) (D2 : dT) => if r1 = 0 then F_X0_placeCrew_2 fu B x1 x2 (v3 + (1 : Int32)) D2 else if inR v3 10 then F_X0_placeCrew_2 fu B x1 x2 (v3 + (1 : Int32)) (up2 D2 (B + 6 + v3.toNatClampNeg) 2 x2) else none)
def F_X0_placeCrew (B : Nat) (x1 : Int32) (x2 : Int32) (D : dT) : Option (Int32 × dT) := F_X0_placeCrew_2 lim B x1 x2 (0 : Int32) D
set_option maxRecDepth 20000 in
theorem e_X0_placeCrew_2 (l : Launch) (E : eE) (d : Nat) (B : Nat) (hB : isF B) (x1 : Int32) (x2 : Int32)  (fuel : Nat) : ∀ (v3 : Int32) (D : dT), ev l E (d + 1) yX0_placeCrew cX0_placeCrew 4 none 2 [(0, .inr (.inr B)), (1, .inl x1), (2, .inl x2), (3, .inl v3)] [] D eU (F_X0_placeCrew_2 fuel B x1 x2 v3 D) := by
  induction fuel with
  | zero =>
    intro v3 D
    exact ev_none
  | succ fu ih =>
    intro v3 D
    rw [F_X0_placeCrew_2]
    refine ev_s (fun Q k => rn_iload_n (j := 3) 3 rfl rfl dX0_placeCrew_2 k) ?_
    refine ev_s (fun Q k => rn_aload_n (j := 0) 0 rfl rfl (okO_0 (oF hB)) dX0_placeCrew_3 k) ?_
    refine ev_s (fun Q k => rn_geti f_X0_41 (oF hB).1 (oF hB).2.1 (okO_1 (oF hB)) rfl dX0_placeCrew_4 k) ?_
    refine ev_if (fun Q => rn_icmp_ge (tgt := 34) dX0_placeCrew_7 (by decide)) (fun c6 => ?_) (fun c7 => ?_)
    · exact ev_ret (fun Q q => rn_retv q rfl dX0_placeCrew_34)
    · refine ev_s (fun Q k => rn_iload_n (j := 3) 3 rfl rfl dX0_placeCrew_10 k) ?_
      refine ev_s (fun Q k => rn_iload_n (j := 1) 1 rfl rfl dX0_placeCrew_11 k) ?_
      refine ev_bindI (as := [.inl v3, .inl x1]) (fun Q Q1 => rn_callSN (as := [.inl v3, .inl x1]) (rest := []) m_X0_101 dX0_placeCrew_12 rfl rfl (Nat.le_of_ble_eq_true rfl)) pl_X5_isIn (Nat.le_of_ble_eq_true rfl) rfl (e_X5_isIn l E d v3 x1 D) (fun r1 D2 => ?_)
      refine ev_if (fun Q => rn_if_eq (tgt := 28) dX0_placeCrew_15 (by decide)) (fun c4 => ?_) (fun c5 => ?_)
      · refine ev_s (fun Q k => rn_iinc (v := (v3 + (1 : Int32))) (ls' := [(3, .inl (v3 + (1 : Int32))), (0, .inr (.inr B)), (1, .inl x1), (2, .inl x2)]) 3 rfl rfl (by decide) rfl dX0_placeCrew_28 k) ?_
        refine ev_s (fun Q k => rn_goto (tgt := 2) dX0_placeCrew_31 (by decide) k) ?_
        refine ev_s (fun Q k => rn_sub (ls' := [(0, .inr (.inr B)), (1, .inl x1), (2, .inl x2), (3, .inl (v3 + (1 : Int32)))]) [1, 2, 3, 0] rfl k) ?_
        exact ih (v3 + (1 : Int32)) D2
      · refine ev_s (fun Q k => rn_aload_n (j := 0) 0 rfl rfl (okO_0 (oF hB)) dX0_placeCrew_18 k) ?_
        refine ev_s (fun Q k => rn_getr f_X0_23 (oF hB).1 (oF hB).2.1 (okO_1 (oF hB)) rfl (rF3 hB) dX0_placeCrew_19 k) ?_
        refine ev_s (fun Q k => rn_iload_n (j := 3) 3 rfl rfl dX0_placeCrew_22 k) ?_
        refine ev_gd (fun g3 => ?_)
        refine ev_s (fun Q k => rn_aald (oF4 hB).1 (oF4 hB).2.1 (by decide) (by decide) (oF4 hB).2.2 (inR_vp g3) (rP hB g3.2) dX0_placeCrew_23 k) ?_
        refine ev_s (fun Q k => rn_iload_n (j := 2) 2 rfl rfl dX0_placeCrew_24 k) ?_
        refine ev_s (fun Q k => rn_puti f_X0_98 (oP hB g3.2).1 (oP hB g3.2).2.1 (okO_1 (oP hB g3.2)) rfl rfl rfl rfl dX0_placeCrew_25 k) ?_
        refine ev_s (fun Q k => rn_iinc (v := (v3 + (1 : Int32))) (ls' := [(3, .inl (v3 + (1 : Int32))), (0, .inr (.inr B)), (1, .inl x1), (2, .inl x2)]) 3 rfl rfl (by decide) rfl dX0_placeCrew_28 k) ?_
        refine ev_s (fun Q k => rn_goto (tgt := 2) dX0_placeCrew_31 (by decide) k) ?_
        refine ev_s (fun Q k => rn_sub (ls' := [(0, .inr (.inr B)), (1, .inl x1), (2, .inl x2), (3, .inl (v3 + (1 : Int32)))]) [1, 2, 3, 0] rfl k) ?_
        exact ih (v3 + (1 : Int32)) (up2 D2 (B + 6 + v3.toNatClampNeg) 2 x2)

set_option maxRecDepth 20000 in
theorem e_X0_placeCrew (l : Launch) (E : eE) (d : Nat) (B : Nat) (hB : isF B) (x1 : Int32) (x2 : Int32) (D : dT) : ev l E (d + 1) yX0_placeCrew cX0_placeCrew 4 none 0 [(0, .inr (.inr B)), (1, .inl x1), (2, .inl x2)] [] D eU (F_X0_placeCrew B x1 x2 D) := by
  unfold F_X0_placeCrew
  refine ev_s (fun Q k => rn_iconst (v := 0) (by decide) dX0_placeCrew_0 k) ?_
  refine ev_s (fun Q k => rn_istore_n (j := 3) (ls' := [(3, .inl (0 : Int32)), (0, .inr (.inr B)), (1, .inl x1), (2, .inl x2)]) rfl (by decide) rfl dX0_placeCrew_1 k) ?_
  refine ev_s (fun Q k => rn_sub (ls' := [(0, .inr (.inr B)), (1, .inl x1), (2, .inl x2), (3, .inl (0 : Int32))]) [1, 2, 3, 0] rfl k) ?_
  exact e_X0_placeCrew_2 l E d B hB x1 x2  lim (0 : Int32) D

def F_X5_isKind (x1 : Int32) (D : dT) : Option (Int32 × dT) := if x1 < 0 then some ((0 : Int32), D) else if (3 : Int32) ≤ x1 then some ((0 : Int32), D) else some ((1 : Int32), D)
set_option maxRecDepth 20000 in
theorem e_X5_isKind (l : Launch) (E : eE) (d : Nat) (x1 : Int32) (D : dT) : ev l E d yX5_isKind cX5_isKind 1 (some .boolean) 0 [(0, .inl x1)] [] D eI (F_X5_isKind x1 D) := by
  unfold F_X5_isKind
  refine ev_s (fun Q k => rn_iload_n (j := 0) 0 rfl rfl dX5_isKind_0 k) ?_
  refine ev_if (fun Q => rn_if_lt (tgt := 13) dX5_isKind_1 (by decide)) (fun c3 => ?_) (fun c4 => ?_)
  · refine ev_s (fun Q k => rn_iconst (v := 0) (by decide) dX5_isKind_13 k) ?_
    exact ev_ret (fun Q q => rn_ret q .boolean rfl rfl dX5_isKind_14)
  · refine ev_s (fun Q k => rn_iload_n (j := 0) 0 rfl rfl dX5_isKind_4 k) ?_
    refine ev_s (fun Q k => rn_iconst (v := 3) (by decide) dX5_isKind_5 k) ?_
    refine ev_if (fun Q => rn_icmp_ge (tgt := 13) dX5_isKind_6 (by decide)) (fun c1 => ?_) (fun c2 => ?_)
    · refine ev_s (fun Q k => rn_iconst (v := 0) (by decide) dX5_isKind_13 k) ?_
      exact ev_ret (fun Q q => rn_ret q .boolean rfl rfl dX5_isKind_14)
    · refine ev_s (fun Q k => rn_iconst (v := 1) (by decide) dX5_isKind_9 k) ?_
      refine ev_s (fun Q k => rn_goto (tgt := 14) dX5_isKind_10 (by decide) k) ?_
      exact ev_ret (fun Q q => rn_ret q .boolean rfl rfl dX5_isKind_14)

def F_X0_endJob (B : Nat) (o1 : Nat) (x2 : Int32) (D : dT) : Option (Int32 × dT) := if (D o1 5) = (1 : Int32) then bd (F_X0_placeCrew B (D o1 7) (-6 : Int32) D) (fun (r1 : Int32) (D2 : dT) => bd (F_X5_isKind (D2 o1 8) D2) (fun (r3 : Int32) (D4 : dT) => if r3 = 0 then some ((0 : Int32), (up2 D4 o1 5 x2)) else if inR (D4 o1 8) 3 then if inR (D4 o1 8) 3 then some ((0 : Int32), (up2 (up2 D4 (B + 3) (D4 o1 8).toNatClampNeg ((D4 (B + 3) (D4 o1 8).toNatClampNeg) + (1 : Int32))) o1 5 x2)) else none else none)) else some ((0 : Int32), (up2 D o1 5 x2))
set_option maxRecDepth 20000 in
theorem e_X0_endJob (l : Launch) (E : eE) (d : Nat) (B : Nat) (hB : isF B) (o1 : Nat) (ho1 : okO o1 2 0) (x2 : Int32) (D : dT) : ev l E (d + 2) yX0_endJob cX0_endJob 3 none 0 [(0, .inr (.inr B)), (1, .inr (.inr o1)), (2, .inl x2)] [] D eU (F_X0_endJob B o1 x2 D) := by
  unfold F_X0_endJob
  refine ev_s (fun Q k => rn_aload_n (j := 1) 1 rfl rfl (okO_0 ho1) dX0_endJob_0 k) ?_
  refine ev_s (fun Q k => rn_geti f_X0_120 ho1.1 ho1.2.1 (okO_1 ho1) rfl dX0_endJob_1 k) ?_
  refine ev_s (fun Q k => rn_iconst (v := 1) (by decide) dX0_endJob_4 k) ?_
  refine ev_if (fun Q => rn_icmp_ne (tgt := 41) dX0_endJob_5 (by decide)) (fun c9 => ?_) (fun c10 => ?_)
  · refine ev_s (fun Q k => rn_aload_n (j := 0) 0 rfl rfl (okO_0 (oF hB)) dX0_endJob_8 k) ?_
    refine ev_s (fun Q k => rn_aload_n (j := 1) 1 rfl rfl (okO_0 ho1) dX0_endJob_9 k) ?_
    refine ev_s (fun Q k => rn_geti f_X0_157 ho1.1 ho1.2.1 (okO_1 ho1) rfl dX0_endJob_10 k) ?_
    refine ev_s (fun Q k => rn_bipush (v := -6) (by decide) dX0_endJob_13 k) ?_
    refine ev_bindU (as := [.inr (.inr B), .inl (D o1 7), .inl (-6 : Int32)]) (fun Q Q1 => rn_callV (as := [.inl (D o1 7), .inl (-6 : Int32)]) (rest := []) (o := B) m_X0_163 dX0_endJob_15 (rcv_own (oF hB).1 (oF hB).2.1 (by decide) (okO_1 (oF hB))) rfl rfl (Nat.le_of_ble_eq_true rfl)) pl_X0_placeCrew (Nat.le_of_ble_eq_true rfl) rfl (e_X0_placeCrew l E d B hB (D o1 7) (-6 : Int32) D) (fun r1 D2 => ?_)
    refine ev_s (fun Q k => rn_aload_n (j := 1) 1 rfl rfl (okO_0 ho1) dX0_endJob_18 k) ?_
    refine ev_s (fun Q k => rn_geti f_X0_160 ho1.1 ho1.2.1 (okO_1 ho1) rfl dX0_endJob_19 k) ?_
    refine ev_bindI (as := [.inl (D2 o1 8)]) (fun Q Q1 => rn_callSN (as := [.inl (D2 o1 8)]) (rest := []) m_X0_78 dX0_endJob_22 rfl rfl (Nat.le_of_ble_eq_true rfl)) pl_X5_isKind (Nat.le_of_ble_eq_true rfl) rfl (e_X5_isKind l E (d + 1) (D2 o1 8) D2) (fun r3 D4 => ?_)
    refine ev_if (fun Q => rn_if_eq (tgt := 41) dX0_endJob_25 (by decide)) (fun c7 => ?_) (fun c8 => ?_)
    · refine ev_s (fun Q k => rn_aload_n (j := 1) 1 rfl rfl (okO_0 ho1) dX0_endJob_41 k) ?_
      refine ev_s (fun Q k => rn_iload_n (j := 2) 2 rfl rfl dX0_endJob_42 k) ?_
      refine ev_s (fun Q k => rn_puti f_X0_120 ho1.1 ho1.2.1 (okO_1 ho1) rfl rfl rfl rfl dX0_endJob_43 k) ?_
      exact ev_ret (fun Q q => rn_retv q rfl dX0_endJob_46)
    · refine ev_s (fun Q k => rn_aload_n (j := 0) 0 rfl rfl (okO_0 (oF hB)) dX0_endJob_28 k) ?_
      refine ev_s (fun Q k => rn_getr f_X0_18 (oF hB).1 (oF hB).2.1 (okO_1 (oF hB)) rfl (rF2 hB) dX0_endJob_29 k) ?_
      refine ev_s (fun Q k => rn_aload_n (j := 1) 1 rfl rfl (okO_0 ho1) dX0_endJob_32 k) ?_
      refine ev_s (fun Q k => rn_geti f_X0_160 ho1.1 ho1.2.1 (okO_1 ho1) rfl dX0_endJob_33 k) ?_
      refine ev_s (fun Q k => rn_dup2 rfl rfl dX0_endJob_36 k) ?_
      refine ev_gd (fun g5 => ?_)
      refine ev_s (fun Q k => rn_iald (oF3 hB).1 (oF3 hB).2.1 (oF3 hB).2.2 (inR_vp g5) dX0_endJob_37 k) ?_
      refine ev_s (fun Q k => rn_iconst (v := 1) (by decide) dX0_endJob_38 k) ?_
      refine ev_s (fun Q k => rn_iadd dX0_endJob_39 k) ?_
      refine ev_gd (fun g6 => ?_)
      refine ev_s (fun Q k => rn_iast (oF3 hB).1 (oF3 hB).2.1 (oF3 hB).2.2 (inR_vp g6) dX0_endJob_40 k) ?_
      refine ev_s (fun Q k => rn_aload_n (j := 1) 1 rfl rfl (okO_0 ho1) dX0_endJob_41 k) ?_
      refine ev_s (fun Q k => rn_iload_n (j := 2) 2 rfl rfl dX0_endJob_42 k) ?_
      refine ev_s (fun Q k => rn_puti f_X0_120 ho1.1 ho1.2.1 (okO_1 ho1) rfl rfl rfl rfl dX0_endJob_43 k) ?_
      exact ev_ret (fun Q q => rn_retv q rfl dX0_endJob_46)
  · refine ev_s (fun Q k => rn_aload_n (j := 1) 1 rfl rfl (okO_0 ho1) dX0_endJob_41 k) ?_
    refine ev_s (fun Q k => rn_iload_n (j := 2) 2 rfl rfl dX0_endJob_42 k) ?_
    refine ev_s (fun Q k => rn_puti f_X0_120 ho1.1 ho1.2.1 (okO_1 ho1) rfl rfl rfl rfl dX0_endJob_43 k) ?_
    exact ev_ret (fun Q q => rn_retv q rfl dX0_endJob_46)

def F_X0_workOneHour_104 (B : Nat) (o1 : Nat)  (s0 : Int32) (D : dT) : Option (Int32 × dT) := bd (F_X0_carryHour B (D o1 7) s0 D) (fun (r1 : Int32) (D2 : dT) => if s0 = 0 then if s0 = 0 ∨ s0 = 1 then some (s0, D2) else none else bd (F_X0_endJob B o1 (2 : Int32) (up2 D2 o1 11 (D2 B 7))) (fun (r4 : Int32) (D5 : dT) => if s0 = 0 ∨ s0 = 1 then some (s0, D5) else none))
def F_X0_workOneHour (B : Nat) (o1 : Nat) (D : dT) : Option (Int32 × dT) := if (D o1 9) ≤ 0 then bd (F_X0_strengthOf B (D o1 7) D) (fun (r1 : Int32) (D2 : dT) => if (D2 o1 6) ≤ r1 then if 0 < ((up2 (up2 D2 o1 2 ((D2 o1 2) - (1 : Int32))) B 8 (((up2 D2 o1 2 ((D2 o1 2) - (1 : Int32))) B 8) + (1 : Int32))) o1 2) then F_X0_workOneHour_104 B o1 (0 : Int32) (up2 (up2 D2 o1 2 ((D2 o1 2) - (1 : Int32))) B 8 (((up2 D2 o1 2 ((D2 o1 2) - (1 : Int32))) B 8) + (1 : Int32))) else F_X0_workOneHour_104 B o1 (1 : Int32) (up2 (up2 D2 o1 2 ((D2 o1 2) - (1 : Int32))) B 8 (((up2 D2 o1 2 ((D2 o1 2) - (1 : Int32))) B 8) + (1 : Int32))) else bd (F_X0_restPeople B ((up2 (up2 D2 o1 10 ((D2 o1 10) + (1 : Int32))) B 9 (((up2 D2 o1 10 ((D2 o1 10) + (1 : Int32))) B 9) + (1 : Int32))) o1 7) (up2 (up2 D2 o1 10 ((D2 o1 10) + (1 : Int32))) B 9 (((up2 D2 o1 10 ((D2 o1 10) + (1 : Int32))) B 9) + (1 : Int32)))) (fun (r5 : Int32) (D6 : dT) => some ((0 : Int32), D6))) else bd (F_X0_restPeople B ((up2 D o1 9 ((D o1 9) - (1 : Int32))) o1 7) (up2 D o1 9 ((D o1 9) - (1 : Int32)))) (fun (r9 : Int32) (D10 : dT) => some ((0 : Int32), D10))
set_option maxRecDepth 20000 in
theorem e_X0_workOneHour_104 (l : Launch) (E : eE) (d : Nat) (B : Nat) (hB : isF B) (o1 : Nat) (ho1 : okO o1 2 0)  (s0 : Int32) (D : dT) : ev l E (d + 3) yX0_workOneHour cX0_workOneHour 3 (some .boolean) 104 [(0, .inr (.inr B)), (1, .inr (.inr o1))] [.inl s0] D eI (F_X0_workOneHour_104 B o1 s0 D) := by
  unfold F_X0_workOneHour_104
  refine ev_s (fun Q k => rn_istore_n (j := 2) (ls' := [(2, .inl s0), (0, .inr (.inr B)), (1, .inr (.inr o1))]) rfl (by decide) rfl dX0_workOneHour_104 k) ?_
  refine ev_s (fun Q k => rn_aload_n (j := 0) 1 rfl rfl (okO_0 (oF hB)) dX0_workOneHour_105 k) ?_
  refine ev_s (fun Q k => rn_aload_n (j := 1) 2 rfl rfl (okO_0 ho1) dX0_workOneHour_106 k) ?_
  refine ev_s (fun Q k => rn_geti f_X0_157 ho1.1 ho1.2.1 (okO_1 ho1) rfl dX0_workOneHour_107 k) ?_
  refine ev_s (fun Q k => rn_iload_n (j := 2) 0 rfl rfl dX0_workOneHour_110 k) ?_
  refine ev_bindU (as := [.inr (.inr B), .inl (D o1 7), .inl s0]) (fun Q Q1 => rn_callV (as := [.inl (D o1 7), .inl s0]) (rest := []) (o := B) m_X0_203 dX0_workOneHour_111 (rcv_own (oF hB).1 (oF hB).2.1 (by decide) (okO_1 (oF hB))) rfl rfl (Nat.le_of_ble_eq_true rfl)) pl_X0_carryHour (Nat.le_of_ble_eq_true rfl) rfl (e_X0_carryHour l E d B hB (D o1 7) s0 D) (fun r1 D2 => ?_)
  refine ev_s (fun Q k => rn_iload_n (j := 2) 0 rfl rfl dX0_workOneHour_114 k) ?_
  refine ev_if (fun Q => rn_if_eq (tgt := 132) dX0_workOneHour_115 (by decide)) (fun c7 => ?_) (fun c8 => ?_)
  · refine ev_s (fun Q k => rn_iload_n (j := 2) 0 rfl rfl dX0_workOneHour_132 k) ?_
    refine ev_gd (fun g3 => ?_)
    exact ev_ret (fun Q q => rn_ret q .boolean rfl (nz_b g3) dX0_workOneHour_133)
  · refine ev_s (fun Q k => rn_aload_n (j := 1) 2 rfl rfl (okO_0 ho1) dX0_workOneHour_118 k) ?_
    refine ev_s (fun Q k => rn_aload_n (j := 0) 1 rfl rfl (okO_0 (oF hB)) dX0_workOneHour_119 k) ?_
    refine ev_s (fun Q k => rn_geti f_X0_48 (oF hB).1 (oF hB).2.1 (okO_1 (oF hB)) rfl dX0_workOneHour_120 k) ?_
    refine ev_s (fun Q k => rn_puti f_X0_207 ho1.1 ho1.2.1 (okO_1 ho1) rfl rfl rfl rfl dX0_workOneHour_123 k) ?_
    refine ev_s (fun Q k => rn_aload_n (j := 0) 1 rfl rfl (okO_0 (oF hB)) dX0_workOneHour_126 k) ?_
    refine ev_s (fun Q k => rn_aload_n (j := 1) 2 rfl rfl (okO_0 ho1) dX0_workOneHour_127 k) ?_
    refine ev_s (fun Q k => rn_iconst (v := 2) (by decide) dX0_workOneHour_128 k) ?_
    refine ev_bindU (as := [.inr (.inr B), .inr (.inr o1), .inl (2 : Int32)]) (fun Q Q1 => rn_callV (as := [.inr (.inr o1), .inl (2 : Int32)]) (rest := []) (o := B) m_X0_186 dX0_workOneHour_129 (rcv_own (oF hB).1 (oF hB).2.1 (by decide) (okO_1 (oF hB))) rfl rfl (Nat.le_of_ble_eq_true rfl)) pl_X0_endJob (Nat.le_of_ble_eq_true rfl) rfl (e_X0_endJob l E d B hB o1 ho1 (2 : Int32) (up2 D2 o1 11 (D2 B 7))) (fun r4 D5 => ?_)
    refine ev_s (fun Q k => rn_iload_n (j := 2) 0 rfl rfl dX0_workOneHour_132 k) ?_
    refine ev_gd (fun g6 => ?_)
    exact ev_ret (fun Q q => rn_ret q .boolean rfl (nz_b g6) dX0_workOneHour_133)

set_option maxRecDepth 20000 in
theorem e_X0_workOneHour (l : Launch) (E : eE) (d : Nat) (B : Nat) (hB : isF B) (o1 : Nat) (ho1 : okO o1 2 0) (D : dT) : ev l E (d + 3) yX0_workOneHour cX0_workOneHour 3 (some .boolean) 0 [(0, .inr (.inr B)), (1, .inr (.inr o1))] [] D eI (F_X0_workOneHour B o1 D) := by
  unfold F_X0_workOneHour
  refine ev_s (fun Q k => rn_aload_n (j := 1) 1 rfl rfl (okO_0 ho1) dX0_workOneHour_0 k) ?_
  refine ev_s (fun Q k => rn_geti f_X0_183 ho1.1 ho1.2.1 (okO_1 ho1) rfl dX0_workOneHour_1 k) ?_
  refine ev_if (fun Q => rn_if_le (tgt := 27) dX0_workOneHour_4 (by decide)) (fun c11 => ?_) (fun c12 => ?_)
  · refine ev_s (fun Q k => rn_aload_n (j := 0) 0 rfl rfl (okO_0 (oF hB)) dX0_workOneHour_27 k) ?_
    refine ev_s (fun Q k => rn_aload_n (j := 1) 1 rfl rfl (okO_0 ho1) dX0_workOneHour_28 k) ?_
    refine ev_s (fun Q k => rn_geti f_X0_157 ho1.1 ho1.2.1 (okO_1 ho1) rfl dX0_workOneHour_29 k) ?_
    refine ev_bindI (as := [.inr (.inr B), .inl (D o1 7)]) (fun Q Q1 => rn_callV (as := [.inl (D o1 7)]) (rest := []) (o := B) m_X0_134 dX0_workOneHour_32 (rcv_own (oF hB).1 (oF hB).2.1 (by decide) (okO_1 (oF hB))) rfl rfl (Nat.le_of_ble_eq_true rfl)) pl_X0_strengthOf (Nat.le_of_ble_eq_true rfl) rfl (e_X0_strengthOf l E (d + 1) B hB (D o1 7) D) (fun r1 D2 => ?_)
    refine ev_s (fun Q k => rn_aload_n (j := 1) 1 rfl rfl (okO_0 ho1) dX0_workOneHour_35 k) ?_
    refine ev_s (fun Q k => rn_geti f_X0_154 ho1.1 ho1.2.1 (okO_1 ho1) rfl dX0_workOneHour_36 k) ?_
    refine ev_if (fun Q => rn_icmp_ge (tgt := 72) dX0_workOneHour_39 (by decide)) (fun c7 => ?_) (fun c8 => ?_)
    · refine ev_s (fun Q k => rn_aload_n (j := 1) 1 rfl rfl (okO_0 ho1) dX0_workOneHour_72 k) ?_
      refine ev_s (fun Q k => rn_dup rfl dX0_workOneHour_73 k) ?_
      refine ev_s (fun Q k => rn_geti f_X0_200 ho1.1 ho1.2.1 (okO_1 ho1) rfl dX0_workOneHour_74 k) ?_
      refine ev_s (fun Q k => rn_iconst (v := 1) (by decide) dX0_workOneHour_77 k) ?_
      refine ev_s (fun Q k => rn_isub dX0_workOneHour_78 k) ?_
      refine ev_s (fun Q k => rn_puti f_X0_200 ho1.1 ho1.2.1 (okO_1 ho1) rfl rfl rfl rfl dX0_workOneHour_79 k) ?_
      refine ev_s (fun Q k => rn_aload_n (j := 0) 0 rfl rfl (okO_0 (oF hB)) dX0_workOneHour_82 k) ?_
      refine ev_s (fun Q k => rn_dup rfl dX0_workOneHour_83 k) ?_
      refine ev_s (fun Q k => rn_geti f_X0_51 (oF hB).1 (oF hB).2.1 (okO_1 (oF hB)) rfl dX0_workOneHour_84 k) ?_
      refine ev_s (fun Q k => rn_iconst (v := 1) (by decide) dX0_workOneHour_87 k) ?_
      refine ev_s (fun Q k => rn_iadd dX0_workOneHour_88 k) ?_
      refine ev_s (fun Q k => rn_puti f_X0_51 (oF hB).1 (oF hB).2.1 (okO_1 (oF hB)) rfl rfl rfl rfl dX0_workOneHour_89 k) ?_
      refine ev_s (fun Q k => rn_aload_n (j := 1) 1 rfl rfl (okO_0 ho1) dX0_workOneHour_92 k) ?_
      refine ev_s (fun Q k => rn_geti f_X0_200 ho1.1 ho1.2.1 (okO_1 ho1) rfl dX0_workOneHour_93 k) ?_
      refine ev_if (fun Q => rn_if_gt (tgt := 103) dX0_workOneHour_96 (by decide)) (fun c3 => ?_) (fun c4 => ?_)
      · refine ev_s (fun Q k => rn_iconst (v := 0) (by decide) dX0_workOneHour_103 k) ?_
        exact e_X0_workOneHour_104 l E d B hB o1 ho1   (0 : Int32) (up2 (up2 D2 o1 2 ((D2 o1 2) - (1 : Int32))) B 8 (((up2 D2 o1 2 ((D2 o1 2) - (1 : Int32))) B 8) + (1 : Int32)))
      · refine ev_s (fun Q k => rn_iconst (v := 1) (by decide) dX0_workOneHour_99 k) ?_
        refine ev_s (fun Q k => rn_goto (tgt := 104) dX0_workOneHour_100 (by decide) k) ?_
        exact e_X0_workOneHour_104 l E d B hB o1 ho1   (1 : Int32) (up2 (up2 D2 o1 2 ((D2 o1 2) - (1 : Int32))) B 8 (((up2 D2 o1 2 ((D2 o1 2) - (1 : Int32))) B 8) + (1 : Int32)))
    · refine ev_s (fun Q k => rn_aload_n (j := 1) 1 rfl rfl (okO_0 ho1) dX0_workOneHour_42 k) ?_
      refine ev_s (fun Q k => rn_dup rfl dX0_workOneHour_43 k) ?_
      refine ev_s (fun Q k => rn_geti f_X0_199 ho1.1 ho1.2.1 (okO_1 ho1) rfl dX0_workOneHour_44 k) ?_
      refine ev_s (fun Q k => rn_iconst (v := 1) (by decide) dX0_workOneHour_47 k) ?_
      refine ev_s (fun Q k => rn_iadd dX0_workOneHour_48 k) ?_
      refine ev_s (fun Q k => rn_puti f_X0_199 ho1.1 ho1.2.1 (okO_1 ho1) rfl rfl rfl rfl dX0_workOneHour_49 k) ?_
      refine ev_s (fun Q k => rn_aload_n (j := 0) 0 rfl rfl (okO_0 (oF hB)) dX0_workOneHour_52 k) ?_
      refine ev_s (fun Q k => rn_dup rfl dX0_workOneHour_53 k) ?_
      refine ev_s (fun Q k => rn_geti f_X0_54 (oF hB).1 (oF hB).2.1 (okO_1 (oF hB)) rfl dX0_workOneHour_54 k) ?_
      refine ev_s (fun Q k => rn_iconst (v := 1) (by decide) dX0_workOneHour_57 k) ?_
      refine ev_s (fun Q k => rn_iadd dX0_workOneHour_58 k) ?_
      refine ev_s (fun Q k => rn_puti f_X0_54 (oF hB).1 (oF hB).2.1 (okO_1 (oF hB)) rfl rfl rfl rfl dX0_workOneHour_59 k) ?_
      refine ev_s (fun Q k => rn_aload_n (j := 0) 0 rfl rfl (okO_0 (oF hB)) dX0_workOneHour_62 k) ?_
      refine ev_s (fun Q k => rn_aload_n (j := 1) 1 rfl rfl (okO_0 ho1) dX0_workOneHour_63 k) ?_
      refine ev_s (fun Q k => rn_geti f_X0_157 ho1.1 ho1.2.1 (okO_1 ho1) rfl dX0_workOneHour_64 k) ?_
      refine ev_bindU (as := [.inr (.inr B), .inl ((up2 (up2 D2 o1 10 ((D2 o1 10) + (1 : Int32))) B 9 (((up2 D2 o1 10 ((D2 o1 10) + (1 : Int32))) B 9) + (1 : Int32))) o1 7)]) (fun Q Q1 => rn_callV (as := [.inl ((up2 (up2 D2 o1 10 ((D2 o1 10) + (1 : Int32))) B 9 (((up2 D2 o1 10 ((D2 o1 10) + (1 : Int32))) B 9) + (1 : Int32))) o1 7)]) (rest := []) (o := B) m_X0_196 dX0_workOneHour_67 (rcv_own (oF hB).1 (oF hB).2.1 (by decide) (okO_1 (oF hB))) rfl rfl (Nat.le_of_ble_eq_true rfl)) pl_X0_restPeople (Nat.le_of_ble_eq_true rfl) rfl (e_X0_restPeople l E d B hB ((up2 (up2 D2 o1 10 ((D2 o1 10) + (1 : Int32))) B 9 (((up2 D2 o1 10 ((D2 o1 10) + (1 : Int32))) B 9) + (1 : Int32))) o1 7) (up2 (up2 D2 o1 10 ((D2 o1 10) + (1 : Int32))) B 9 (((up2 D2 o1 10 ((D2 o1 10) + (1 : Int32))) B 9) + (1 : Int32)))) (fun r5 D6 => ?_)
      refine ev_s (fun Q k => rn_iconst (v := 0) (by decide) dX0_workOneHour_70 k) ?_
      exact ev_ret (fun Q q => rn_ret q .boolean rfl rfl dX0_workOneHour_71)
  · refine ev_s (fun Q k => rn_aload_n (j := 1) 1 rfl rfl (okO_0 ho1) dX0_workOneHour_7 k) ?_
    refine ev_s (fun Q k => rn_dup rfl dX0_workOneHour_8 k) ?_
    refine ev_s (fun Q k => rn_geti f_X0_183 ho1.1 ho1.2.1 (okO_1 ho1) rfl dX0_workOneHour_9 k) ?_
    refine ev_s (fun Q k => rn_iconst (v := 1) (by decide) dX0_workOneHour_12 k) ?_
    refine ev_s (fun Q k => rn_isub dX0_workOneHour_13 k) ?_
    refine ev_s (fun Q k => rn_puti f_X0_183 ho1.1 ho1.2.1 (okO_1 ho1) rfl rfl rfl rfl dX0_workOneHour_14 k) ?_
    refine ev_s (fun Q k => rn_aload_n (j := 0) 0 rfl rfl (okO_0 (oF hB)) dX0_workOneHour_17 k) ?_
    refine ev_s (fun Q k => rn_aload_n (j := 1) 1 rfl rfl (okO_0 ho1) dX0_workOneHour_18 k) ?_
    refine ev_s (fun Q k => rn_geti f_X0_157 ho1.1 ho1.2.1 (okO_1 ho1) rfl dX0_workOneHour_19 k) ?_
    refine ev_bindU (as := [.inr (.inr B), .inl ((up2 D o1 9 ((D o1 9) - (1 : Int32))) o1 7)]) (fun Q Q1 => rn_callV (as := [.inl ((up2 D o1 9 ((D o1 9) - (1 : Int32))) o1 7)]) (rest := []) (o := B) m_X0_196 dX0_workOneHour_22 (rcv_own (oF hB).1 (oF hB).2.1 (by decide) (okO_1 (oF hB))) rfl rfl (Nat.le_of_ble_eq_true rfl)) pl_X0_restPeople (Nat.le_of_ble_eq_true rfl) rfl (e_X0_restPeople l E d B hB ((up2 D o1 9 ((D o1 9) - (1 : Int32))) o1 7) (up2 D o1 9 ((D o1 9) - (1 : Int32)))) (fun r9 D10 => ?_)
    refine ev_s (fun Q k => rn_iconst (v := 0) (by decide) dX0_workOneHour_25 k) ?_
    exact ev_ret (fun Q q => rn_ret q .boolean rfl rfl dX0_workOneHour_26)

def F_X6_ofJobs (x1 : Int32) (x2 : Int32) (D : dT) : Option (Int32 × dT) := if inR (((52 : Int32) + ((12 : Int32) * x1)) + x2) 244 then some ((D 378 (((52 : Int32) + ((12 : Int32) * x1)) + x2).toNatClampNeg), D) else none
set_option maxRecDepth 20000 in
theorem e_X6_ofJobs (l : Launch) (E : eE) (d : Nat) (x1 : Int32) (x2 : Int32) (D : dT) : ev l E d yX6_ofJobs cX6_ofJobs 3 (some .int) 0 [(0, .inr (.inr 377)), (1, .inl x1), (2, .inl x2)] [] D eI (F_X6_ofJobs x1 x2 D) := by
  unfold F_X6_ofJobs
  refine ev_s (fun Q k => rn_aload_n (j := 0) 0 rfl rfl (okO_0 ok_377) dX6_ofJobs_0 k) ?_
  refine ev_s (fun Q k => rn_getr f_X6_7 ok_377.1 ok_377.2.1 (okO_1 ok_377) rfl rfl dX6_ofJobs_1 k) ?_
  refine ev_s (fun Q k => rn_bipush (v := 52) (by decide) dX6_ofJobs_4 k) ?_
  refine ev_s (fun Q k => rn_bipush (v := 12) (by decide) dX6_ofJobs_6 k) ?_
  refine ev_s (fun Q k => rn_iload_n (j := 1) 1 rfl rfl dX6_ofJobs_8 k) ?_
  refine ev_s (fun Q k => rn_imul dX6_ofJobs_9 k) ?_
  refine ev_s (fun Q k => rn_iadd dX6_ofJobs_10 k) ?_
  refine ev_s (fun Q k => rn_iload_n (j := 2) 2 rfl rfl dX6_ofJobs_11 k) ?_
  refine ev_s (fun Q k => rn_iadd dX6_ofJobs_12 k) ?_
  refine ev_gd (fun g1 => ?_)
  refine ev_s (fun Q k => rn_iald ok_378.1 ok_378.2.1 ok_378.2.2 (inR_vp g1) dX6_ofJobs_13 k) ?_
  exact ev_ret (fun Q q => rn_ret q .int rfl rfl dX6_ofJobs_14)

def F_X6_isAhead_35 (x1 : Int32) (x2 : Int32)  (s0 : Int32) (D : dT) : Option (Int32 × dT) := if s0 < 0 then some ((1 : Int32), D) else if s0 = 0 then if x2 ≤ x1 then some ((0 : Int32), D) else some ((1 : Int32), D) else some ((0 : Int32), D)
def F_X6_isAhead (x1 : Int32) (x2 : Int32) (D : dT) : Option (Int32 × dT) := bd (F_X6_ofJobs x2 (3 : Int32) D) (fun (r1 : Int32) (D2 : dT) => bd (F_X6_ofJobs x1 (3 : Int32) D2) (fun (r3 : Int32) (D4 : dT) => if (r1 - r3) = 0 then bd (F_X6_ofJobs x1 (4 : Int32) D4) (fun (r5 : Int32) (D6 : dT) => bd (F_X6_ofJobs x2 (4 : Int32) D6) (fun (r7 : Int32) (D8 : dT) => F_X6_isAhead_35 x1 x2 (r5 - r7) D8)) else F_X6_isAhead_35 x1 x2 (r1 - r3) D4))
set_option maxRecDepth 20000 in
theorem e_X6_isAhead_35 (l : Launch) (E : eE) (d : Nat) (x1 : Int32) (x2 : Int32)  (s0 : Int32) (D : dT) : ev l E (d + 1) yX6_isAhead cX6_isAhead 4 (some .boolean) 35 [(1, .inl x1), (2, .inl x2)] [.inl s0] D eI (F_X6_isAhead_35 x1 x2 s0 D) := by
  unfold F_X6_isAhead_35
  refine ev_s (fun Q k => rn_istore_n (j := 3) (ls' := [(3, .inl s0), (1, .inl x1), (2, .inl x2)]) rfl (by decide) rfl dX6_isAhead_35 k) ?_
  refine ev_s (fun Q k => rn_iload_n (j := 3) 0 rfl rfl dX6_isAhead_36 k) ?_
  refine ev_if (fun Q => rn_if_lt (tgt := 49) dX6_isAhead_37 (by decide)) (fun c5 => ?_) (fun c6 => ?_)
  · refine ev_s (fun Q k => rn_iconst (v := 1) (by decide) dX6_isAhead_49 k) ?_
    refine ev_s (fun Q k => rn_goto (tgt := 54) dX6_isAhead_50 (by decide) k) ?_
    exact ev_ret (fun Q q => rn_ret q .boolean rfl rfl dX6_isAhead_54)
  · refine ev_s (fun Q k => rn_iload_n (j := 3) 0 rfl rfl dX6_isAhead_40 k) ?_
    refine ev_if (fun Q => rn_if_ne (tgt := 53) dX6_isAhead_41 (by decide)) (fun c3 => ?_) (fun c4 => ?_)
    · refine ev_s (fun Q k => rn_iload_n (j := 1) 1 rfl rfl dX6_isAhead_44 k) ?_
      refine ev_s (fun Q k => rn_iload_n (j := 2) 2 rfl rfl dX6_isAhead_45 k) ?_
      refine ev_if (fun Q => rn_icmp_ge (tgt := 53) dX6_isAhead_46 (by decide)) (fun c1 => ?_) (fun c2 => ?_)
      · refine ev_s (fun Q k => rn_iconst (v := 0) (by decide) dX6_isAhead_53 k) ?_
        exact ev_ret (fun Q q => rn_ret q .boolean rfl rfl dX6_isAhead_54)
      · refine ev_s (fun Q k => rn_iconst (v := 1) (by decide) dX6_isAhead_49 k) ?_
        refine ev_s (fun Q k => rn_goto (tgt := 54) dX6_isAhead_50 (by decide) k) ?_
        exact ev_ret (fun Q q => rn_ret q .boolean rfl rfl dX6_isAhead_54)
    · refine ev_s (fun Q k => rn_iconst (v := 0) (by decide) dX6_isAhead_53 k) ?_
      exact ev_ret (fun Q q => rn_ret q .boolean rfl rfl dX6_isAhead_54)

set_option maxRecDepth 20000 in
theorem e_X6_isAhead (l : Launch) (E : eE) (d : Nat) (x1 : Int32) (x2 : Int32) (D : dT) : ev l E (d + 1) yX6_isAhead cX6_isAhead 4 (some .boolean) 0 [(0, .inr (.inr 377)), (1, .inl x1), (2, .inl x2)] [] D eI (F_X6_isAhead x1 x2 D) := by
  unfold F_X6_isAhead
  refine ev_s (fun Q k => rn_aload_n (j := 0) 0 rfl rfl (okO_0 ok_377) dX6_isAhead_0 k) ?_
  refine ev_s (fun Q k => rn_iload_n (j := 2) 2 rfl rfl dX6_isAhead_1 k) ?_
  refine ev_s (fun Q k => rn_iconst (v := 3) (by decide) dX6_isAhead_2 k) ?_
  refine ev_bindI (as := [.inr (.inr 377), .inl x2, .inl (3 : Int32)]) (fun Q Q1 => rn_callV (as := [.inl x2, .inl (3 : Int32)]) (rest := []) (o := 377) m_X6_43 dX6_isAhead_3 (rcv_own ok_377.1 ok_377.2.1 (by decide) (okO_1 ok_377)) rfl rfl (Nat.le_of_ble_eq_true rfl)) pl_X6_ofJobs (Nat.le_of_ble_eq_true rfl) rfl (e_X6_ofJobs l E d x2 (3 : Int32) D) (fun r1 D2 => ?_)
  refine ev_s (fun Q k => rn_aload_n (j := 0) 0 rfl rfl (okO_0 ok_377) dX6_isAhead_6 k) ?_
  refine ev_s (fun Q k => rn_iload_n (j := 1) 1 rfl rfl dX6_isAhead_7 k) ?_
  refine ev_s (fun Q k => rn_iconst (v := 3) (by decide) dX6_isAhead_8 k) ?_
  refine ev_bindI (as := [.inr (.inr 377), .inl x1, .inl (3 : Int32)]) (fun Q Q1 => rn_callV (as := [.inl x1, .inl (3 : Int32)]) (rest := [.inl r1]) (o := 377) m_X6_43 dX6_isAhead_9 (rcv_own ok_377.1 ok_377.2.1 (by decide) (okO_1 ok_377)) rfl rfl (Nat.le_of_ble_eq_true rfl)) pl_X6_ofJobs (Nat.le_of_ble_eq_true rfl) rfl (e_X6_ofJobs l E d x1 (3 : Int32) D2) (fun r3 D4 => ?_)
  refine ev_s (fun Q k => rn_isub dX6_isAhead_12 k) ?_
  refine ev_s (fun Q k => rn_istore_n (j := 3) (ls' := [(3, .inl (r1 - r3)), (0, .inr (.inr 377)), (1, .inl x1), (2, .inl x2)]) rfl (by decide) rfl dX6_isAhead_13 k) ?_
  refine ev_s (fun Q k => rn_iload_n (j := 3) 0 rfl rfl dX6_isAhead_14 k) ?_
  refine ev_if (fun Q => rn_if_ne (tgt := 34) dX6_isAhead_15 (by decide)) (fun c9 => ?_) (fun c10 => ?_)
  · refine ev_s (fun Q k => rn_aload_n (j := 0) 1 rfl rfl (okO_0 ok_377) dX6_isAhead_18 k) ?_
    refine ev_s (fun Q k => rn_iload_n (j := 1) 2 rfl rfl dX6_isAhead_19 k) ?_
    refine ev_s (fun Q k => rn_iconst (v := 4) (by decide) dX6_isAhead_20 k) ?_
    refine ev_bindI (as := [.inr (.inr 377), .inl x1, .inl (4 : Int32)]) (fun Q Q1 => rn_callV (as := [.inl x1, .inl (4 : Int32)]) (rest := []) (o := 377) m_X6_43 dX6_isAhead_21 (rcv_own ok_377.1 ok_377.2.1 (by decide) (okO_1 ok_377)) rfl rfl (Nat.le_of_ble_eq_true rfl)) pl_X6_ofJobs (Nat.le_of_ble_eq_true rfl) rfl (e_X6_ofJobs l E d x1 (4 : Int32) D4) (fun r5 D6 => ?_)
    refine ev_s (fun Q k => rn_aload_n (j := 0) 1 rfl rfl (okO_0 ok_377) dX6_isAhead_24 k) ?_
    refine ev_s (fun Q k => rn_iload_n (j := 2) 3 rfl rfl dX6_isAhead_25 k) ?_
    refine ev_s (fun Q k => rn_iconst (v := 4) (by decide) dX6_isAhead_26 k) ?_
    refine ev_bindI (as := [.inr (.inr 377), .inl x2, .inl (4 : Int32)]) (fun Q Q1 => rn_callV (as := [.inl x2, .inl (4 : Int32)]) (rest := [.inl r5]) (o := 377) m_X6_43 dX6_isAhead_27 (rcv_own ok_377.1 ok_377.2.1 (by decide) (okO_1 ok_377)) rfl rfl (Nat.le_of_ble_eq_true rfl)) pl_X6_ofJobs (Nat.le_of_ble_eq_true rfl) rfl (e_X6_ofJobs l E d x2 (4 : Int32) D6) (fun r7 D8 => ?_)
    refine ev_s (fun Q k => rn_isub dX6_isAhead_30 k) ?_
    refine ev_s (fun Q k => rn_goto (tgt := 35) dX6_isAhead_31 (by decide) k) ?_
    refine ev_s (fun Q k => rn_sub (ls' := [(1, .inl x1), (2, .inl x2)]) [2, 3] rfl k) ?_
    exact e_X6_isAhead_35 l E d x1 x2   (r5 - r7) D8
  · refine ev_s (fun Q k => rn_iload_n (j := 3) 0 rfl rfl dX6_isAhead_34 k) ?_
    refine ev_s (fun Q k => rn_sub (ls' := [(1, .inl x1), (2, .inl x2)]) [2, 3] rfl k) ?_
    exact e_X6_isAhead_35 l E d x1 x2   (r1 - r3) D4

def F_X6_waitingAt_85 (x1 : Int32) (x2 : Int32) (k2 : Int32 → dT → Option (Int32 × dT)) (k19 : Int32 → Int32 → Int32 → dT → Option (Int32 × dT)) (v3 : Int32) (v5 : Int32) (s0 : Int32) (s1 : Int32) (D : dT) : Option (Int32 × dT) := k19 v3 (s1 + s0) (v5 + (1 : Int32)) D
def F_X6_waitingAt_84 (x1 : Int32) (x2 : Int32) (k2 : Int32 → dT → Option (Int32 × dT)) (k19 : Int32 → Int32 → Int32 → dT → Option (Int32 × dT)) (v3 : Int32) (v5 : Int32) (s0 : Int32) (D : dT) : Option (Int32 × dT) := F_X6_waitingAt_85 x1 x2 k2 k19 v3 v5 (0 : Int32) s0 D
def F_X6_waitingAt_55 (x1 : Int32) (x2 : Int32) (k2 : Int32 → dT → Option (Int32 × dT)) (k19 : Int32 → Int32 → Int32 → dT → Option (Int32 × dT)) (v3 : Int32) (v4 : Int32) (v5 : Int32) (s0 : Int32) (D : dT) : Option (Int32 × dT) := if s0 = 0 then F_X6_waitingAt_84 x1 x2 k2 k19 v3 v5 v4 D else if v5 = v3 then F_X6_waitingAt_84 x1 x2 k2 k19 v3 v5 v4 D else bd (F_X6_isAhead v5 v3 D) (fun (r1 : Int32) (D2 : dT) => if r1 = 0 then F_X6_waitingAt_84 x1 x2 k2 k19 v3 v5 v4 D2 else F_X6_waitingAt_85 x1 x2 k2 k19 v3 v5 (1 : Int32) v4 D2)
def F_X6_waitingAt_54 (x1 : Int32) (x2 : Int32) (k2 : Int32 → dT → Option (Int32 × dT)) (k19 : Int32 → Int32 → Int32 → dT → Option (Int32 × dT)) (v3 : Int32) (v4 : Int32) (v5 : Int32) (D : dT) : Option (Int32 × dT) := F_X6_waitingAt_55 x1 x2 k2 k19 v3 v4 v5 (0 : Int32) D
def F_X6_waitingAt_19 (fuel : Nat) (x1 : Int32) (x2 : Int32) (k2 : Int32 → dT → Option (Int32 × dT)) (v3 : Int32) (v4 : Int32) (v5 : Int32) (D : dT) : Option (Int32 × dT) := match fuel with
  | 0 => none
  | fu + 1 => if inR (6 : Int32) 244 then if (D 378 (6 : Int32).toNatClampNeg) ≤ v5 then bd (F_X6_ofJobs v3 (5 : Int32) D) (fun (r2 : Int32) (D3 : dT) => if r2 = 0 then if ((x2 >>> (v3 &&& 31)) &&& (1 : Int32)) = 0 then if v4 = x1 then some (v3, D3) else k2 (v3 + (1 : Int32)) D3 else k2 (v3 + (1 : Int32)) D3 else k2 (v3 + (1 : Int32)) D3) else bd (F_X6_ofJobs v5 (5 : Int32) D) (fun (r10 : Int32) (D11 : dT) => if r10 = 0 then if ((x2 >>> (v5 &&& 31)) &&& (1 : Int32)) = 0 then F_X6_waitingAt_55 x1 x2 k2 (fun (v3_ : Int32) (v4_ : Int32) (v5_ : Int32) (D_ : dT) => F_X6_waitingAt_19 fu x1 x2 k2 v3_ v4_ v5_ D_) v3 v4 v5 (1 : Int32) D11 else F_X6_waitingAt_54 x1 x2 k2 (fun (v3_ : Int32) (v4_ : Int32) (v5_ : Int32) (D_ : dT) => F_X6_waitingAt_19 fu x1 x2 k2 v3_ v4_ v5_ D_) v3 v4 v5 D11 else F_X6_waitingAt_54 x1 x2 k2 (fun (v3_ : Int32) (v4_ : Int32) (v5_ : Int32) (D_ : dT) => F_X6_waitingAt_19 fu x1 x2 k2 v3_ v4_ v5_ D_) v3 v4 v5 D11) else none
def F_X6_waitingAt_2 (fuel : Nat) (x1 : Int32) (x2 : Int32)  (v3 : Int32) (D : dT) : Option (Int32 × dT) := match fuel with
  | 0 => none
  | fu + 1 => if inR (6 : Int32) 244 then if (D 378 (6 : Int32).toNatClampNeg) ≤ v3 then some ((-6 : Int32), D) else F_X6_waitingAt_19 lim x1 x2 (fun (v3_ : Int32) (D_ : dT) => F_X6_waitingAt_2 fu x1 x2 v3_ D_) v3 (0 : Int32) (0 : Int32) D else none
def F_X6_waitingAt (x1 : Int32) (x2 : Int32) (D : dT) : Option (Int32 × dT) := F_X6_waitingAt_2 lim x1 x2 (0 : Int32) D
set_option maxRecDepth 20000 in
theorem e_X6_waitingAt_85 (l : Launch) (E : eE) (d : Nat) (x1 : Int32) (x2 : Int32) (k2 : Int32 → dT → Option (Int32 × dT)) (hk2 : ∀ (v3 : Int32) (D : dT), ev l E (d + 2) yX6_waitingAt cX6_waitingAt 7 (some .int) 2 [(0, .inr (.inr 377)), (1, .inl x1), (2, .inl x2), (3, .inl v3)] [] D eI (k2 v3 D)) (k19 : Int32 → Int32 → Int32 → dT → Option (Int32 × dT)) (hk19 : ∀ (v3 : Int32) (v4 : Int32) (v5 : Int32) (D : dT), ev l E (d + 2) yX6_waitingAt cX6_waitingAt 7 (some .int) 19 [(0, .inr (.inr 377)), (1, .inl x1), (2, .inl x2), (3, .inl v3), (4, .inl v4), (5, .inl v5)] [] D eI (k19 v3 v4 v5 D)) (v3 : Int32) (v5 : Int32) (s0 : Int32) (s1 : Int32) (D : dT) : ev l E (d + 2) yX6_waitingAt cX6_waitingAt 7 (some .int) 85 [(0, .inr (.inr 377)), (1, .inl x1), (2, .inl x2), (3, .inl v3), (5, .inl v5)] [.inl s0, .inl s1] D eI (F_X6_waitingAt_85 x1 x2 k2 k19 v3 v5 s0 s1 D) := by
  unfold F_X6_waitingAt_85
  refine ev_s (fun Q k => rn_iadd dX6_waitingAt_85 k) ?_
  refine ev_s (fun Q k => rn_istore (j := 4) (ls' := [(4, .inl (s1 + s0)), (0, .inr (.inr 377)), (1, .inl x1), (2, .inl x2), (3, .inl v3), (5, .inl v5)]) (by decide) rfl dX6_waitingAt_86 k) ?_
  refine ev_s (fun Q k => rn_iinc (v := (v5 + (1 : Int32))) (ls' := [(5, .inl (v5 + (1 : Int32))), (4, .inl (s1 + s0)), (0, .inr (.inr 377)), (1, .inl x1), (2, .inl x2), (3, .inl v3)]) 5 rfl rfl (by decide) rfl dX6_waitingAt_88 k) ?_
  refine ev_s (fun Q k => rn_goto (tgt := 19) dX6_waitingAt_91 (by decide) k) ?_
  refine ev_s (fun Q k => rn_sub (ls' := [(0, .inr (.inr 377)), (1, .inl x1), (2, .inl x2), (3, .inl v3), (4, .inl (s1 + s0)), (5, .inl (v5 + (1 : Int32)))]) [2, 3, 4, 5, 1, 0] rfl k) ?_
  exact hk19 v3 (s1 + s0) (v5 + (1 : Int32)) D

set_option maxRecDepth 20000 in
theorem e_X6_waitingAt_84 (l : Launch) (E : eE) (d : Nat) (x1 : Int32) (x2 : Int32) (k2 : Int32 → dT → Option (Int32 × dT)) (hk2 : ∀ (v3 : Int32) (D : dT), ev l E (d + 2) yX6_waitingAt cX6_waitingAt 7 (some .int) 2 [(0, .inr (.inr 377)), (1, .inl x1), (2, .inl x2), (3, .inl v3)] [] D eI (k2 v3 D)) (k19 : Int32 → Int32 → Int32 → dT → Option (Int32 × dT)) (hk19 : ∀ (v3 : Int32) (v4 : Int32) (v5 : Int32) (D : dT), ev l E (d + 2) yX6_waitingAt cX6_waitingAt 7 (some .int) 19 [(0, .inr (.inr 377)), (1, .inl x1), (2, .inl x2), (3, .inl v3), (4, .inl v4), (5, .inl v5)] [] D eI (k19 v3 v4 v5 D)) (v3 : Int32) (v5 : Int32) (s0 : Int32) (D : dT) : ev l E (d + 2) yX6_waitingAt cX6_waitingAt 7 (some .int) 84 [(0, .inr (.inr 377)), (1, .inl x1), (2, .inl x2), (3, .inl v3), (5, .inl v5)] [.inl s0] D eI (F_X6_waitingAt_84 x1 x2 k2 k19 v3 v5 s0 D) := by
  unfold F_X6_waitingAt_84
  refine ev_s (fun Q k => rn_iconst (v := 0) (by decide) dX6_waitingAt_84 k) ?_
  exact e_X6_waitingAt_85 l E d x1 x2 k2 hk2 k19 hk19  v3 v5 (0 : Int32) s0 D

set_option maxRecDepth 20000 in
theorem e_X6_waitingAt_55 (l : Launch) (E : eE) (d : Nat) (x1 : Int32) (x2 : Int32) (k2 : Int32 → dT → Option (Int32 × dT)) (hk2 : ∀ (v3 : Int32) (D : dT), ev l E (d + 2) yX6_waitingAt cX6_waitingAt 7 (some .int) 2 [(0, .inr (.inr 377)), (1, .inl x1), (2, .inl x2), (3, .inl v3)] [] D eI (k2 v3 D)) (k19 : Int32 → Int32 → Int32 → dT → Option (Int32 × dT)) (hk19 : ∀ (v3 : Int32) (v4 : Int32) (v5 : Int32) (D : dT), ev l E (d + 2) yX6_waitingAt cX6_waitingAt 7 (some .int) 19 [(0, .inr (.inr 377)), (1, .inl x1), (2, .inl x2), (3, .inl v3), (4, .inl v4), (5, .inl v5)] [] D eI (k19 v3 v4 v5 D)) (v3 : Int32) (v4 : Int32) (v5 : Int32) (s0 : Int32) (D : dT) : ev l E (d + 2) yX6_waitingAt cX6_waitingAt 7 (some .int) 55 [(0, .inr (.inr 377)), (1, .inl x1), (2, .inl x2), (3, .inl v3), (4, .inl v4), (5, .inl v5)] [.inl s0] D eI (F_X6_waitingAt_55 x1 x2 k2 k19 v3 v4 v5 s0 D) := by
  unfold F_X6_waitingAt_55
  refine ev_s (fun Q k => rn_istore (j := 6) (ls' := [(6, .inl s0), (0, .inr (.inr 377)), (1, .inl x1), (2, .inl x2), (3, .inl v3), (4, .inl v4), (5, .inl v5)]) (by decide) rfl dX6_waitingAt_55 k) ?_
  refine ev_s (fun Q k => rn_iload (j := 4) 5 rfl dX6_waitingAt_57 k) ?_
  refine ev_s (fun Q k => rn_iload (j := 6) 0 rfl dX6_waitingAt_59 k) ?_
  refine ev_if (fun Q => rn_if_eq (tgt := 84) dX6_waitingAt_61 (by decide)) (fun c7 => ?_) (fun c8 => ?_)
  · refine ev_s (fun Q k => rn_sub (ls' := [(0, .inr (.inr 377)), (1, .inl x1), (2, .inl x2), (3, .inl v3), (5, .inl v5)]) [1, 2, 3, 4, 6] rfl k) ?_
    exact e_X6_waitingAt_84 l E d x1 x2 k2 hk2 k19 hk19  v3 v5 v4 D
  · refine ev_s (fun Q k => rn_iload (j := 5) 6 rfl dX6_waitingAt_64 k) ?_
    refine ev_s (fun Q k => rn_iload_n (j := 3) 4 rfl rfl dX6_waitingAt_66 k) ?_
    refine ev_if (fun Q => rn_icmp_eq (tgt := 84) dX6_waitingAt_67 (by decide)) (fun c5 => ?_) (fun c6 => ?_)
    · refine ev_s (fun Q k => rn_sub (ls' := [(0, .inr (.inr 377)), (1, .inl x1), (2, .inl x2), (3, .inl v3), (5, .inl v5)]) [1, 2, 3, 4, 6] rfl k) ?_
      exact e_X6_waitingAt_84 l E d x1 x2 k2 hk2 k19 hk19  v3 v5 v4 D
    · refine ev_s (fun Q k => rn_aload_n (j := 0) 1 rfl rfl (okO_0 ok_377) dX6_waitingAt_70 k) ?_
      refine ev_s (fun Q k => rn_iload (j := 5) 6 rfl dX6_waitingAt_71 k) ?_
      refine ev_s (fun Q k => rn_iload_n (j := 3) 4 rfl rfl dX6_waitingAt_73 k) ?_
      refine ev_bindI (as := [.inr (.inr 377), .inl v5, .inl v3]) (fun Q Q1 => rn_callV (as := [.inl v5, .inl v3]) (rest := [.inl v4]) (o := 377) m_X6_81 dX6_waitingAt_74 (rcv_own ok_377.1 ok_377.2.1 (by decide) (okO_1 ok_377)) rfl rfl (Nat.le_of_ble_eq_true rfl)) pl_X6_isAhead (Nat.le_of_ble_eq_true rfl) rfl (e_X6_isAhead l E d v5 v3 D) (fun r1 D2 => ?_)
      refine ev_if (fun Q => rn_if_eq (tgt := 84) dX6_waitingAt_77 (by decide)) (fun c3 => ?_) (fun c4 => ?_)
      · refine ev_s (fun Q k => rn_sub (ls' := [(0, .inr (.inr 377)), (1, .inl x1), (2, .inl x2), (3, .inl v3), (5, .inl v5)]) [1, 2, 3, 4, 6] rfl k) ?_
        exact e_X6_waitingAt_84 l E d x1 x2 k2 hk2 k19 hk19  v3 v5 v4 D2
      · refine ev_s (fun Q k => rn_iconst (v := 1) (by decide) dX6_waitingAt_80 k) ?_
        refine ev_s (fun Q k => rn_goto (tgt := 85) dX6_waitingAt_81 (by decide) k) ?_
        refine ev_s (fun Q k => rn_sub (ls' := [(0, .inr (.inr 377)), (1, .inl x1), (2, .inl x2), (3, .inl v3), (5, .inl v5)]) [1, 2, 3, 4, 6] rfl k) ?_
        exact e_X6_waitingAt_85 l E d x1 x2 k2 hk2 k19 hk19  v3 v5 (1 : Int32) v4 D2

set_option maxRecDepth 20000 in
theorem e_X6_waitingAt_54 (l : Launch) (E : eE) (d : Nat) (x1 : Int32) (x2 : Int32) (k2 : Int32 → dT → Option (Int32 × dT)) (hk2 : ∀ (v3 : Int32) (D : dT), ev l E (d + 2) yX6_waitingAt cX6_waitingAt 7 (some .int) 2 [(0, .inr (.inr 377)), (1, .inl x1), (2, .inl x2), (3, .inl v3)] [] D eI (k2 v3 D)) (k19 : Int32 → Int32 → Int32 → dT → Option (Int32 × dT)) (hk19 : ∀ (v3 : Int32) (v4 : Int32) (v5 : Int32) (D : dT), ev l E (d + 2) yX6_waitingAt cX6_waitingAt 7 (some .int) 19 [(0, .inr (.inr 377)), (1, .inl x1), (2, .inl x2), (3, .inl v3), (4, .inl v4), (5, .inl v5)] [] D eI (k19 v3 v4 v5 D)) (v3 : Int32) (v4 : Int32) (v5 : Int32) (D : dT) : ev l E (d + 2) yX6_waitingAt cX6_waitingAt 7 (some .int) 54 [(0, .inr (.inr 377)), (1, .inl x1), (2, .inl x2), (3, .inl v3), (4, .inl v4), (5, .inl v5)] [] D eI (F_X6_waitingAt_54 x1 x2 k2 k19 v3 v4 v5 D) := by
  unfold F_X6_waitingAt_54
  refine ev_s (fun Q k => rn_iconst (v := 0) (by decide) dX6_waitingAt_54 k) ?_
  exact e_X6_waitingAt_55 l E d x1 x2 k2 hk2 k19 hk19  v3 v4 v5 (0 : Int32) D

set_option maxRecDepth 20000 in
theorem e_X6_waitingAt_19 (l : Launch) (E : eE) (d : Nat) (x1 : Int32) (x2 : Int32) (k2 : Int32 → dT → Option (Int32 × dT)) (hk2 : ∀ (v3 : Int32) (D : dT), ev l E (d + 2) yX6_waitingAt cX6_waitingAt 7 (some .int) 2 [(0, .inr (.inr 377)), (1, .inl x1), (2, .inl x2), (3, .inl v3)] [] D eI (k2 v3 D)) (fuel : Nat) : ∀ (v3 : Int32) (v4 : Int32) (v5 : Int32) (D : dT), ev l E (d + 2) yX6_waitingAt cX6_waitingAt 7 (some .int) 19 [(0, .inr (.inr 377)), (1, .inl x1), (2, .inl x2), (3, .inl v3), (4, .inl v4), (5, .inl v5)] [] D eI (F_X6_waitingAt_19 fuel x1 x2 k2 v3 v4 v5 D) := by
  induction fuel with
  | zero =>
    intro v3 v4 v5 D
    exact ev_none
  | succ fu ih =>
    intro v3 v4 v5 D
    rw [F_X6_waitingAt_19]
    refine ev_s (fun Q k => rn_iload (j := 5) 5 rfl dX6_waitingAt_19 k) ?_
    refine ev_s (fun Q k => rn_aload_n (j := 0) 0 rfl rfl (okO_0 ok_377) dX6_waitingAt_21 k) ?_
    refine ev_s (fun Q k => rn_getr f_X6_7 ok_377.1 ok_377.2.1 (okO_1 ok_377) rfl rfl dX6_waitingAt_22 k) ?_
    refine ev_s (fun Q k => rn_bipush (v := 6) (by decide) dX6_waitingAt_25 k) ?_
    refine ev_gd (fun g1 => ?_)
    refine ev_s (fun Q k => rn_iald ok_378.1 ok_378.2.1 ok_378.2.2 (inR_vp g1) dX6_waitingAt_27 k) ?_
    refine ev_if (fun Q => rn_icmp_ge (tgt := 94) dX6_waitingAt_28 (by decide)) (fun c16 => ?_) (fun c17 => ?_)
    · refine ev_s (fun Q k => rn_aload_n (j := 0) 0 rfl rfl (okO_0 ok_377) dX6_waitingAt_94 k) ?_
      refine ev_s (fun Q k => rn_iload_n (j := 3) 3 rfl rfl dX6_waitingAt_95 k) ?_
      refine ev_s (fun Q k => rn_iconst (v := 5) (by decide) dX6_waitingAt_96 k) ?_
      refine ev_bindI (as := [.inr (.inr 377), .inl v3, .inl (5 : Int32)]) (fun Q Q1 => rn_callV (as := [.inl v3, .inl (5 : Int32)]) (rest := []) (o := 377) m_X6_43 dX6_waitingAt_97 (rcv_own ok_377.1 ok_377.2.1 (by decide) (okO_1 ok_377)) rfl rfl (Nat.le_of_ble_eq_true rfl)) pl_X6_ofJobs (Nat.le_of_ble_eq_true rfl) rfl (e_X6_ofJobs l E (d + 1) v3 (5 : Int32) D) (fun r2 D3 => ?_)
      refine ev_if (fun Q => rn_if_ne (tgt := 119) dX6_waitingAt_100 (by decide)) (fun c8 => ?_) (fun c9 => ?_)
      · refine ev_s (fun Q k => rn_iload_n (j := 2) 2 rfl rfl dX6_waitingAt_103 k) ?_
        refine ev_s (fun Q k => rn_iload_n (j := 3) 3 rfl rfl dX6_waitingAt_104 k) ?_
        refine ev_s (fun Q k => rn_ishr dX6_waitingAt_105 k) ?_
        refine ev_s (fun Q k => rn_iconst (v := 1) (by decide) dX6_waitingAt_106 k) ?_
        refine ev_s (fun Q k => rn_iand dX6_waitingAt_107 k) ?_
        refine ev_if (fun Q => rn_if_ne (tgt := 119) dX6_waitingAt_108 (by decide)) (fun c6 => ?_) (fun c7 => ?_)
        · refine ev_s (fun Q k => rn_iload (j := 4) 4 rfl dX6_waitingAt_111 k) ?_
          refine ev_s (fun Q k => rn_iload_n (j := 1) 1 rfl rfl dX6_waitingAt_113 k) ?_
          refine ev_if (fun Q => rn_icmp_ne (tgt := 119) dX6_waitingAt_114 (by decide)) (fun c4 => ?_) (fun c5 => ?_)
          · refine ev_s (fun Q k => rn_iload_n (j := 3) 3 rfl rfl dX6_waitingAt_117 k) ?_
            exact ev_ret (fun Q q => rn_ret q .int rfl rfl dX6_waitingAt_118)
          · refine ev_s (fun Q k => rn_iinc (v := (v3 + (1 : Int32))) (ls' := [(3, .inl (v3 + (1 : Int32))), (0, .inr (.inr 377)), (1, .inl x1), (2, .inl x2), (4, .inl v4), (5, .inl v5)]) 3 rfl rfl (by decide) rfl dX6_waitingAt_119 k) ?_
            refine ev_s (fun Q k => rn_goto (tgt := 2) dX6_waitingAt_122 (by decide) k) ?_
            refine ev_s (fun Q k => rn_sub (ls' := [(0, .inr (.inr 377)), (1, .inl x1), (2, .inl x2), (3, .inl (v3 + (1 : Int32)))]) [1, 2, 3, 0] rfl k) ?_
            exact hk2 (v3 + (1 : Int32)) D3
        · refine ev_s (fun Q k => rn_iinc (v := (v3 + (1 : Int32))) (ls' := [(3, .inl (v3 + (1 : Int32))), (0, .inr (.inr 377)), (1, .inl x1), (2, .inl x2), (4, .inl v4), (5, .inl v5)]) 3 rfl rfl (by decide) rfl dX6_waitingAt_119 k) ?_
          refine ev_s (fun Q k => rn_goto (tgt := 2) dX6_waitingAt_122 (by decide) k) ?_
          refine ev_s (fun Q k => rn_sub (ls' := [(0, .inr (.inr 377)), (1, .inl x1), (2, .inl x2), (3, .inl (v3 + (1 : Int32)))]) [1, 2, 3, 0] rfl k) ?_
          exact hk2 (v3 + (1 : Int32)) D3
      · refine ev_s (fun Q k => rn_iinc (v := (v3 + (1 : Int32))) (ls' := [(3, .inl (v3 + (1 : Int32))), (0, .inr (.inr 377)), (1, .inl x1), (2, .inl x2), (4, .inl v4), (5, .inl v5)]) 3 rfl rfl (by decide) rfl dX6_waitingAt_119 k) ?_
        refine ev_s (fun Q k => rn_goto (tgt := 2) dX6_waitingAt_122 (by decide) k) ?_
        refine ev_s (fun Q k => rn_sub (ls' := [(0, .inr (.inr 377)), (1, .inl x1), (2, .inl x2), (3, .inl (v3 + (1 : Int32)))]) [1, 2, 3, 0] rfl k) ?_
        exact hk2 (v3 + (1 : Int32)) D3
    · refine ev_s (fun Q k => rn_aload_n (j := 0) 0 rfl rfl (okO_0 ok_377) dX6_waitingAt_31 k) ?_
      refine ev_s (fun Q k => rn_iload (j := 5) 5 rfl dX6_waitingAt_32 k) ?_
      refine ev_s (fun Q k => rn_iconst (v := 5) (by decide) dX6_waitingAt_34 k) ?_
      refine ev_bindI (as := [.inr (.inr 377), .inl v5, .inl (5 : Int32)]) (fun Q Q1 => rn_callV (as := [.inl v5, .inl (5 : Int32)]) (rest := []) (o := 377) m_X6_43 dX6_waitingAt_35 (rcv_own ok_377.1 ok_377.2.1 (by decide) (okO_1 ok_377)) rfl rfl (Nat.le_of_ble_eq_true rfl)) pl_X6_ofJobs (Nat.le_of_ble_eq_true rfl) rfl (e_X6_ofJobs l E (d + 1) v5 (5 : Int32) D) (fun r10 D11 => ?_)
      refine ev_if (fun Q => rn_if_ne (tgt := 54) dX6_waitingAt_38 (by decide)) (fun c14 => ?_) (fun c15 => ?_)
      · refine ev_s (fun Q k => rn_iload_n (j := 2) 2 rfl rfl dX6_waitingAt_41 k) ?_
        refine ev_s (fun Q k => rn_iload (j := 5) 5 rfl dX6_waitingAt_42 k) ?_
        refine ev_s (fun Q k => rn_ishr dX6_waitingAt_44 k) ?_
        refine ev_s (fun Q k => rn_iconst (v := 1) (by decide) dX6_waitingAt_45 k) ?_
        refine ev_s (fun Q k => rn_iand dX6_waitingAt_46 k) ?_
        refine ev_if (fun Q => rn_if_ne (tgt := 54) dX6_waitingAt_47 (by decide)) (fun c12 => ?_) (fun c13 => ?_)
        · refine ev_s (fun Q k => rn_iconst (v := 1) (by decide) dX6_waitingAt_50 k) ?_
          refine ev_s (fun Q k => rn_goto (tgt := 55) dX6_waitingAt_51 (by decide) k) ?_
          exact e_X6_waitingAt_55 l E d x1 x2 k2 hk2 (fun (v3_ : Int32) (v4_ : Int32) (v5_ : Int32) (D_ : dT) => F_X6_waitingAt_19 fu x1 x2 k2 v3_ v4_ v5_ D_) (fun v3_ v4_ v5_ D_ => ih v3_ v4_ v5_ D_)  v3 v4 v5 (1 : Int32) D11
        · exact e_X6_waitingAt_54 l E d x1 x2 k2 hk2 (fun (v3_ : Int32) (v4_ : Int32) (v5_ : Int32) (D_ : dT) => F_X6_waitingAt_19 fu x1 x2 k2 v3_ v4_ v5_ D_) (fun v3_ v4_ v5_ D_ => ih v3_ v4_ v5_ D_)  v3 v4 v5 D11
      · exact e_X6_waitingAt_54 l E d x1 x2 k2 hk2 (fun (v3_ : Int32) (v4_ : Int32) (v5_ : Int32) (D_ : dT) => F_X6_waitingAt_19 fu x1 x2 k2 v3_ v4_ v5_ D_) (fun v3_ v4_ v5_ D_ => ih v3_ v4_ v5_ D_)  v3 v4 v5 D11

set_option maxRecDepth 20000 in
theorem e_X6_waitingAt_2 (l : Launch) (E : eE) (d : Nat) (x1 : Int32) (x2 : Int32)  (fuel : Nat) : ∀ (v3 : Int32) (D : dT), ev l E (d + 2) yX6_waitingAt cX6_waitingAt 7 (some .int) 2 [(0, .inr (.inr 377)), (1, .inl x1), (2, .inl x2), (3, .inl v3)] [] D eI (F_X6_waitingAt_2 fuel x1 x2 v3 D) := by
  induction fuel with
  | zero =>
    intro v3 D
    exact ev_none
  | succ fu ih =>
    intro v3 D
    rw [F_X6_waitingAt_2]
    refine ev_s (fun Q k => rn_iload_n (j := 3) 3 rfl rfl dX6_waitingAt_2 k) ?_
    refine ev_s (fun Q k => rn_aload_n (j := 0) 0 rfl rfl (okO_0 ok_377) dX6_waitingAt_3 k) ?_
    refine ev_s (fun Q k => rn_getr f_X6_7 ok_377.1 ok_377.2.1 (okO_1 ok_377) rfl rfl dX6_waitingAt_4 k) ?_
    refine ev_s (fun Q k => rn_bipush (v := 6) (by decide) dX6_waitingAt_7 k) ?_
    refine ev_gd (fun g1 => ?_)
    refine ev_s (fun Q k => rn_iald ok_378.1 ok_378.2.1 ok_378.2.2 (inR_vp g1) dX6_waitingAt_9 k) ?_
    refine ev_if (fun Q => rn_icmp_ge (tgt := 125) dX6_waitingAt_10 (by decide)) (fun c2 => ?_) (fun c3 => ?_)
    · refine ev_s (fun Q k => rn_bipush (v := -6) (by decide) dX6_waitingAt_125 k) ?_
      exact ev_ret (fun Q q => rn_ret q .int rfl rfl dX6_waitingAt_127)
    · refine ev_s (fun Q k => rn_iconst (v := 0) (by decide) dX6_waitingAt_13 k) ?_
      refine ev_s (fun Q k => rn_istore (j := 4) (ls' := [(4, .inl (0 : Int32)), (0, .inr (.inr 377)), (1, .inl x1), (2, .inl x2), (3, .inl v3)]) (by decide) rfl dX6_waitingAt_14 k) ?_
      refine ev_s (fun Q k => rn_iconst (v := 0) (by decide) dX6_waitingAt_16 k) ?_
      refine ev_s (fun Q k => rn_istore (j := 5) (ls' := [(5, .inl (0 : Int32)), (4, .inl (0 : Int32)), (0, .inr (.inr 377)), (1, .inl x1), (2, .inl x2), (3, .inl v3)]) (by decide) rfl dX6_waitingAt_17 k) ?_
      refine ev_s (fun Q k => rn_sub (ls' := [(0, .inr (.inr 377)), (1, .inl x1), (2, .inl x2), (3, .inl v3), (4, .inl (0 : Int32)), (5, .inl (0 : Int32))]) [2, 3, 4, 5, 1, 0] rfl k) ?_
      exact e_X6_waitingAt_19 l E d x1 x2 (fun (v3_ : Int32) (D_ : dT) => F_X6_waitingAt_2 fu x1 x2 v3_ D_) (fun v3_ D_ => ih v3_ D_) lim v3 (0 : Int32) (0 : Int32) D

set_option maxRecDepth 20000 in
theorem e_X6_waitingAt (l : Launch) (E : eE) (d : Nat) (x1 : Int32) (x2 : Int32) (D : dT) : ev l E (d + 2) yX6_waitingAt cX6_waitingAt 7 (some .int) 0 [(0, .inr (.inr 377)), (1, .inl x1), (2, .inl x2)] [] D eI (F_X6_waitingAt x1 x2 D) := by
  unfold F_X6_waitingAt
  refine ev_s (fun Q k => rn_iconst (v := 0) (by decide) dX6_waitingAt_0 k) ?_
  refine ev_s (fun Q k => rn_istore_n (j := 3) (ls' := [(3, .inl (0 : Int32)), (0, .inr (.inr 377)), (1, .inl x1), (2, .inl x2)]) rfl (by decide) rfl dX6_waitingAt_1 k) ?_
  refine ev_s (fun Q k => rn_sub (ls' := [(0, .inr (.inr 377)), (1, .inl x1), (2, .inl x2), (3, .inl (0 : Int32))]) [1, 2, 3, 0] rfl k) ?_
  exact e_X6_waitingAt_2 l E d x1 x2  lim (0 : Int32) D

