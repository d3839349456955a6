def F_L_cell (sL : Nat) (sX : Nat → Int32) (x2 : Int32) (D : dT) : Option (Int32 × dT) := if (Int32.ofNat sL) ≤ x2 then some ((((7919 : Int32) * (x2 + (3 : Int32))) * (x2 + (11 : Int32))), D) else if inR x2 sL then some ((sX x2.toNatClampNeg), D) else none
set_option maxHeartbeats 4000000 in
set_option maxRecDepth 20000 in
theorem e_L_cell (l : Launch) (E : eE) (d : Nat) (sL : Nat) (hsL : E.2.2.2.2.2.1 = sL) (sX : Nat → Int32) (hsX : E.2.2.2.2.2.2 = sX) (x2 : Int32) (D : dT) : ev l E d yL_cell cL_cell 2 (some .int) 0 [(0, .inr (.inr 17)), (1, .inl x2)] [] D eI (F_L_cell sL sX x2 D) := by
  unfold F_L_cell
  refine ev_s (fun Q k => rn_iload_n (j := 1) 1 rfl rfl dL_cell_0 k) ?_
  refine ev_s (fun Q k => rn_aload_n (j := 0) 0 rfl rfl (by decide) dL_cell_1 k) ?_
  refine ev_s (fun Q k => rn_sclen2 (sL := sL) hsL dL_cell_2 k) ?_
  refine ev_if (fun Q => rn_icmp_ge (tgt := 12) dL_cell_3 (by decide)) (fun c2 => ?_) (fun c3 => ?_)
  · refine ev_s (fun Q k => rn_sipush (v := 7919) (by decide) dL_cell_12 k) ?_
    refine ev_s (fun Q k => rn_iload_n (j := 1) 1 rfl rfl dL_cell_15 k) ?_
    refine ev_s (fun Q k => rn_iconst (v := 3) (by decide) dL_cell_16 k) ?_
    refine ev_s (fun Q k => rn_iadd dL_cell_17 k) ?_
    refine ev_s (fun Q k => rn_imul dL_cell_18 k) ?_
    refine ev_s (fun Q k => rn_iload_n (j := 1) 1 rfl rfl dL_cell_19 k) ?_
    refine ev_s (fun Q k => rn_bipush (v := 11) (by decide) dL_cell_20 k) ?_
    refine ev_s (fun Q k => rn_iadd dL_cell_22 k) ?_
    refine ev_s (fun Q k => rn_imul dL_cell_23 k) ?_
    exact ev_ret (fun Q q => rn_ret q .int rfl rfl dL_cell_24)
  · refine ev_s (fun Q k => rn_aload_n (j := 0) 0 rfl rfl (by decide) dL_cell_6 k) ?_
    refine ev_s (fun Q k => rn_iload_n (j := 1) 1 rfl rfl dL_cell_7 k) ?_
    refine ev_gd (fun g1 => ?_)
    refine ev_s (fun Q k => rn_scald2 hsX hsL (inR_vp g1) dL_cell_8 k) ?_
    refine ev_s (fun Q k => rn_goto (tgt := 24) dL_cell_9 (by decide) k) ?_
    exact ev_ret (fun Q q => rn_ret q .int rfl rfl dL_cell_24)

def F_L_told_45 (fuel : Nat)  (k33 : Int64 → Int32 → dT → Option (Int64 × dT)) (v1 : Int64) (v3 : Int32) (v4 : Int32) (D : dT) : Option (Int64 × dT) := match fuel with
  | 0 => none
  | fu + 1 => if (6 : Int32) ≤ v4 then k33 v1 (v3 + (1 : Int32)) D else bd (F_X5_of v3 v4 D) (fun (r1 : Int32) (D2 : dT) => F_L_told_45 fu k33 (((31 : Int64) * v1) + (r1.toInt64)) v3 (v4 + (1 : Int32)) D2)
def F_L_told_93 (fuel : Nat)  (k81 : Int64 → Int32 → dT → Option (Int64 × dT)) (v1 : Int64) (v3 : Int32) (v4 : Int32) (D : dT) : Option (Int64 × dT) := match fuel with
  | 0 => none
  | fu + 1 => if (13 : Int32) ≤ v4 then k81 v1 (v3 + (1 : Int32)) D else bd (F_X5_ofJob v3 v4 D) (fun (r1 : Int32) (D2 : dT) => F_L_told_93 fu k81 (((31 : Int64) * v1) + (r1.toInt64)) v3 (v4 + (1 : Int32)) D2)
def F_L_told_129 (fuel : Nat)   (v1 : Int64) (v3 : Int32) (D : dT) : Option (Int64 × dT) := match fuel with
  | 0 => none
  | fu + 1 => if (3 : Int32) ≤ v3 then some (v1, D) else bd (F_X5_straps v3 (0 : Int32) D) (fun (r1 : Int32) (D2 : dT) => bd (F_X5_straps v3 (1 : Int32) D2) (fun (r3 : Int32) (D4 : dT) => F_L_told_129 fu (((31 : Int64) * (((31 : Int64) * v1) + (r1.toInt64))) + (r3.toInt64)) (v3 + (1 : Int32)) D4))
def F_L_told_81 (fuel : Nat)   (v1 : Int64) (v3 : Int32) (D : dT) : Option (Int64 × dT) := match fuel with
  | 0 => none
  | fu + 1 => bd (F_X5_count (3 : Int32) D) (fun (r1 : Int32) (D2 : dT) => if r1 ≤ v3 then F_L_told_129 lim v1 (0 : Int32) D2 else F_L_told_93 lim (fun (v1_ : Int64) (v3_ : Int32) (D_ : dT) => F_L_told_81 fu v1_ v3_ D_) v1 v3 (0 : Int32) D2)
def F_L_told_33 (fuel : Nat)   (v1 : Int64) (v3 : Int32) (D : dT) : Option (Int64 × dT) := match fuel with
  | 0 => none
  | fu + 1 => bd (F_X5_count (1 : Int32) D) (fun (r1 : Int32) (D2 : dT) => if r1 ≤ v3 then F_L_told_81 lim v1 (0 : Int32) D2 else F_L_told_45 lim (fun (v1_ : Int64) (v3_ : Int32) (D_ : dT) => F_L_told_33 fu v1_ v3_ D_) v1 v3 (0 : Int32) D2)
def F_L_told_6 (fuel : Nat)   (v1 : Int64) (v3 : Int32) (D : dT) : Option (Int64 × dT) := match fuel with
  | 0 => none
  | fu + 1 => if (14 : Int32) ≤ v3 then F_L_told_33 lim v1 (0 : Int32) D else bd (F_X5_count v3 D) (fun (r1 : Int32) (D2 : dT) => F_L_told_6 fu (((31 : Int64) * v1) + (r1.toInt64)) (v3 + (1 : Int32)) D2)
def F_L_told  (D : dT) : Option (Int64 × dT) := F_L_told_6 lim (3 : Int64) (0 : Int32) D
set_option maxHeartbeats 4000000 in
set_option maxRecDepth 20000 in
theorem e_L_told_45 (l : Launch) (E : eE) (d : Nat)  (k33 : Int64 → Int32 → dT → Option (Int64 × dT)) (hk33 : ∀ (v1 : Int64) (v3 : Int32) (D : dT), ev l E (d + 4) yL_told cL_told 5 (some .long) 33 [(0, .inr (.inr 18)), (1, .inr (.inl v1)), (3, .inl v3)] [] D eJ (k33 v1 v3 D)) (fuel : Nat) : ∀ (v1 : Int64) (v3 : Int32) (v4 : Int32) (D : dT), ev l E (d + 4) yL_told cL_told 5 (some .long) 45 [(0, .inr (.inr 18)), (1, .inr (.inl v1)), (3, .inl v3), (4, .inl v4)] [] D eJ (F_L_told_45 fuel k33 v1 v3 v4 D) := by
  induction fuel with
  | zero =>
    intro v1 v3 v4 D
    exact ev_none
  | succ fu ih =>
    intro v1 v3 v4 D
    rw [F_L_told_45]
    refine ev_s (fun Q k => rn_iload (j := 4) 3 rfl dL_told_45 k) ?_
    refine ev_s (fun Q k => rn_bipush (v := 6) (by decide) dL_told_47 k) ?_
    refine ev_if (fun Q => rn_icmp_ge (tgt := 73) dL_told_49 (by decide)) (fun c3 => ?_) (fun c4 => ?_)
    · refine ev_s (fun Q k => rn_iinc (v := (v3 + (1 : Int32))) (ls' := [(3, .inl (v3 + (1 : Int32))), (0, .inr (.inr 18)), (1, .inr (.inl v1)), (4, .inl v4)]) 2 rfl rfl (by decide) rfl dL_told_73 k) ?_
      refine ev_s (fun Q k => rn_goto (tgt := 33) dL_told_76 (by decide) k) ?_
      refine ev_s (fun Q k => rn_sub (ls' := [(0, .inr (.inr 18)), (1, .inr (.inl v1)), (3, .inl (v3 + (1 : Int32)))]) [1, 2, 0] rfl k) ?_
      exact hk33 v1 (v3 + (1 : Int32)) D
    · refine ev_s (fun Q k => rn_ldc2 (v := 31) cn_L_10 dL_told_52 k) ?_
      refine ev_s (fun Q k => rn_lload_n (j := 1) 1 rfl rfl dL_told_55 k) ?_
      refine ev_s (fun Q k => rn_lmul dL_told_56 k) ?_
      refine ev_s (fun Q k => rn_aload_n (j := 0) 0 rfl rfl (okO_0 ok_18) dL_told_57 k) ?_
      refine ev_s (fun Q k => rn_iload_n (j := 3) 2 rfl rfl dL_told_58 k) ?_
      refine ev_s (fun Q k => rn_iload (j := 4) 3 rfl dL_told_59 k) ?_
      refine ev_bindI (as := [.inr (.inr 18), .inl v3, .inl v4]) (fun Q Q1 => rn_callV (as := [.inl v3, .inl v4]) (rest := [.inr (.inl ((31 : Int64) * v1))]) (o := 18) m_L_18 dL_told_61 (rcv_own ok_18.1 ok_18.2.1 (by decide) (okO_1 ok_18)) rfl rfl (Nat.le_of_ble_eq_true rfl)) pl_X5_of (Nat.le_of_ble_eq_true rfl) rfl (e_X5_of l E d v3 v4 D) (fun r1 D2 => ?_)
      refine ev_s (fun Q k => rn_i2l (v := r1.toInt64) rfl dL_told_64 k) ?_
      refine ev_s (fun Q k => rn_ladd dL_told_65 k) ?_
      refine ev_s (fun Q k => rn_lstore_n (j := 1) (ls' := [(1, .inr (.inl (((31 : Int64) * v1) + (r1.toInt64)))), (0, .inr (.inr 18)), (3, .inl v3), (4, .inl v4)]) rfl (by decide) rfl dL_told_66 k) ?_
      refine ev_s (fun Q k => rn_iinc (v := (v4 + (1 : Int32))) (ls' := [(4, .inl (v4 + (1 : Int32))), (1, .inr (.inl (((31 : Int64) * v1) + (r1.toInt64)))), (0, .inr (.inr 18)), (3, .inl v3)]) 3 rfl rfl (by decide) rfl dL_told_67 k) ?_
      refine ev_s (fun Q k => rn_goto (tgt := 45) dL_told_70 (by decide) k) ?_
      refine ev_s (fun Q k => rn_sub (ls' := [(0, .inr (.inr 18)), (1, .inr (.inl (((31 : Int64) * v1) + (r1.toInt64)))), (3, .inl v3), (4, .inl (v4 + (1 : Int32)))]) [2, 1, 3, 0] rfl k) ?_
      exact ih (((31 : Int64) * v1) + (r1.toInt64)) v3 (v4 + (1 : Int32)) D2

set_option maxHeartbeats 4000000 in
set_option maxRecDepth 20000 in
theorem e_L_told_93 (l : Launch) (E : eE) (d : Nat)  (k81 : Int64 → Int32 → dT → Option (Int64 × dT)) (hk81 : ∀ (v1 : Int64) (v3 : Int32) (D : dT), ev l E (d + 4) yL_told cL_told 5 (some .long) 81 [(0, .inr (.inr 18)), (1, .inr (.inl v1)), (3, .inl v3)] [] D eJ (k81 v1 v3 D)) (fuel : Nat) : ∀ (v1 : Int64) (v3 : Int32) (v4 : Int32) (D : dT), ev l E (d + 4) yL_told cL_told 5 (some .long) 93 [(0, .inr (.inr 18)), (1, .inr (.inl v1)), (3, .inl v3), (4, .inl v4)] [] D eJ (F_L_told_93 fuel k81 v1 v3 v4 D) := by
  induction fuel with
  | zero =>
    intro v1 v3 v4 D
    exact ev_none
  | succ fu ih =>
    intro v1 v3 v4 D
    rw [F_L_told_93]
    refine ev_s (fun Q k => rn_iload (j := 4) 3 rfl dL_told_93 k) ?_
    refine ev_s (fun Q k => rn_bipush (v := 13) (by decide) dL_told_95 k) ?_
    refine ev_if (fun Q => rn_icmp_ge (tgt := 121) dL_told_97 (by decide)) (fun c3 => ?_) (fun c4 => ?_)
    · refine ev_s (fun Q k => rn_iinc (v := (v3 + (1 : Int32))) (ls' := [(3, .inl (v3 + (1 : Int32))), (0, .inr (.inr 18)), (1, .inr (.inl v1)), (4, .inl v4)]) 2 rfl rfl (by decide) rfl dL_told_121 k) ?_
      refine ev_s (fun Q k => rn_goto (tgt := 81) dL_told_124 (by decide) k) ?_
      refine ev_s (fun Q k => rn_sub (ls' := [(0, .inr (.inr 18)), (1, .inr (.inl v1)), (3, .inl (v3 + (1 : Int32)))]) [1, 2, 0] rfl k) ?_
      exact hk81 v1 (v3 + (1 : Int32)) D
    · refine ev_s (fun Q k => rn_ldc2 (v := 31) cn_L_10 dL_told_100 k) ?_
      refine ev_s (fun Q k => rn_lload_n (j := 1) 1 rfl rfl dL_told_103 k) ?_
      refine ev_s (fun Q k => rn_lmul dL_told_104 k) ?_
      refine ev_s (fun Q k => rn_aload_n (j := 0) 0 rfl rfl (okO_0 ok_18) dL_told_105 k) ?_
      refine ev_s (fun Q k => rn_iload_n (j := 3) 2 rfl rfl dL_told_106 k) ?_
      refine ev_s (fun Q k => rn_iload (j := 4) 3 rfl dL_told_107 k) ?_
      refine ev_bindI (as := [.inr (.inr 18), .inl v3, .inl v4]) (fun Q Q1 => rn_callV (as := [.inl v3, .inl v4]) (rest := [.inr (.inl ((31 : Int64) * v1))]) (o := 18) m_L_22 dL_told_109 (rcv_own ok_18.1 ok_18.2.1 (by decide) (okO_1 ok_18)) rfl rfl (Nat.le_of_ble_eq_true rfl)) pl_X5_ofJob (Nat.le_of_ble_eq_true rfl) rfl (e_X5_ofJob l E (d + 1) v3 v4 D) (fun r1 D2 => ?_)
      refine ev_s (fun Q k => rn_i2l (v := r1.toInt64) rfl dL_told_112 k) ?_
      refine ev_s (fun Q k => rn_ladd dL_told_113 k) ?_
      refine ev_s (fun Q k => rn_lstore_n (j := 1) (ls' := [(1, .inr (.inl (((31 : Int64) * v1) + (r1.toInt64)))), (0, .inr (.inr 18)), (3, .inl v3), (4, .inl v4)]) rfl (by decide) rfl dL_told_114 k) ?_
      refine ev_s (fun Q k => rn_iinc (v := (v4 + (1 : Int32))) (ls' := [(4, .inl (v4 + (1 : Int32))), (1, .inr (.inl (((31 : Int64) * v1) + (r1.toInt64)))), (0, .inr (.inr 18)), (3, .inl v3)]) 3 rfl rfl (by decide) rfl dL_told_115 k) ?_
      refine ev_s (fun Q k => rn_goto (tgt := 93) dL_told_118 (by decide) k) ?_
      refine ev_s (fun Q k => rn_sub (ls' := [(0, .inr (.inr 18)), (1, .inr (.inl (((31 : Int64) * v1) + (r1.toInt64)))), (3, .inl v3), (4, .inl (v4 + (1 : Int32)))]) [2, 1, 3, 0] rfl k) ?_
      exact ih (((31 : Int64) * v1) + (r1.toInt64)) v3 (v4 + (1 : Int32)) D2

set_option maxHeartbeats 4000000 in
set_option maxRecDepth 20000 in
theorem e_L_told_129 (l : Launch) (E : eE) (d : Nat)   (fuel : Nat) : ∀ (v1 : Int64) (v3 : Int32) (D : dT), ev l E (d + 4) yL_told cL_told 5 (some .long) 129 [(0, .inr (.inr 18)), (1, .inr (.inl v1)), (3, .inl v3)] [] D eJ (F_L_told_129 fuel v1 v3 D) := by
  induction fuel with
  | zero =>
    intro v1 v3 D
    exact ev_none
  | succ fu ih =>
    intro v1 v3 D
    rw [F_L_told_129]
    refine ev_s (fun Q k => rn_iload_n (j := 3) 2 rfl rfl dL_told_129 k) ?_
    refine ev_s (fun Q k => rn_iconst (v := 3) (by decide) dL_told_130 k) ?_
    refine ev_if (fun Q => rn_icmp_ge (tgt := 166) dL_told_131 (by decide)) (fun c5 => ?_) (fun c6 => ?_)
    · refine ev_s (fun Q k => rn_lload_n (j := 1) 1 rfl rfl dL_told_166 k) ?_
      exact ev_ret (ε := eJ) (fun Q q => rn_retl q rfl dL_told_167)
    · refine ev_s (fun Q k => rn_ldc2 (v := 31) cn_L_10 dL_told_134 k) ?_
      refine ev_s (fun Q k => rn_ldc2 (v := 31) cn_L_10 dL_told_137 k) ?_
      refine ev_s (fun Q k => rn_lload_n (j := 1) 1 rfl rfl dL_told_140 k) ?_
      refine ev_s (fun Q k => rn_lmul dL_told_141 k) ?_
      refine ev_s (fun Q k => rn_aload_n (j := 0) 0 rfl rfl (okO_0 ok_18) dL_told_142 k) ?_
      refine ev_s (fun Q k => rn_iload_n (j := 3) 2 rfl rfl dL_told_143 k) ?_
      refine ev_s (fun Q k => rn_iconst (v := 0) (by decide) dL_told_144 k) ?_
      refine ev_bindI (as := [.inr (.inr 18), .inl v3, .inl (0 : Int32)]) (fun Q Q1 => rn_callV (as := [.inl v3, .inl (0 : Int32)]) (rest := [.inr (.inl ((31 : Int64) * v1)), .inr (.inl (31 : Int64))]) (o := 18) m_L_25 dL_told_145 (rcv_own ok_18.1 ok_18.2.1 (by decide) (okO_1 ok_18)) rfl rfl (Nat.le_of_ble_eq_true rfl)) pl_X5_straps (Nat.le_of_ble_eq_true rfl) rfl (e_X5_straps l E (d + 2) v3 (0 : Int32) D) (fun r1 D2 => ?_)
      refine ev_s (fun Q k => rn_i2l (v := r1.toInt64) rfl dL_told_148 k) ?_
      refine ev_s (fun Q k => rn_ladd dL_told_149 k) ?_
      refine ev_s (fun Q k => rn_lmul dL_told_150 k) ?_
      refine ev_s (fun Q k => rn_aload_n (j := 0) 0 rfl rfl (okO_0 ok_18) dL_told_151 k) ?_
      refine ev_s (fun Q k => rn_iload_n (j := 3) 2 rfl rfl dL_told_152 k) ?_
      refine ev_s (fun Q k => rn_iconst (v := 1) (by decide) dL_told_153 k) ?_
      refine ev_bindI (as := [.inr (.inr 18), .inl v3, .inl (1 : Int32)]) (fun Q Q1 => rn_callV (as := [.inl v3, .inl (1 : Int32)]) (rest := [.inr (.inl ((31 : Int64) * (((31 : Int64) * v1) + (r1.toInt64))))]) (o := 18) m_L_25 dL_told_154 (rcv_own ok_18.1 ok_18.2.1 (by decide) (okO_1 ok_18)) rfl rfl (Nat.le_of_ble_eq_true rfl)) pl_X5_straps (Nat.le_of_ble_eq_true rfl) rfl (e_X5_straps l E (d + 2) v3 (1 : Int32) D2) (fun r3 D4 => ?_)
      refine ev_s (fun Q k => rn_i2l (v := r3.toInt64) rfl dL_told_157 k) ?_
      refine ev_s (fun Q k => rn_ladd dL_told_158 k) ?_
      refine ev_s (fun Q k => rn_lstore_n (j := 1) (ls' := [(1, .inr (.inl (((31 : Int64) * (((31 : Int64) * v1) + (r1.toInt64))) + (r3.toInt64)))), (0, .inr (.inr 18)), (3, .inl v3)]) rfl (by decide) rfl dL_told_159 k) ?_
      refine ev_s (fun Q k => rn_iinc (v := (v3 + (1 : Int32))) (ls' := [(3, .inl (v3 + (1 : Int32))), (1, .inr (.inl (((31 : Int64) * (((31 : Int64) * v1) + (r1.toInt64))) + (r3.toInt64)))), (0, .inr (.inr 18))]) 2 rfl rfl (by decide) rfl dL_told_160 k) ?_
      refine ev_s (fun Q k => rn_goto (tgt := 129) dL_told_163 (by decide) k) ?_
      refine ev_s (fun Q k => rn_sub (ls' := [(0, .inr (.inr 18)), (1, .inr (.inl (((31 : Int64) * (((31 : Int64) * v1) + (r1.toInt64))) + (r3.toInt64)))), (3, .inl (v3 + (1 : Int32)))]) [2, 1, 0] rfl k) ?_
      exact ih (((31 : Int64) * (((31 : Int64) * v1) + (r1.toInt64))) + (r3.toInt64)) (v3 + (1 : Int32)) D4

set_option maxHeartbeats 4000000 in
set_option maxRecDepth 20000 in
theorem e_L_told_81 (l : Launch) (E : eE) (d : Nat)   (fuel : Nat) : ∀ (v1 : Int64) (v3 : Int32) (D : dT), ev l E (d + 4) yL_told cL_told 5 (some .long) 81 [(0, .inr (.inr 18)), (1, .inr (.inl v1)), (3, .inl v3)] [] D eJ (F_L_told_81 fuel v1 v3 D) := by
  induction fuel with
  | zero =>
    intro v1 v3 D
    exact ev_none
  | succ fu ih =>
    intro v1 v3 D
    rw [F_L_told_81]
    refine ev_s (fun Q k => rn_iload_n (j := 3) 2 rfl rfl dL_told_81 k) ?_
    refine ev_s (fun Q k => rn_aload_n (j := 0) 0 rfl rfl (okO_0 ok_18) dL_told_82 k) ?_
    refine ev_s (fun Q k => rn_iconst (v := 3) (by decide) dL_told_83 k) ?_
    refine ev_bindI (as := [.inr (.inr 18), .inl (3 : Int32)]) (fun Q Q1 => rn_callV (as := [.inl (3 : Int32)]) (rest := [.inl v3]) (o := 18) m_L_12 dL_told_84 (rcv_own ok_18.1 ok_18.2.1 (by decide) (okO_1 ok_18)) rfl rfl (Nat.le_of_ble_eq_true rfl)) pl_X5_count (Nat.le_of_ble_eq_true rfl) rfl (e_X5_count l E d (3 : Int32) D) (fun r1 D2 => ?_)
    refine ev_if (fun Q => rn_icmp_ge (tgt := 127) dL_told_87 (by decide)) (fun c3 => ?_) (fun c4 => ?_)
    · refine ev_s (fun Q k => rn_iconst (v := 0) (by decide) dL_told_127 k) ?_
      refine ev_s (fun Q k => rn_istore_n (j := 3) (ls' := [(3, .inl (0 : Int32)), (0, .inr (.inr 18)), (1, .inr (.inl v1))]) rfl (by decide) rfl dL_told_128 k) ?_
      refine ev_s (fun Q k => rn_sub (ls' := [(0, .inr (.inr 18)), (1, .inr (.inl v1)), (3, .inl (0 : Int32))]) [1, 2, 0] rfl k) ?_
      exact e_L_told_129 l E d   lim v1 (0 : Int32) D2
    · refine ev_s (fun Q k => rn_iconst (v := 0) (by decide) dL_told_90 k) ?_
      refine ev_s (fun Q k => rn_istore (j := 4) (ls' := [(4, .inl (0 : Int32)), (0, .inr (.inr 18)), (1, .inr (.inl v1)), (3, .inl v3)]) (by decide) rfl dL_told_91 k) ?_
      refine ev_s (fun Q k => rn_sub (ls' := [(0, .inr (.inr 18)), (1, .inr (.inl v1)), (3, .inl v3), (4, .inl (0 : Int32))]) [1, 2, 3, 0] rfl k) ?_
      exact e_L_told_93 l E d  (fun (v1_ : Int64) (v3_ : Int32) (D_ : dT) => F_L_told_81 fu v1_ v3_ D_) (fun v1_ v3_ D_ => ih v1_ v3_ D_) lim v1 v3 (0 : Int32) D2

set_option maxHeartbeats 4000000 in
set_option maxRecDepth 20000 in
theorem e_L_told_33 (l : Launch) (E : eE) (d : Nat)   (fuel : Nat) : ∀ (v1 : Int64) (v3 : Int32) (D : dT), ev l E (d + 4) yL_told cL_told 5 (some .long) 33 [(0, .inr (.inr 18)), (1, .inr (.inl v1)), (3, .inl v3)] [] D eJ (F_L_told_33 fuel v1 v3 D) := by
  induction fuel with
  | zero =>
    intro v1 v3 D
    exact ev_none
  | succ fu ih =>
    intro v1 v3 D
    rw [F_L_told_33]
    refine ev_s (fun Q k => rn_iload_n (j := 3) 2 rfl rfl dL_told_33 k) ?_
    refine ev_s (fun Q k => rn_aload_n (j := 0) 0 rfl rfl (okO_0 ok_18) dL_told_34 k) ?_
    refine ev_s (fun Q k => rn_iconst (v := 1) (by decide) dL_told_35 k) ?_
    refine ev_bindI (as := [.inr (.inr 18), .inl (1 : Int32)]) (fun Q Q1 => rn_callV (as := [.inl (1 : Int32)]) (rest := [.inl v3]) (o := 18) m_L_12 dL_told_36 (rcv_own ok_18.1 ok_18.2.1 (by decide) (okO_1 ok_18)) rfl rfl (Nat.le_of_ble_eq_true rfl)) pl_X5_count (Nat.le_of_ble_eq_true rfl) rfl (e_X5_count l E d (1 : Int32) D) (fun r1 D2 => ?_)
    refine ev_if (fun Q => rn_icmp_ge (tgt := 79) dL_told_39 (by decide)) (fun c3 => ?_) (fun c4 => ?_)
    · refine ev_s (fun Q k => rn_iconst (v := 0) (by decide) dL_told_79 k) ?_
      refine ev_s (fun Q k => rn_istore_n (j := 3) (ls' := [(3, .inl (0 : Int32)), (0, .inr (.inr 18)), (1, .inr (.inl v1))]) rfl (by decide) rfl dL_told_80 k) ?_
      refine ev_s (fun Q k => rn_sub (ls' := [(0, .inr (.inr 18)), (1, .inr (.inl v1)), (3, .inl (0 : Int32))]) [1, 2, 0] rfl k) ?_
      exact e_L_told_81 l E d   lim v1 (0 : Int32) D2
    · refine ev_s (fun Q k => rn_iconst (v := 0) (by decide) dL_told_42 k) ?_
      refine ev_s (fun Q k => rn_istore (j := 4) (ls' := [(4, .inl (0 : Int32)), (0, .inr (.inr 18)), (1, .inr (.inl v1)), (3, .inl v3)]) (by decide) rfl dL_told_43 k) ?_
      refine ev_s (fun Q k => rn_sub (ls' := [(0, .inr (.inr 18)), (1, .inr (.inl v1)), (3, .inl v3), (4, .inl (0 : Int32))]) [1, 2, 3, 0] rfl k) ?_
      exact e_L_told_45 l E d  (fun (v1_ : Int64) (v3_ : Int32) (D_ : dT) => F_L_told_33 fu v1_ v3_ D_) (fun v1_ v3_ D_ => ih v1_ v3_ D_) lim v1 v3 (0 : Int32) D2

set_option maxHeartbeats 4000000 in
set_option maxRecDepth 20000 in
theorem e_L_told_6 (l : Launch) (E : eE) (d : Nat)   (fuel : Nat) : ∀ (v1 : Int64) (v3 : Int32) (D : dT), ev l E (d + 4) yL_told cL_told 5 (some .long) 6 [(0, .inr (.inr 18)), (1, .inr (.inl v1)), (3, .inl v3)] [] D eJ (F_L_told_6 fuel v1 v3 D) := by
  induction fuel with
  | zero =>
    intro v1 v3 D
    exact ev_none
  | succ fu ih =>
    intro v1 v3 D
    rw [F_L_told_6]
    refine ev_s (fun Q k => rn_iload_n (j := 3) 2 rfl rfl dL_told_6 k) ?_
    refine ev_s (fun Q k => rn_bipush (v := 14) (by decide) dL_told_7 k) ?_
    refine ev_if (fun Q => rn_icmp_ge (tgt := 31) dL_told_9 (by decide)) (fun c3 => ?_) (fun c4 => ?_)
    · refine ev_s (fun Q k => rn_iconst (v := 0) (by decide) dL_told_31 k) ?_
      refine ev_s (fun Q k => rn_istore_n (j := 3) (ls' := [(3, .inl (0 : Int32)), (0, .inr (.inr 18)), (1, .inr (.inl v1))]) rfl (by decide) rfl dL_told_32 k) ?_
      refine ev_s (fun Q k => rn_sub (ls' := [(0, .inr (.inr 18)), (1, .inr (.inl v1)), (3, .inl (0 : Int32))]) [1, 2, 0] rfl k) ?_
      exact e_L_told_33 l E d   lim v1 (0 : Int32) D
    · refine ev_s (fun Q k => rn_ldc2 (v := 31) cn_L_10 dL_told_12 k) ?_
      refine ev_s (fun Q k => rn_lload_n (j := 1) 1 rfl rfl dL_told_15 k) ?_
      refine ev_s (fun Q k => rn_lmul dL_told_16 k) ?_
      refine ev_s (fun Q k => rn_aload_n (j := 0) 0 rfl rfl (okO_0 ok_18) dL_told_17 k) ?_
      refine ev_s (fun Q k => rn_iload_n (j := 3) 2 rfl rfl dL_told_18 k) ?_
      refine ev_bindI (as := [.inr (.inr 18), .inl v3]) (fun Q Q1 => rn_callV (as := [.inl v3]) (rest := [.inr (.inl ((31 : Int64) * v1))]) (o := 18) m_L_12 dL_told_19 (rcv_own ok_18.1 ok_18.2.1 (by decide) (okO_1 ok_18)) rfl rfl (Nat.le_of_ble_eq_true rfl)) pl_X5_count (Nat.le_of_ble_eq_true rfl) rfl (e_X5_count l E d v3 D) (fun r1 D2 => ?_)
      refine ev_s (fun Q k => rn_i2l (v := r1.toInt64) rfl dL_told_22 k) ?_
      refine ev_s (fun Q k => rn_ladd dL_told_23 k) ?_
      refine ev_s (fun Q k => rn_lstore_n (j := 1) (ls' := [(1, .inr (.inl (((31 : Int64) * v1) + (r1.toInt64)))), (0, .inr (.inr 18)), (3, .inl v3)]) rfl (by decide) rfl dL_told_24 k) ?_
      refine ev_s (fun Q k => rn_iinc (v := (v3 + (1 : Int32))) (ls' := [(3, .inl (v3 + (1 : Int32))), (1, .inr (.inl (((31 : Int64) * v1) + (r1.toInt64)))), (0, .inr (.inr 18))]) 2 rfl rfl (by decide) rfl dL_told_25 k) ?_
      refine ev_s (fun Q k => rn_goto (tgt := 6) dL_told_28 (by decide) k) ?_
      refine ev_s (fun Q k => rn_sub (ls' := [(0, .inr (.inr 18)), (1, .inr (.inl (((31 : Int64) * v1) + (r1.toInt64)))), (3, .inl (v3 + (1 : Int32)))]) [2, 1, 0] rfl k) ?_
      exact ih (((31 : Int64) * v1) + (r1.toInt64)) (v3 + (1 : Int32)) D2

set_option maxHeartbeats 4000000 in
set_option maxRecDepth 20000 in
theorem e_L_told (l : Launch) (E : eE) (d : Nat)  (D : dT) : ev l E (d + 4) yL_told cL_told 5 (some .long) 0 [(0, .inr (.inr 18))] [] D eJ (F_L_told D) := by
  unfold F_L_told
  refine ev_s (fun Q k => rn_ldc2 (v := 3) cn_L_8 dL_told_0 k) ?_
  refine ev_s (fun Q k => rn_lstore_n (j := 1) (ls' := [(1, .inr (.inl (3 : Int64))), (0, .inr (.inr 18))]) rfl (by decide) rfl dL_told_3 k) ?_
  refine ev_s (fun Q k => rn_iconst (v := 0) (by decide) dL_told_4 k) ?_
  refine ev_s (fun Q k => rn_istore_n (j := 3) (ls' := [(3, .inl (0 : Int32)), (1, .inr (.inl (3 : Int64))), (0, .inr (.inr 18))]) rfl (by decide) rfl dL_told_5 k) ?_
  refine ev_s (fun Q k => rn_sub (ls' := [(0, .inr (.inr 18)), (1, .inr (.inl (3 : Int64))), (3, .inl (0 : Int32))]) [2, 1, 0] rfl k) ?_
  exact e_L_told_6 l E d   lim (3 : Int64) (0 : Int32) D

def F_L_low (x1 : Int32) (x2 : Int32) (D : dT) : Option (Int32 × dT) := if ¬ x2 = 0 then some (((x1 &&& (2147483647 : Int32)) - (x1 &&& (2147483647 : Int32)) / x2 * x2), D) else none
set_option maxHeartbeats 4000000 in
set_option maxRecDepth 20000 in
theorem e_L_low (l : Launch) (E : eE) (d : Nat) (x1 : Int32) (x2 : Int32) (D : dT) : ev l E d yL_low cL_low 2 (some .int) 0 [(0, .inl x1), (1, .inl x2)] [] D eI (F_L_low x1 x2 D) := by
  unfold F_L_low
  refine ev_s (fun Q k => rn_iload_n (j := 0) 0 rfl rfl dL_low_0 k) ?_
  refine ev_s (fun Q k => rn_ldc (v := 2147483647) cn_L_7 dL_low_1 k) ?_
  refine ev_s (fun Q k => rn_iand dL_low_3 k) ?_
  refine ev_s (fun Q k => rn_iload_n (j := 1) 1 rfl rfl dL_low_4 k) ?_
  refine ev_gd (fun g1 => ?_)
  refine ev_s (fun Q k => rn_irem g1 dL_low_5 k) ?_
  exact ev_ret (fun Q q => rn_ret q .int rfl rfl dL_low_6)

def F_L_act_157 (x2 : Int32) (x3 : Int32)  (s0 : Int32) (s1 : Int32) (s2 : Int32) (D : dT) : Option (Int32 × dT) := bd (F_L_low s1 s0 D) (fun (r1 : Int32) (D2 : dT) => bd (F_L_low (x3 >>> ((6 : Int32) &&& 31)) (10 : Int32) D2) (fun (r3 : Int32) (D4 : dT) => bd (F_L_low (x3 >>> ((8 : Int32) &&& 31)) (4 : Int32) D4) (fun (r5 : Int32) (D6 : dT) => bd (F_L_low (x3 >>> ((10 : Int32) &&& 31)) (40 : Int32) D6) (fun (r7 : Int32) (D8 : dT) => bd (F_X5_job s2 r1 r3 r5 r7 D8) (fun (r9 : Int32) (D10 : dT) => some (r9, D10))))))
def F_L_act_135 (x2 : Int32) (x3 : Int32)  (s0 : Int32) (s1 : Int32) (s2 : Int32) (D : dT) : Option (Int32 × dT) := bd (F_L_low s1 s0 D) (fun (r1 : Int32) (D2 : dT) => if ((x3 >>> ((21 : Int32) &&& 31)) &&& (1 : Int32)) = 0 then F_L_act_157 x2 x3 (1 : Int32) (x3 >>> ((3 : Int32) &&& 31)) (s2 + r1) D2 else F_L_act_157 x2 x3 (11 : Int32) (x3 >>> ((3 : Int32) &&& 31)) (s2 + r1) D2)
def F_L_act_236 (x2 : Int32) (x3 : Int32)  (s0 : Int32) (s1 : Int32) (s2 : Int32) (D : dT) : Option (Int32 × dT) := bd (F_X5_begin s2 s1 s0 D) (fun (r1 : Int32) (D2 : dT) => some (r1, D2))
def F_L_act (x2 : Int32) (x3 : Int32) (D : dT) : Option (Int32 × dT) := bd (F_X5_count (3 : Int32) D) (fun (r1 : Int32) (D2 : dT) => bd (F_L_low (x2 >>> ((4 : Int32) &&& 31)) (r1 + (1 : Int32)) D2) (fun (r3 : Int32) (D4 : dT) => if (x2 &&& (15 : Int32)) = (0 : Int32) then bd (F_L_low x3 (4 : Int32) D4) (fun (r5 : Int32) (D6 : dT) => bd (F_L_low (x3 >>> ((2 : Int32) &&& 31)) (22 : Int32) D6) (fun (r7 : Int32) (D8 : dT) => bd (F_X5_set r5 r7 D8) (fun (r9 : Int32) (D10 : dT) => some (r9, D10)))) else if (x2 &&& (15 : Int32)) = (1 : Int32) then bd (F_L_low x3 (145 : Int32) D4) (fun (r13 : Int32) (D14 : dT) => bd (F_X5_person ((8 : Int32) + r13) D14) (fun (r15 : Int32) (D16 : dT) => some (r15, D16))) else if (x2 &&& (15 : Int32)) = (2 : Int32) then bd (F_L_low x3 (145 : Int32) D4) (fun (r19 : Int32) (D20 : dT) => bd (F_X5_person ((8 : Int32) + r19) D20) (fun (r21 : Int32) (D22 : dT) => some (r21, D22))) else if (x2 &&& (15 : Int32)) = (3 : Int32) then if ((x3 >>> ((20 : Int32) &&& 31)) &&& (1 : Int32)) = 0 then F_L_act_135 x2 x3 (150 : Int32) x3 (45 : Int32) D4 else F_L_act_135 x2 x3 (560 : Int32) x3 (45 : Int32) D4 else if (x2 &&& (15 : Int32)) = (4 : Int32) then if ((x3 >>> ((20 : Int32) &&& 31)) &&& (1 : Int32)) = 0 then F_L_act_135 x2 x3 (150 : Int32) x3 (45 : Int32) D4 else F_L_act_135 x2 x3 (560 : Int32) x3 (45 : Int32) D4 else if (x2 &&& (15 : Int32)) = (5 : Int32) then bd (F_L_low x3 (4 : Int32) D4) (fun (r33 : Int32) (D34 : dT) => bd (F_X5_buy r33 D34) (fun (r35 : Int32) (D36 : dT) => some (r35, D36))) else if (x2 &&& (15 : Int32)) = (6 : Int32) then bd (F_X5_count (1 : Int32) D4) (fun (r39 : Int32) (D40 : dT) => bd (F_L_low x3 ((1 : Int32) <<< ((r39 + (1 : Int32)) &&& 31)) D40) (fun (r41 : Int32) (D42 : dT) => if ((x3 >>> ((12 : Int32) &&& 31)) &&& (3 : Int32)) = (3 : Int32) then F_L_act_236 x2 x3 (-6 : Int32) r41 r3 D42 else F_L_act_236 x2 x3 ((x3 >>> ((12 : Int32) &&& 31)) &&& (3 : Int32)) r41 r3 D42)) else if (x2 &&& (15 : Int32)) = (7 : Int32) then bd (F_X5_count (1 : Int32) D4) (fun (r47 : Int32) (D48 : dT) => bd (F_L_low x3 ((1 : Int32) <<< ((r47 + (1 : Int32)) &&& 31)) D48) (fun (r49 : Int32) (D50 : dT) => if ((x3 >>> ((12 : Int32) &&& 31)) &&& (3 : Int32)) = (3 : Int32) then F_L_act_236 x2 x3 (-6 : Int32) r49 r3 D50 else F_L_act_236 x2 x3 ((x3 >>> ((12 : Int32) &&& 31)) &&& (3 : Int32)) r49 r3 D50)) else if (x2 &&& (15 : Int32)) = (8 : Int32) then bd (F_X5_assign  D4) (fun (r55 : Int32) (D56 : dT) => some (r55, D56)) else if (x2 &&& (15 : Int32)) = (9 : Int32) then bd (F_X5_assign  D4) (fun (r59 : Int32) (D60 : dT) => some (r59, D60)) else if (x2 &&& (15 : Int32)) = (10 : Int32) then bd (F_L_low x3 (22 : Int32) D4) (fun (r63 : Int32) (D64 : dT) => bd (F_X5_delay r3 r63 D64) (fun (r65 : Int32) (D66 : dT) => some (r65, D66))) else if (x2 &&& (15 : Int32)) = (11 : Int32) then if (x3 &&& (3 : Int32)) = 0 then bd (F_X5_callOff r3 D4) (fun (r69 : Int32) (D70 : dT) => some (r69, D70)) else bd (F_X5_assign  D4) (fun (r71 : Int32) (D72 : dT) => some (r71, D72)) else bd (F_L_low x3 (9 : Int32) D4) (fun (r77 : Int32) (D78 : dT) => bd (F_X5_pass r77 D78) (fun (r79 : Int32) (D80 : dT) => some (r79, D80)))))
set_option maxHeartbeats 4000000 in
set_option maxRecDepth 20000 in
theorem e_L_act_157 (l : Launch) (E : eE) (d : Nat) (x2 : Int32) (x3 : Int32)  (s0 : Int32) (s1 : Int32) (s2 : Int32) (D : dT) : ev l E (d + 7) yL_act cL_act 4 (some .int) 157 [(2, .inl x3)] [.inl s0, .inl s1, .inl s2, .inr (.inr 18)] D eI (F_L_act_157 x2 x3 s0 s1 s2 D) := by
  unfold F_L_act_157
  refine ev_bindI (as := [.inl s1, .inl s0]) (fun Q Q1 => rn_callS (as := [.inl s1, .inl s0]) (rest := [.inl s2, .inr (.inr 18)]) m_L_28 dL_act_157 rfl rfl (Nat.le_of_ble_eq_true rfl)) pl_L_low (Nat.le_of_ble_eq_true rfl) rfl (e_L_low l E (d + 6) s1 s0 D) (fun r1 D2 => ?_)
  refine ev_s (fun Q k => rn_iload_n (j := 2) 0 rfl rfl dL_act_160 k) ?_
  refine ev_s (fun Q k => rn_bipush (v := 6) (by decide) dL_act_161 k) ?_
  refine ev_s (fun Q k => rn_ishr dL_act_163 k) ?_
  refine ev_s (fun Q k => rn_bipush (v := 10) (by decide) dL_act_164 k) ?_
  refine ev_bindI (as := [.inl (x3 >>> ((6 : Int32) &&& 31)), .inl (10 : Int32)]) (fun Q Q1 => rn_callS (as := [.inl (x3 >>> ((6 : Int32) &&& 31)), .inl (10 : Int32)]) (rest := [.inl r1, .inl s2, .inr (.inr 18)]) m_L_28 dL_act_166 rfl rfl (Nat.le_of_ble_eq_true rfl)) pl_L_low (Nat.le_of_ble_eq_true rfl) rfl (e_L_low l E (d + 6) (x3 >>> ((6 : Int32) &&& 31)) (10 : Int32) D2) (fun r3 D4 => ?_)
  refine ev_s (fun Q k => rn_iload_n (j := 2) 0 rfl rfl dL_act_169 k) ?_
  refine ev_s (fun Q k => rn_bipush (v := 8) (by decide) dL_act_170 k) ?_
  refine ev_s (fun Q k => rn_ishr dL_act_172 k) ?_
  refine ev_s (fun Q k => rn_iconst (v := 4) (by decide) dL_act_173 k) ?_
  refine ev_bindI (as := [.inl (x3 >>> ((8 : Int32) &&& 31)), .inl (4 : Int32)]) (fun Q Q1 => rn_callS (as := [.inl (x3 >>> ((8 : Int32) &&& 31)), .inl (4 : Int32)]) (rest := [.inl r3, .inl r1, .inl s2, .inr (.inr 18)]) m_L_28 dL_act_174 rfl rfl (Nat.le_of_ble_eq_true rfl)) pl_L_low (Nat.le_of_ble_eq_true rfl) rfl (e_L_low l E (d + 6) (x3 >>> ((8 : Int32) &&& 31)) (4 : Int32) D4) (fun r5 D6 => ?_)
  refine ev_s (fun Q k => rn_iload_n (j := 2) 0 rfl rfl dL_act_177 k) ?_
  refine ev_s (fun Q k => rn_bipush (v := 10) (by decide) dL_act_178 k) ?_
  refine ev_s (fun Q k => rn_ishr dL_act_180 k) ?_
  refine ev_s (fun Q k => rn_bipush (v := 40) (by decide) dL_act_181 k) ?_
  refine ev_bindI (as := [.inl (x3 >>> ((10 : Int32) &&& 31)), .inl (40 : Int32)]) (fun Q Q1 => rn_callS (as := [.inl (x3 >>> ((10 : Int32) &&& 31)), .inl (40 : Int32)]) (rest := [.inl r5, .inl r3, .inl r1, .inl s2, .inr (.inr 18)]) m_L_28 dL_act_183 rfl rfl (Nat.le_of_ble_eq_true rfl)) pl_L_low (Nat.le_of_ble_eq_true rfl) rfl (e_L_low l E (d + 6) (x3 >>> ((10 : Int32) &&& 31)) (40 : Int32) D6) (fun r7 D8 => ?_)
  refine ev_bindI (as := [.inr (.inr 18), .inl s2, .inl r1, .inl r3, .inl r5, .inl r7]) (fun Q Q1 => rn_callV (as := [.inl s2, .inl r1, .inl r3, .inl r5, .inl r7]) (rest := []) (o := 18) m_L_39 dL_act_186 (rcv_own ok_18.1 ok_18.2.1 (by decide) (okO_1 ok_18)) rfl rfl (Nat.le_of_ble_eq_true rfl)) pl_X5_job (Nat.le_of_ble_eq_true rfl) rfl (e_X5_job l E (d + 3) s2 r1 r3 r5 r7 D8) (fun r9 D10 => ?_)
  exact ev_ret (fun Q q => rn_ret q .int rfl rfl dL_act_189)

set_option maxHeartbeats 4000000 in
set_option maxRecDepth 20000 in
theorem e_L_act_135 (l : Launch) (E : eE) (d : Nat) (x2 : Int32) (x3 : Int32)  (s0 : Int32) (s1 : Int32) (s2 : Int32) (D : dT) : ev l E (d + 7) yL_act cL_act 4 (some .int) 135 [(2, .inl x3)] [.inl s0, .inl s1, .inl s2, .inr (.inr 18)] D eI (F_L_act_135 x2 x3 s0 s1 s2 D) := by
  unfold F_L_act_135
  refine ev_bindI (as := [.inl s1, .inl s0]) (fun Q Q1 => rn_callS (as := [.inl s1, .inl s0]) (rest := [.inl s2, .inr (.inr 18)]) m_L_28 dL_act_135 rfl rfl (Nat.le_of_ble_eq_true rfl)) pl_L_low (Nat.le_of_ble_eq_true rfl) rfl (e_L_low l E (d + 6) s1 s0 D) (fun r1 D2 => ?_)
  refine ev_s (fun Q k => rn_iadd dL_act_138 k) ?_
  refine ev_s (fun Q k => rn_iload_n (j := 2) 0 rfl rfl dL_act_139 k) ?_
  refine ev_s (fun Q k => rn_iconst (v := 3) (by decide) dL_act_140 k) ?_
  refine ev_s (fun Q k => rn_ishr dL_act_141 k) ?_
  refine ev_s (fun Q k => rn_iload_n (j := 2) 0 rfl rfl dL_act_142 k) ?_
  refine ev_s (fun Q k => rn_bipush (v := 21) (by decide) dL_act_143 k) ?_
  refine ev_s (fun Q k => rn_ishr dL_act_145 k) ?_
  refine ev_s (fun Q k => rn_iconst (v := 1) (by decide) dL_act_146 k) ?_
  refine ev_s (fun Q k => rn_iand dL_act_147 k) ?_
  refine ev_if (fun Q => rn_if_ne (tgt := 155) dL_act_148 (by decide)) (fun c3 => ?_) (fun c4 => ?_)
  · refine ev_s (fun Q k => rn_iconst (v := 1) (by decide) dL_act_151 k) ?_
    refine ev_s (fun Q k => rn_goto (tgt := 157) dL_act_152 (by decide) k) ?_
    exact e_L_act_157 l E d x2 x3   (1 : Int32) (x3 >>> ((3 : Int32) &&& 31)) (s2 + r1) D2
  · refine ev_s (fun Q k => rn_bipush (v := 11) (by decide) dL_act_155 k) ?_
    exact e_L_act_157 l E d x2 x3   (11 : Int32) (x3 >>> ((3 : Int32) &&& 31)) (s2 + r1) D2

set_option maxHeartbeats 4000000 in
set_option maxRecDepth 20000 in
theorem e_L_act_236 (l : Launch) (E : eE) (d : Nat) (x2 : Int32) (x3 : Int32)  (s0 : Int32) (s1 : Int32) (s2 : Int32) (D : dT) : ev l E (d + 7) yL_act cL_act 4 (some .int) 236 [] [.inl s0, .inl s1, .inl s2, .inr (.inr 18)] D eI (F_L_act_236 x2 x3 s0 s1 s2 D) := by
  unfold F_L_act_236
  refine ev_bindI (as := [.inr (.inr 18), .inl s2, .inl s1, .inl s0]) (fun Q Q1 => rn_callV (as := [.inl s2, .inl s1, .inl s0]) (rest := []) (o := 18) m_L_46 dL_act_236 (rcv_own ok_18.1 ok_18.2.1 (by decide) (okO_1 ok_18)) rfl rfl (Nat.le_of_ble_eq_true rfl)) pl_X5_begin (Nat.le_of_ble_eq_true rfl) rfl (e_X5_begin l E (d + 2) s2 s1 s0 D) (fun r1 D2 => ?_)
  exact ev_ret (fun Q q => rn_ret q .int rfl rfl dL_act_239)

set_option maxHeartbeats 4000000 in
set_option maxRecDepth 20000 in
theorem e_L_act (l : Launch) (E : eE) (d : Nat) (x2 : Int32) (x3 : Int32) (D : dT) : ev l E (d + 7) yL_act cL_act 4 (some .int) 0 [(0, .inr (.inr 18)), (1, .inl x2), (2, .inl x3)] [] D eI (F_L_act x2 x3 D) := by
  unfold F_L_act
  refine ev_s (fun Q k => rn_iload_n (j := 1) 1 rfl rfl dL_act_0 k) ?_
  refine ev_s (fun Q k => rn_iconst (v := 4) (by decide) dL_act_1 k) ?_
  refine ev_s (fun Q k => rn_ishr dL_act_2 k) ?_
  refine ev_s (fun Q k => rn_aload_n (j := 0) 0 rfl rfl (okO_0 ok_18) dL_act_3 k) ?_
  refine ev_s (fun Q k => rn_iconst (v := 3) (by decide) dL_act_4 k) ?_
  refine ev_bindI (as := [.inr (.inr 18), .inl (3 : Int32)]) (fun Q Q1 => rn_callV (as := [.inl (3 : Int32)]) (rest := [.inl (x2 >>> ((4 : Int32) &&& 31))]) (o := 18) m_L_12 dL_act_5 (rcv_own ok_18.1 ok_18.2.1 (by decide) (okO_1 ok_18)) rfl rfl (Nat.le_of_ble_eq_true rfl)) pl_X5_count (Nat.le_of_ble_eq_true rfl) rfl (e_X5_count l E (d + 3) (3 : Int32) D) (fun r1 D2 => ?_)
  refine ev_s (fun Q k => rn_iconst (v := 1) (by decide) dL_act_8 k) ?_
  refine ev_s (fun Q k => rn_iadd dL_act_9 k) ?_
  refine ev_bindI (as := [.inl (x2 >>> ((4 : Int32) &&& 31)), .inl (r1 + (1 : Int32))]) (fun Q Q1 => rn_callS (as := [.inl (x2 >>> ((4 : Int32) &&& 31)), .inl (r1 + (1 : Int32))]) (rest := []) m_L_28 dL_act_10 rfl rfl (Nat.le_of_ble_eq_true rfl)) pl_L_low (Nat.le_of_ble_eq_true rfl) rfl (e_L_low l E (d + 6) (x2 >>> ((4 : Int32) &&& 31)) (r1 + (1 : Int32)) D2) (fun r3 D4 => ?_)
  refine ev_s (fun Q k => rn_istore_n (j := 3) (ls' := [(3, .inl r3), (0, .inr (.inr 18)), (1, .inl x2), (2, .inl x3)]) rfl (by decide) rfl dL_act_13 k) ?_
  refine ev_s (fun Q k => rn_iload_n (j := 1) 2 rfl rfl dL_act_14 k) ?_
  refine ev_s (fun Q k => rn_bipush (v := 15) (by decide) dL_act_15 k) ?_
  refine ev_s (fun Q k => rn_iand dL_act_17 k) ?_
  refine ev_ite (fun c11 => ?_) (fun c12 => ?_)
  · refine ev_s (fun Q k => rn_tswI (off := 62) (tgt := 80) dL_act_18 (by rw [c11]; decide) (by rw [c11]; decide) (by rw [c11]; rfl) (by decide) k) ?_
    refine ev_s (fun Q k => rn_aload_n (j := 0) 1 rfl rfl (okO_0 ok_18) dL_act_80 k) ?_
    refine ev_s (fun Q k => rn_iload_n (j := 2) 3 rfl rfl dL_act_81 k) ?_
    refine ev_s (fun Q k => rn_iconst (v := 4) (by decide) dL_act_82 k) ?_
    refine ev_bindI (as := [.inl x3, .inl (4 : Int32)]) (fun Q Q1 => rn_callS (as := [.inl x3, .inl (4 : Int32)]) (rest := [.inr (.inr 18)]) m_L_28 dL_act_83 rfl rfl (Nat.le_of_ble_eq_true rfl)) pl_L_low (Nat.le_of_ble_eq_true rfl) rfl (e_L_low l E (d + 6) x3 (4 : Int32) D4) (fun r5 D6 => ?_)
    refine ev_s (fun Q k => rn_iload_n (j := 2) 3 rfl rfl dL_act_86 k) ?_
    refine ev_s (fun Q k => rn_iconst (v := 2) (by decide) dL_act_87 k) ?_
    refine ev_s (fun Q k => rn_ishr dL_act_88 k) ?_
    refine ev_s (fun Q k => rn_bipush (v := 22) (by decide) dL_act_89 k) ?_
    refine ev_bindI (as := [.inl (x3 >>> ((2 : Int32) &&& 31)), .inl (22 : Int32)]) (fun Q Q1 => rn_callS (as := [.inl (x3 >>> ((2 : Int32) &&& 31)), .inl (22 : Int32)]) (rest := [.inl r5, .inr (.inr 18)]) m_L_28 dL_act_91 rfl rfl (Nat.le_of_ble_eq_true rfl)) pl_L_low (Nat.le_of_ble_eq_true rfl) rfl (e_L_low l E (d + 6) (x3 >>> ((2 : Int32) &&& 31)) (22 : Int32) D6) (fun r7 D8 => ?_)
    refine ev_bindI (as := [.inr (.inr 18), .inl r5, .inl r7]) (fun Q Q1 => rn_callV (as := [.inl r5, .inl r7]) (rest := []) (o := 18) m_L_33 dL_act_94 (rcv_own ok_18.1 ok_18.2.1 (by decide) (okO_1 ok_18)) rfl rfl (Nat.le_of_ble_eq_true rfl)) pl_X5_set (Nat.le_of_ble_eq_true rfl) rfl (e_X5_set l E (d + 3) r5 r7 D8) (fun r9 D10 => ?_)
    exact ev_ret (fun Q q => rn_ret q .int rfl rfl dL_act_97)
  · refine ev_ite (fun c17 => ?_) (fun c18 => ?_)
    · refine ev_s (fun Q k => rn_tswI (off := 80) (tgt := 98) dL_act_18 (by rw [c17]; decide) (by rw [c17]; decide) (by rw [c17]; rfl) (by decide) k) ?_
      refine ev_s (fun Q k => rn_aload_n (j := 0) 1 rfl rfl (okO_0 ok_18) dL_act_98 k) ?_
      refine ev_s (fun Q k => rn_bipush (v := 8) (by decide) dL_act_99 k) ?_
      refine ev_s (fun Q k => rn_iload_n (j := 2) 3 rfl rfl dL_act_101 k) ?_
      refine ev_s (fun Q k => rn_sipush (v := 145) (by decide) dL_act_102 k) ?_
      refine ev_bindI (as := [.inl x3, .inl (145 : Int32)]) (fun Q Q1 => rn_callS (as := [.inl x3, .inl (145 : Int32)]) (rest := [.inl (8 : Int32), .inr (.inr 18)]) m_L_28 dL_act_105 rfl rfl (Nat.le_of_ble_eq_true rfl)) pl_L_low (Nat.le_of_ble_eq_true rfl) rfl (e_L_low l E (d + 6) x3 (145 : Int32) D4) (fun r13 D14 => ?_)
      refine ev_s (fun Q k => rn_iadd dL_act_108 k) ?_
      refine ev_bindI (as := [.inr (.inr 18), .inl ((8 : Int32) + r13)]) (fun Q Q1 => rn_callV (as := [.inl ((8 : Int32) + r13)]) (rest := []) (o := 18) m_L_36 dL_act_109 (rcv_own ok_18.1 ok_18.2.1 (by decide) (okO_1 ok_18)) rfl rfl (Nat.le_of_ble_eq_true rfl)) pl_X5_person (Nat.le_of_ble_eq_true rfl) rfl (e_X5_person l E (d + 3) ((8 : Int32) + r13) D14) (fun r15 D16 => ?_)
      exact ev_ret (fun Q q => rn_ret q .int rfl rfl dL_act_112)
    · refine ev_ite (fun c23 => ?_) (fun c24 => ?_)
      · refine ev_s (fun Q k => rn_tswI (off := 80) (tgt := 98) dL_act_18 (by rw [c23]; decide) (by rw [c23]; decide) (by rw [c23]; rfl) (by decide) k) ?_
        refine ev_s (fun Q k => rn_aload_n (j := 0) 1 rfl rfl (okO_0 ok_18) dL_act_98 k) ?_
        refine ev_s (fun Q k => rn_bipush (v := 8) (by decide) dL_act_99 k) ?_
        refine ev_s (fun Q k => rn_iload_n (j := 2) 3 rfl rfl dL_act_101 k) ?_
        refine ev_s (fun Q k => rn_sipush (v := 145) (by decide) dL_act_102 k) ?_
        refine ev_bindI (as := [.inl x3, .inl (145 : Int32)]) (fun Q Q1 => rn_callS (as := [.inl x3, .inl (145 : Int32)]) (rest := [.inl (8 : Int32), .inr (.inr 18)]) m_L_28 dL_act_105 rfl rfl (Nat.le_of_ble_eq_true rfl)) pl_L_low (Nat.le_of_ble_eq_true rfl) rfl (e_L_low l E (d + 6) x3 (145 : Int32) D4) (fun r19 D20 => ?_)
        refine ev_s (fun Q k => rn_iadd dL_act_108 k) ?_
        refine ev_bindI (as := [.inr (.inr 18), .inl ((8 : Int32) + r19)]) (fun Q Q1 => rn_callV (as := [.inl ((8 : Int32) + r19)]) (rest := []) (o := 18) m_L_36 dL_act_109 (rcv_own ok_18.1 ok_18.2.1 (by decide) (okO_1 ok_18)) rfl rfl (Nat.le_of_ble_eq_true rfl)) pl_X5_person (Nat.le_of_ble_eq_true rfl) rfl (e_X5_person l E (d + 3) ((8 : Int32) + r19) D20) (fun r21 D22 => ?_)
        exact ev_ret (fun Q q => rn_ret q .int rfl rfl dL_act_112)
      · refine ev_ite (fun c27 => ?_) (fun c28 => ?_)
        · refine ev_s (fun Q k => rn_tswI (off := 95) (tgt := 113) dL_act_18 (by rw [c27]; decide) (by rw [c27]; decide) (by rw [c27]; rfl) (by decide) k) ?_
          refine ev_s (fun Q k => rn_aload_n (j := 0) 1 rfl rfl (okO_0 ok_18) dL_act_113 k) ?_
          refine ev_s (fun Q k => rn_bipush (v := 45) (by decide) dL_act_114 k) ?_
          refine ev_s (fun Q k => rn_iload_n (j := 2) 3 rfl rfl dL_act_116 k) ?_
          refine ev_s (fun Q k => rn_iload_n (j := 2) 3 rfl rfl dL_act_117 k) ?_
          refine ev_s (fun Q k => rn_bipush (v := 20) (by decide) dL_act_118 k) ?_
          refine ev_s (fun Q k => rn_ishr dL_act_120 k) ?_
          refine ev_s (fun Q k => rn_iconst (v := 1) (by decide) dL_act_121 k) ?_
          refine ev_s (fun Q k => rn_iand dL_act_122 k) ?_
          refine ev_if (fun Q => rn_if_ne (tgt := 132) dL_act_123 (by decide)) (fun c25 => ?_) (fun c26 => ?_)
          · refine ev_s (fun Q k => rn_sipush (v := 150) (by decide) dL_act_126 k) ?_
            refine ev_s (fun Q k => rn_goto (tgt := 135) dL_act_129 (by decide) k) ?_
            refine ev_s (fun Q k => rn_sub (ls' := [(2, .inl x3)]) [3] rfl k) ?_
            exact e_L_act_135 l E d x2 x3   (150 : Int32) x3 (45 : Int32) D4
          · refine ev_s (fun Q k => rn_sipush (v := 560) (by decide) dL_act_132 k) ?_
            refine ev_s (fun Q k => rn_sub (ls' := [(2, .inl x3)]) [3] rfl k) ?_
            exact e_L_act_135 l E d x2 x3   (560 : Int32) x3 (45 : Int32) D4
        · refine ev_ite (fun c31 => ?_) (fun c32 => ?_)
          · refine ev_s (fun Q k => rn_tswI (off := 95) (tgt := 113) dL_act_18 (by rw [c31]; decide) (by rw [c31]; decide) (by rw [c31]; rfl) (by decide) k) ?_
            refine ev_s (fun Q k => rn_aload_n (j := 0) 1 rfl rfl (okO_0 ok_18) dL_act_113 k) ?_
            refine ev_s (fun Q k => rn_bipush (v := 45) (by decide) dL_act_114 k) ?_
            refine ev_s (fun Q k => rn_iload_n (j := 2) 3 rfl rfl dL_act_116 k) ?_
            refine ev_s (fun Q k => rn_iload_n (j := 2) 3 rfl rfl dL_act_117 k) ?_
            refine ev_s (fun Q k => rn_bipush (v := 20) (by decide) dL_act_118 k) ?_
            refine ev_s (fun Q k => rn_ishr dL_act_120 k) ?_
            refine ev_s (fun Q k => rn_iconst (v := 1) (by decide) dL_act_121 k) ?_
            refine ev_s (fun Q k => rn_iand dL_act_122 k) ?_
            refine ev_if (fun Q => rn_if_ne (tgt := 132) dL_act_123 (by decide)) (fun c29 => ?_) (fun c30 => ?_)
            · refine ev_s (fun Q k => rn_sipush (v := 150) (by decide) dL_act_126 k) ?_
              refine ev_s (fun Q k => rn_goto (tgt := 135) dL_act_129 (by decide) k) ?_
              refine ev_s (fun Q k => rn_sub (ls' := [(2, .inl x3)]) [3] rfl k) ?_
              exact e_L_act_135 l E d x2 x3   (150 : Int32) x3 (45 : Int32) D4
            · refine ev_s (fun Q k => rn_sipush (v := 560) (by decide) dL_act_132 k) ?_
              refine ev_s (fun Q k => rn_sub (ls' := [(2, .inl x3)]) [3] rfl k) ?_
              exact e_L_act_135 l E d x2 x3   (560 : Int32) x3 (45 : Int32) D4
          · refine ev_ite (fun c37 => ?_) (fun c38 => ?_)
            · refine ev_s (fun Q k => rn_tswI (off := 172) (tgt := 190) dL_act_18 (by rw [c37]; decide) (by rw [c37]; decide) (by rw [c37]; rfl) (by decide) k) ?_
              refine ev_s (fun Q k => rn_aload_n (j := 0) 1 rfl rfl (okO_0 ok_18) dL_act_190 k) ?_
              refine ev_s (fun Q k => rn_iload_n (j := 2) 3 rfl rfl dL_act_191 k) ?_
              refine ev_s (fun Q k => rn_iconst (v := 4) (by decide) dL_act_192 k) ?_
              refine ev_bindI (as := [.inl x3, .inl (4 : Int32)]) (fun Q Q1 => rn_callS (as := [.inl x3, .inl (4 : Int32)]) (rest := [.inr (.inr 18)]) m_L_28 dL_act_193 rfl rfl (Nat.le_of_ble_eq_true rfl)) pl_L_low (Nat.le_of_ble_eq_true rfl) rfl (e_L_low l E (d + 6) x3 (4 : Int32) D4) (fun r33 D34 => ?_)
              refine ev_bindI (as := [.inr (.inr 18), .inl r33]) (fun Q Q1 => rn_callV (as := [.inl r33]) (rest := []) (o := 18) m_L_43 dL_act_196 (rcv_own ok_18.1 ok_18.2.1 (by decide) (okO_1 ok_18)) rfl rfl (Nat.le_of_ble_eq_true rfl)) pl_X5_buy (Nat.le_of_ble_eq_true rfl) rfl (e_X5_buy l E (d + 3) r33 D34) (fun r35 D36 => ?_)
              exact ev_ret (fun Q q => rn_ret q .int rfl rfl dL_act_199)
            · refine ev_ite (fun c45 => ?_) (fun c46 => ?_)
              · refine ev_s (fun Q k => rn_tswI (off := 182) (tgt := 200) dL_act_18 (by rw [c45]; decide) (by rw [c45]; decide) (by rw [c45]; rfl) (by decide) k) ?_
                refine ev_s (fun Q k => rn_aload_n (j := 0) 1 rfl rfl (okO_0 ok_18) dL_act_200 k) ?_
                refine ev_s (fun Q k => rn_iload_n (j := 3) 0 rfl rfl dL_act_201 k) ?_
                refine ev_s (fun Q k => rn_iload_n (j := 2) 3 rfl rfl dL_act_202 k) ?_
                refine ev_s (fun Q k => rn_iconst (v := 1) (by decide) dL_act_203 k) ?_
                refine ev_s (fun Q k => rn_aload_n (j := 0) 1 rfl rfl (okO_0 ok_18) dL_act_204 k) ?_
                refine ev_s (fun Q k => rn_iconst (v := 1) (by decide) dL_act_205 k) ?_
                refine ev_bindI (as := [.inr (.inr 18), .inl (1 : Int32)]) (fun Q Q1 => rn_callV (as := [.inl (1 : Int32)]) (rest := [.inl (1 : Int32), .inl x3, .inl r3, .inr (.inr 18)]) (o := 18) m_L_12 dL_act_206 (rcv_own ok_18.1 ok_18.2.1 (by decide) (okO_1 ok_18)) rfl rfl (Nat.le_of_ble_eq_true rfl)) pl_X5_count (Nat.le_of_ble_eq_true rfl) rfl (e_X5_count l E (d + 3) (1 : Int32) D4) (fun r39 D40 => ?_)
                refine ev_s (fun Q k => rn_iconst (v := 1) (by decide) dL_act_209 k) ?_
                refine ev_s (fun Q k => rn_iadd dL_act_210 k) ?_
                refine ev_s (fun Q k => rn_ishl dL_act_211 k) ?_
                refine ev_bindI (as := [.inl x3, .inl ((1 : Int32) <<< ((r39 + (1 : Int32)) &&& 31))]) (fun Q Q1 => rn_callS (as := [.inl x3, .inl ((1 : Int32) <<< ((r39 + (1 : Int32)) &&& 31))]) (rest := [.inl r3, .inr (.inr 18)]) m_L_28 dL_act_212 rfl rfl (Nat.le_of_ble_eq_true rfl)) pl_L_low (Nat.le_of_ble_eq_true rfl) rfl (e_L_low l E (d + 6) x3 ((1 : Int32) <<< ((r39 + (1 : Int32)) &&& 31)) D40) (fun r41 D42 => ?_)
                refine ev_s (fun Q k => rn_iload_n (j := 2) 3 rfl rfl dL_act_215 k) ?_
                refine ev_s (fun Q k => rn_bipush (v := 12) (by decide) dL_act_216 k) ?_
                refine ev_s (fun Q k => rn_ishr dL_act_218 k) ?_
                refine ev_s (fun Q k => rn_iconst (v := 3) (by decide) dL_act_219 k) ?_
                refine ev_s (fun Q k => rn_iand dL_act_220 k) ?_
                refine ev_s (fun Q k => rn_iconst (v := 3) (by decide) dL_act_221 k) ?_
                refine ev_if (fun Q => rn_icmp_ne (tgt := 230) dL_act_222 (by decide)) (fun c43 => ?_) (fun c44 => ?_)
                · refine ev_s (fun Q k => rn_bipush (v := -6) (by decide) dL_act_225 k) ?_
                  refine ev_s (fun Q k => rn_goto (tgt := 236) dL_act_227 (by decide) k) ?_
                  refine ev_s (fun Q k => rn_sub (ls' := []) [] rfl k) ?_
                  exact e_L_act_236 l E d x2 x3   (-6 : Int32) r41 r3 D42
                · refine ev_s (fun Q k => rn_iload_n (j := 2) 3 rfl rfl dL_act_230 k) ?_
                  refine ev_s (fun Q k => rn_bipush (v := 12) (by decide) dL_act_231 k) ?_
                  refine ev_s (fun Q k => rn_ishr dL_act_233 k) ?_
                  refine ev_s (fun Q k => rn_iconst (v := 3) (by decide) dL_act_234 k) ?_
                  refine ev_s (fun Q k => rn_iand dL_act_235 k) ?_
                  refine ev_s (fun Q k => rn_sub (ls' := []) [] rfl k) ?_
                  exact e_L_act_236 l E d x2 x3   ((x3 >>> ((12 : Int32) &&& 31)) &&& (3 : Int32)) r41 r3 D42
              · refine ev_ite (fun c53 => ?_) (fun c54 => ?_)
                · refine ev_s (fun Q k => rn_tswI (off := 182) (tgt := 200) dL_act_18 (by rw [c53]; decide) (by rw [c53]; decide) (by rw [c53]; rfl) (by decide) k) ?_
                  refine ev_s (fun Q k => rn_aload_n (j := 0) 1 rfl rfl (okO_0 ok_18) dL_act_200 k) ?_
                  refine ev_s (fun Q k => rn_iload_n (j := 3) 0 rfl rfl dL_act_201 k) ?_
                  refine ev_s (fun Q k => rn_iload_n (j := 2) 3 rfl rfl dL_act_202 k) ?_
                  refine ev_s (fun Q k => rn_iconst (v := 1) (by decide) dL_act_203 k) ?_
                  refine ev_s (fun Q k => rn_aload_n (j := 0) 1 rfl rfl (okO_0 ok_18) dL_act_204 k) ?_
                  refine ev_s (fun Q k => rn_iconst (v := 1) (by decide) dL_act_205 k) ?_
                  refine ev_bindI (as := [.inr (.inr 18), .inl (1 : Int32)]) (fun Q Q1 => rn_callV (as := [.inl (1 : Int32)]) (rest := [.inl (1 : Int32), .inl x3, .inl r3, .inr (.inr 18)]) (o := 18) m_L_12 dL_act_206 (rcv_own ok_18.1 ok_18.2.1 (by decide) (okO_1 ok_18)) rfl rfl (Nat.le_of_ble_eq_true rfl)) pl_X5_count (Nat.le_of_ble_eq_true rfl) rfl (e_X5_count l E (d + 3) (1 : Int32) D4) (fun r47 D48 => ?_)
                  refine ev_s (fun Q k => rn_iconst (v := 1) (by decide) dL_act_209 k) ?_
                  refine ev_s (fun Q k => rn_iadd dL_act_210 k) ?_
                  refine ev_s (fun Q k => rn_ishl dL_act_211 k) ?_
                  refine ev_bindI (as := [.inl x3, .inl ((1 : Int32) <<< ((r47 + (1 : Int32)) &&& 31))]) (fun Q Q1 => rn_callS (as := [.inl x3, .inl ((1 : Int32) <<< ((r47 + (1 : Int32)) &&& 31))]) (rest := [.inl r3, .inr (.inr 18)]) m_L_28 dL_act_212 rfl rfl (Nat.le_of_ble_eq_true rfl)) pl_L_low (Nat.le_of_ble_eq_true rfl) rfl (e_L_low l E (d + 6) x3 ((1 : Int32) <<< ((r47 + (1 : Int32)) &&& 31)) D48) (fun r49 D50 => ?_)
                  refine ev_s (fun Q k => rn_iload_n (j := 2) 3 rfl rfl dL_act_215 k) ?_
                  refine ev_s (fun Q k => rn_bipush (v := 12) (by decide) dL_act_216 k) ?_
                  refine ev_s (fun Q k => rn_ishr dL_act_218 k) ?_
                  refine ev_s (fun Q k => rn_iconst (v := 3) (by decide) dL_act_219 k) ?_
                  refine ev_s (fun Q k => rn_iand dL_act_220 k) ?_
                  refine ev_s (fun Q k => rn_iconst (v := 3) (by decide) dL_act_221 k) ?_
                  refine ev_if (fun Q => rn_icmp_ne (tgt := 230) dL_act_222 (by decide)) (fun c51 => ?_) (fun c52 => ?_)
                  · refine ev_s (fun Q k => rn_bipush (v := -6) (by decide) dL_act_225 k) ?_
                    refine ev_s (fun Q k => rn_goto (tgt := 236) dL_act_227 (by decide) k) ?_
                    refine ev_s (fun Q k => rn_sub (ls' := []) [] rfl k) ?_
                    exact e_L_act_236 l E d x2 x3   (-6 : Int32) r49 r3 D50
                  · refine ev_s (fun Q k => rn_iload_n (j := 2) 3 rfl rfl dL_act_230 k) ?_
                    refine ev_s (fun Q k => rn_bipush (v := 12) (by decide) dL_act_231 k) ?_
                    refine ev_s (fun Q k => rn_ishr dL_act_233 k) ?_
                    refine ev_s (fun Q k => rn_iconst (v := 3) (by decide) dL_act_234 k) ?_
                    refine ev_s (fun Q k => rn_iand dL_act_235 k) ?_
                    refine ev_s (fun Q k => rn_sub (ls' := []) [] rfl k) ?_
                    exact e_L_act_236 l E d x2 x3   ((x3 >>> ((12 : Int32) &&& 31)) &&& (3 : Int32)) r49 r3 D50
                · refine ev_ite (fun c57 => ?_) (fun c58 => ?_)
                  · refine ev_s (fun Q k => rn_tswI (off := 222) (tgt := 240) dL_act_18 (by rw [c57]; decide) (by rw [c57]; decide) (by rw [c57]; rfl) (by decide) k) ?_
                    refine ev_s (fun Q k => rn_aload_n (j := 0) 1 rfl rfl (okO_0 ok_18) dL_act_240 k) ?_
                    refine ev_bindI (as := [.inr (.inr 18)]) (fun Q Q1 => rn_callV (as := []) (rest := []) (o := 18) m_L_50 dL_act_241 (rcv_own ok_18.1 ok_18.2.1 (by decide) (okO_1 ok_18)) rfl rfl (Nat.le_of_ble_eq_true rfl)) pl_X5_assign (Nat.le_of_ble_eq_true rfl) rfl (e_X5_assign l E (d + 1)  D4) (fun r55 D56 => ?_)
                    exact ev_ret (fun Q q => rn_ret q .int rfl rfl dL_act_244)
                  · refine ev_ite (fun c61 => ?_) (fun c62 => ?_)
                    · refine ev_s (fun Q k => rn_tswI (off := 222) (tgt := 240) dL_act_18 (by rw [c61]; decide) (by rw [c61]; decide) (by rw [c61]; rfl) (by decide) k) ?_
                      refine ev_s (fun Q k => rn_aload_n (j := 0) 1 rfl rfl (okO_0 ok_18) dL_act_240 k) ?_
                      refine ev_bindI (as := [.inr (.inr 18)]) (fun Q Q1 => rn_callV (as := []) (rest := []) (o := 18) m_L_50 dL_act_241 (rcv_own ok_18.1 ok_18.2.1 (by decide) (okO_1 ok_18)) rfl rfl (Nat.le_of_ble_eq_true rfl)) pl_X5_assign (Nat.le_of_ble_eq_true rfl) rfl (e_X5_assign l E (d + 1)  D4) (fun r59 D60 => ?_)
                      exact ev_ret (fun Q q => rn_ret q .int rfl rfl dL_act_244)
                    · refine ev_ite (fun c67 => ?_) (fun c68 => ?_)
                      · refine ev_s (fun Q k => rn_tswI (off := 227) (tgt := 245) dL_act_18 (by rw [c67]; decide) (by rw [c67]; decide) (by rw [c67]; rfl) (by decide) k) ?_
                        refine ev_s (fun Q k => rn_aload_n (j := 0) 1 rfl rfl (okO_0 ok_18) dL_act_245 k) ?_
                        refine ev_s (fun Q k => rn_iload_n (j := 3) 0 rfl rfl dL_act_246 k) ?_
                        refine ev_s (fun Q k => rn_iload_n (j := 2) 3 rfl rfl dL_act_247 k) ?_
                        refine ev_s (fun Q k => rn_bipush (v := 22) (by decide) dL_act_248 k) ?_
                        refine ev_bindI (as := [.inl x3, .inl (22 : Int32)]) (fun Q Q1 => rn_callS (as := [.inl x3, .inl (22 : Int32)]) (rest := [.inl r3, .inr (.inr 18)]) m_L_28 dL_act_250 rfl rfl (Nat.le_of_ble_eq_true rfl)) pl_L_low (Nat.le_of_ble_eq_true rfl) rfl (e_L_low l E (d + 6) x3 (22 : Int32) D4) (fun r63 D64 => ?_)
                        refine ev_bindI (as := [.inr (.inr 18), .inl r3, .inl r63]) (fun Q Q1 => rn_callV (as := [.inl r3, .inl r63]) (rest := []) (o := 18) m_L_54 dL_act_253 (rcv_own ok_18.1 ok_18.2.1 (by decide) (okO_1 ok_18)) rfl rfl (Nat.le_of_ble_eq_true rfl)) pl_X5_delay (Nat.le_of_ble_eq_true rfl) rfl (e_X5_delay l E (d + 3) r3 r63 D64) (fun r65 D66 => ?_)
                        exact ev_ret (fun Q q => rn_ret q .int rfl rfl dL_act_256)
                      · refine ev_ite (fun c75 => ?_) (fun c76 => ?_)
                        · refine ev_s (fun Q k => rn_tswI (off := 239) (tgt := 257) dL_act_18 (by rw [c75]; decide) (by rw [c75]; decide) (by rw [c75]; rfl) (by decide) k) ?_
                          refine ev_s (fun Q k => rn_iload_n (j := 2) 3 rfl rfl dL_act_257 k) ?_
                          refine ev_s (fun Q k => rn_iconst (v := 3) (by decide) dL_act_258 k) ?_
                          refine ev_s (fun Q k => rn_iand dL_act_259 k) ?_
                          refine ev_if (fun Q => rn_if_ne (tgt := 271) dL_act_260 (by decide)) (fun c73 => ?_) (fun c74 => ?_)
                          · refine ev_s (fun Q k => rn_aload_n (j := 0) 1 rfl rfl (okO_0 ok_18) dL_act_263 k) ?_
                            refine ev_s (fun Q k => rn_iload_n (j := 3) 0 rfl rfl dL_act_264 k) ?_
                            refine ev_bindI (as := [.inr (.inr 18), .inl r3]) (fun Q Q1 => rn_callV (as := [.inl r3]) (rest := []) (o := 18) m_L_57 dL_act_265 (rcv_own ok_18.1 ok_18.2.1 (by decide) (okO_1 ok_18)) rfl rfl (Nat.le_of_ble_eq_true rfl)) pl_X5_callOff (Nat.le_of_ble_eq_true rfl) rfl (e_X5_callOff l E (d + 2) r3 D4) (fun r69 D70 => ?_)
                            refine ev_s (fun Q k => rn_goto (tgt := 275) dL_act_268 (by decide) k) ?_
                            exact ev_ret (fun Q q => rn_ret q .int rfl rfl dL_act_275)
                          · refine ev_s (fun Q k => rn_aload_n (j := 0) 1 rfl rfl (okO_0 ok_18) dL_act_271 k) ?_
                            refine ev_bindI (as := [.inr (.inr 18)]) (fun Q Q1 => rn_callV (as := []) (rest := []) (o := 18) m_L_50 dL_act_272 (rcv_own ok_18.1 ok_18.2.1 (by decide) (okO_1 ok_18)) rfl rfl (Nat.le_of_ble_eq_true rfl)) pl_X5_assign (Nat.le_of_ble_eq_true rfl) rfl (e_X5_assign l E (d + 1)  D4) (fun r71 D72 => ?_)
                            exact ev_ret (fun Q q => rn_ret q .int rfl rfl dL_act_275)
                        · have z0 := lv_neT (k := 0) (a := 0) c12 (by decide)
                          have z1 := lv_neT (k := 1) (a := 1) c18 (by decide)
                          have z2 := lv_neT (k := 2) (a := 2) c24 (by decide)
                          have z3 := lv_neT (k := 3) (a := 3) c28 (by decide)
                          have z4 := lv_neT (k := 4) (a := 4) c32 (by decide)
                          have z5 := lv_neT (k := 5) (a := 5) c38 (by decide)
                          have z6 := lv_neT (k := 6) (a := 6) c46 (by decide)
                          have z7 := lv_neT (k := 7) (a := 7) c54 (by decide)
                          have z8 := lv_neT (k := 8) (a := 8) c58 (by decide)
                          have z9 := lv_neT (k := 9) (a := 9) c62 (by decide)
                          have z10 := lv_neT (k := 10) (a := 10) c68 (by decide)
                          have z11 := lv_neT (k := 11) (a := 11) c76 (by decide)
                          refine ev_s (fun Q k => rn_tswO (tgt := 276) dL_act_18 (by omega) (by decide) k) ?_
                          refine ev_s (fun Q k => rn_aload_n (j := 0) 1 rfl rfl (okO_0 ok_18) dL_act_276 k) ?_
                          refine ev_s (fun Q k => rn_iload_n (j := 2) 3 rfl rfl dL_act_277 k) ?_
                          refine ev_s (fun Q k => rn_bipush (v := 9) (by decide) dL_act_278 k) ?_
                          refine ev_bindI (as := [.inl x3, .inl (9 : Int32)]) (fun Q Q1 => rn_callS (as := [.inl x3, .inl (9 : Int32)]) (rest := [.inr (.inr 18)]) m_L_28 dL_act_280 rfl rfl (Nat.le_of_ble_eq_true rfl)) pl_L_low (Nat.le_of_ble_eq_true rfl) rfl (e_L_low l E (d + 6) x3 (9 : Int32) D4) (fun r77 D78 => ?_)
                          refine ev_bindI (as := [.inr (.inr 18), .inl r77]) (fun Q Q1 => rn_callV (as := [.inl r77]) (rest := []) (o := 18) m_L_60 dL_act_283 (rcv_own ok_18.1 ok_18.2.1 (by decide) (okO_1 ok_18)) rfl rfl (Nat.le_of_ble_eq_true rfl)) pl_X5_pass (Nat.le_of_ble_eq_true rfl) rfl (e_X5_pass l E d r77 D78) (fun r79 D80 => ?_)
                          exact ev_ret (fun Q q => rn_ret q .int rfl rfl dL_act_286)

def F_L_holds_193  (k12 : Int32 → Int32 → Int32 → Int32 → Int32 → dT → Option (Int32 × dT)) (v2 : Int32) (v3 : Int32) (v4 : Int32) (v5 : Int32) (s0 : Int32) (s1 : Int32) (D : dT) : Option (Int32 × dT) := k12 (s1 ||| s0) v2 v3 v4 (v5 + (1 : Int32)) D
def F_L_holds_180  (k12 : Int32 → Int32 → Int32 → Int32 → Int32 → dT → Option (Int32 × dT)) (v1 : Int32) (v2 : Int32) (v3 : Int32) (v4 : Int32) (v5 : Int32) (v6 : Int32) (v7 : Int32) (D : dT) : Option (Int32 × dT) := if v6 = (1 : Int32) then F_L_holds_193 k12 v2 v3 v4 v5 v7 v1 D else F_L_holds_193 k12 v2 v3 v4 v5 (0 : Int32) v1 D
def F_L_holds_159  (k12 : Int32 → Int32 → Int32 → Int32 → Int32 → dT → Option (Int32 × dT)) (v1 : Int32) (v2 : Int32) (v3 : Int32) (v4 : Int32) (v5 : Int32) (v6 : Int32) (v7 : Int32) (s0 : Int32) (s1 : Int32) (D : dT) : Option (Int32 × dT) := if s1 = s0 then if v6 = (2 : Int32) then bd (F_X5_ofJob v5 (2 : Int32) D) (fun (r1 : Int32) (D2 : dT) => if r1 = 0 then F_L_holds_180 k12 v1 v2 v3 v4 v5 v6 v7 D2 else some ((0 : Int32), D2)) else F_L_holds_180 k12 v1 v2 v3 v4 v5 v6 v7 D else some ((0 : Int32), D)
def F_L_holds_143  (k12 : Int32 → Int32 → Int32 → Int32 → Int32 → dT → Option (Int32 × dT)) (v1 : Int32) (v2 : Int32) (v3 : Int32) (v4 : Int32) (v5 : Int32) (v6 : Int32) (v7 : Int32) (s0 : Int32) (D : dT) : Option (Int32 × dT) := bd (F_X5_ofJob v5 (11 : Int32) D) (fun (r1 : Int32) (D2 : dT) => if r1 < 0 then F_L_holds_159 k12 v1 v2 v3 v4 v5 v6 v7 (0 : Int32) s0 D2 else F_L_holds_159 k12 v1 v2 v3 v4 v5 v6 v7 (1 : Int32) s0 D2)
def F_L_holds_132  (k12 : Int32 → Int32 → Int32 → Int32 → Int32 → dT → Option (Int32 × dT)) (v1 : Int32) (v2 : Int32) (v3 : Int32) (v4 : Int32) (v5 : Int32) (v6 : Int32) (v7 : Int32) (D : dT) : Option (Int32 × dT) := if v6 = (2 : Int32) then F_L_holds_143 k12 v1 v2 v3 v4 v5 v6 v7 (1 : Int32) D else F_L_holds_143 k12 v1 v2 v3 v4 v5 v6 v7 (0 : Int32) D
def F_L_holds_122  (k12 : Int32 → Int32 → Int32 → Int32 → Int32 → dT → Option (Int32 × dT)) (v1 : Int32) (v2 : Int32) (v3 : Int32) (v4 : Int32) (v5 : Int32) (v6 : Int32) (v7 : Int32) (D : dT) : Option (Int32 × dT) := if v6 = 0 then if v7 = 0 then F_L_holds_132 k12 v1 v2 v3 v4 v5 v6 v7 D else some ((0 : Int32), D) else F_L_holds_132 k12 v1 v2 v3 v4 v5 v6 v7 D
def F_L_holds_90  (k12 : Int32 → Int32 → Int32 → Int32 → Int32 → dT → Option (Int32 × dT)) (v1 : Int32) (v2 : Int32) (v3 : Int32) (v5 : Int32) (v6 : Int32) (v7 : Int32) (s0 : Int32) (s1 : Int32) (D : dT) : Option (Int32 × dT) := if v6 = (1 : Int32) then if (v7 &&& v1) = 0 then if v7 = 0 then some ((0 : Int32), D) else bd (F_X5_ofJob v5 (2 : Int32) D) (fun (r1 : Int32) (D2 : dT) => if r1 < (1 : Int32) then some ((0 : Int32), D2) else F_L_holds_122 k12 v1 v2 v3 (s1 ||| s0) v5 v6 v7 D2) else some ((0 : Int32), D) else F_L_holds_122 k12 v1 v2 v3 (s1 ||| s0) v5 v6 v7 D
def F_L_holds_72  (k12 : Int32 → Int32 → Int32 → Int32 → Int32 → dT → Option (Int32 × dT)) (v1 : Int32) (v2 : Int32) (v4 : Int32) (v5 : Int32) (v6 : Int32) (v7 : Int32) (s0 : Int32) (s1 : Int32) (D : dT) : Option (Int32 × dT) := if v6 = (2 : Int32) then F_L_holds_90 k12 v1 v2 (s1 ||| s0) v5 v6 v7 ((1 : Int32) <<< (v5 &&& 31)) v4 D else F_L_holds_90 k12 v1 v2 (s1 ||| s0) v5 v6 v7 (0 : Int32) v4 D
def F_L_holds_55  (k12 : Int32 → Int32 → Int32 → Int32 → Int32 → dT → Option (Int32 × dT)) (v1 : Int32) (v3 : Int32) (v4 : Int32) (v5 : Int32) (v6 : Int32) (v7 : Int32) (s0 : Int32) (s1 : Int32) (D : dT) : Option (Int32 × dT) := if v6 = (1 : Int32) then F_L_holds_72 k12 v1 (s1 ||| s0) v4 v5 v6 v7 ((1 : Int32) <<< (v5 &&& 31)) v3 D else F_L_holds_72 k12 v1 (s1 ||| s0) v4 v5 v6 v7 (0 : Int32) v3 D
def F_L_holds_336  (k204 : Int32 → Int32 → Int32 → Int32 → Int32 → dT → Option (Int32 × dT)) (v1 : Int32) (v2 : Int32) (v3 : Int32) (v4 : Int32) (v5 : Int32) (s0 : Int32) (s1 : Int32) (D : dT) : Option (Int32 × dT) := if s1 = s0 then k204 v1 v2 v3 v4 (v5 + (1 : Int32)) D else some ((0 : Int32), D)
def F_L_holds_314  (k204 : Int32 → Int32 → Int32 → Int32 → Int32 → dT → Option (Int32 × dT)) (v1 : Int32) (v2 : Int32) (v3 : Int32) (v4 : Int32) (v5 : Int32) (s0 : Int32) (D : dT) : Option (Int32 × dT) := bd (F_X5_of v5 (1 : Int32) D) (fun (r1 : Int32) (D2 : dT) => bd (F_X5_of v5 (0 : Int32) D2) (fun (r3 : Int32) (D4 : dT) => if r1 = r3 then F_L_holds_336 k204 v1 v2 v3 v4 v5 (1 : Int32) s0 D4 else F_L_holds_336 k204 v1 v2 v3 v4 v5 (0 : Int32) s0 D4))
def F_L_holds_299  (k204 : Int32 → Int32 → Int32 → Int32 → Int32 → dT → Option (Int32 × dT)) (v1 : Int32) (v2 : Int32) (v3 : Int32) (v4 : Int32) (v5 : Int32) (D : dT) : Option (Int32 × dT) := bd (F_X5_of v5 (5 : Int32) D) (fun (r1 : Int32) (D2 : dT) => if r1 = 0 then F_L_holds_314 k204 v1 v2 v3 v4 v5 (1 : Int32) D2 else F_L_holds_314 k204 v1 v2 v3 v4 v5 (0 : Int32) D2)
def F_L_holds_275  (k204 : Int32 → Int32 → Int32 → Int32 → Int32 → dT → Option (Int32 × dT)) (v1 : Int32) (v2 : Int32) (v3 : Int32) (v4 : Int32) (v5 : Int32) (v6 : Int32) (s0 : Int32) (s1 : Int32) (D : dT) : Option (Int32 × dT) := if s1 = s0 then if v6 < 0 then F_L_holds_299 k204 v1 v2 v3 v4 v5 D else bd (F_X5_ofJob v6 (7 : Int32) D) (fun (r1 : Int32) (D2 : dT) => if ((r1 >>> (v5 &&& 31)) &&& (1 : Int32)) = 0 then some ((0 : Int32), D2) else F_L_holds_299 k204 v1 v2 v3 v4 v5 D2) else some ((0 : Int32), D)
def F_L_holds_260  (k204 : Int32 → Int32 → Int32 → Int32 → Int32 → dT → Option (Int32 × dT)) (v1 : Int32) (v2 : Int32) (v3 : Int32) (v4 : Int32) (v5 : Int32) (v6 : Int32) (s0 : Int32) (D : dT) : Option (Int32 × dT) := if ((v1 >>> (v5 &&& 31)) &&& (1 : Int32)) = (1 : Int32) then F_L_holds_275 k204 v1 v2 v3 v4 v5 v6 (1 : Int32) s0 D else F_L_holds_275 k204 v1 v2 v3 v4 v5 v6 (0 : Int32) s0 D
def F_L_holds_350 (fuel : Nat)   (v1 : Int32) (v2 : Int32) (v3 : Int32) (v4 : Int32) (v5 : Int32) (D : dT) : Option (Int32 × dT) := match fuel with
  | 0 => none
  | fu + 1 => if (3 : Int32) ≤ v5 then bd (F_X5_count (2 : Int32) D) (fun (r1 : Int32) (D2 : dT) => if v1 = r1 then bd (F_X5_count (4 : Int32) D2) (fun (r3 : Int32) (D4 : dT) => if v2 = r3 then bd (F_X5_count (5 : Int32) D4) (fun (r5 : Int32) (D6 : dT) => if v3 = r5 then bd (F_X5_count (6 : Int32) D6) (fun (r7 : Int32) (D8 : dT) => if v4 = r7 then some ((1 : Int32), D8) else some ((0 : Int32), D8)) else some ((0 : Int32), D6)) else some ((0 : Int32), D4)) else some ((0 : Int32), D2)) else bd (F_X5_straps v5 (1 : Int32) D) (fun (r17 : Int32) (D18 : dT) => if r17 < 0 then some ((0 : Int32), D18) else bd (F_X5_straps v5 (1 : Int32) D18) (fun (r19 : Int32) (D20 : dT) => bd (F_X5_straps v5 (0 : Int32) D20) (fun (r21 : Int32) (D22 : dT) => if r21 < r19 then some ((0 : Int32), D22) else bd (F_X5_straps v5 (0 : Int32) D22) (fun (r23 : Int32) (D24 : dT) => if r23 ≤ (9 : Int32) then F_L_holds_350 fu v1 v2 v3 v4 (v5 + (1 : Int32)) D24 else some ((0 : Int32), D24)))))
def F_L_holds_204 (fuel : Nat)   (v1 : Int32) (v2 : Int32) (v3 : Int32) (v4 : Int32) (v5 : Int32) (D : dT) : Option (Int32 × dT) := match fuel with
  | 0 => none
  | fu + 1 => bd (F_X5_count (1 : Int32) D) (fun (r1 : Int32) (D2 : dT) => if r1 ≤ v5 then F_L_holds_350 lim v1 v2 v3 v4 (0 : Int32) D2 else bd (F_X5_of v5 (2 : Int32) D2) (fun (r3 : Int32) (D4 : dT) => bd (F_X5_of v5 (1 : Int32) D4) (fun (r5 : Int32) (D6 : dT) => if r5 < 0 then some ((0 : Int32), D6) else bd (F_X5_of v5 (1 : Int32) D6) (fun (r7 : Int32) (D8 : dT) => bd (F_X5_of v5 (0 : Int32) D8) (fun (r9 : Int32) (D10 : dT) => if r9 < r7 then some ((0 : Int32), D10) else if r3 < 0 then F_L_holds_260 (fun (v1_ : Int32) (v2_ : Int32) (v3_ : Int32) (v4_ : Int32) (v5_ : Int32) (D_ : dT) => F_L_holds_204 fu v1_ v2_ v3_ v4_ v5_ D_) v1 v2 v3 v4 v5 r3 (0 : Int32) D10 else F_L_holds_260 (fun (v1_ : Int32) (v2_ : Int32) (v3_ : Int32) (v4_ : Int32) (v5_ : Int32) (D_ : dT) => F_L_holds_204 fu v1_ v2_ v3_ v4_ v5_ D_) v1 v2 v3 v4 v5 r3 (1 : Int32) D10)))))
def F_L_holds_12 (fuel : Nat)   (v1 : Int32) (v2 : Int32) (v3 : Int32) (v4 : Int32) (v5 : Int32) (D : dT) : Option (Int32 × dT) := match fuel with
  | 0 => none
  | fu + 1 => bd (F_X5_count (3 : Int32) D) (fun (r1 : Int32) (D2 : dT) => if r1 ≤ v5 then F_L_holds_204 lim v1 v2 v3 v4 (0 : Int32) D2 else bd (F_X5_ofJob v5 (5 : Int32) D2) (fun (r3 : Int32) (D4 : dT) => bd (F_X5_ofJob v5 (7 : Int32) D4) (fun (r5 : Int32) (D6 : dT) => if r3 = 0 then F_L_holds_55 (fun (v1_ : Int32) (v2_ : Int32) (v3_ : Int32) (v4_ : Int32) (v5_ : Int32) (D_ : dT) => F_L_holds_12 fu v1_ v2_ v3_ v4_ v5_ D_) v1 v3 v4 v5 r3 r5 ((1 : Int32) <<< (v5 &&& 31)) v2 D6 else F_L_holds_55 (fun (v1_ : Int32) (v2_ : Int32) (v3_ : Int32) (v4_ : Int32) (v5_ : Int32) (D_ : dT) => F_L_holds_12 fu v1_ v2_ v3_ v4_ v5_ D_) v1 v3 v4 v5 r3 r5 (0 : Int32) v2 D6)))
def F_L_holds  (D : dT) : Option (Int32 × dT) := F_L_holds_12 lim (0 : Int32) (0 : Int32) (0 : Int32) (0 : Int32) (0 : Int32) D
set_option maxHeartbeats 4000000 in
set_option maxRecDepth 20000 in
theorem e_L_holds_193 (l : Launch) (E : eE) (d : Nat)  (k12 : Int32 → Int32 → Int32 → Int32 → Int32 → dT → Option (Int32 × dT)) (hk12 : ∀ (v1 : Int32) (v2 : Int32) (v3 : Int32) (v4 : Int32) (v5 : Int32) (D : dT), ev l E (d + 4) yL_holds cL_holds 8 (some .boolean) 12 [(0, .inr (.inr 18)), (1, .inl v1), (2, .inl v2), (3, .inl v3), (4, .inl v4), (5, .inl v5)] [] D eI (k12 v1 v2 v3 v4 v5 D)) (v2 : Int32) (v3 : Int32) (v4 : Int32) (v5 : Int32) (s0 : Int32) (s1 : Int32) (D : dT) : ev l E (d + 4) yL_holds cL_holds 8 (some .boolean) 193 [(0, .inr (.inr 18)), (2, .inl v2), (3, .inl v3), (4, .inl v4), (5, .inl v5)] [.inl s0, .inl s1] D eI (F_L_holds_193 k12 v2 v3 v4 v5 s0 s1 D) := by
  unfold F_L_holds_193
  refine ev_s (fun Q k => rn_ior dL_holds_193 k) ?_
  refine ev_s (fun Q k => rn_istore_n (j := 1) (ls' := [(1, .inl (s1 ||| s0)), (0, .inr (.inr 18)), (2, .inl v2), (3, .inl v3), (4, .inl v4), (5, .inl v5)]) rfl (by decide) rfl dL_holds_194 k) ?_
  refine ev_s (fun Q k => rn_iinc (v := (v5 + (1 : Int32))) (ls' := [(5, .inl (v5 + (1 : Int32))), (1, .inl (s1 ||| s0)), (0, .inr (.inr 18)), (2, .inl v2), (3, .inl v3), (4, .inl v4)]) 5 rfl rfl (by decide) rfl dL_holds_195 k) ?_
  refine ev_s (fun Q k => rn_goto (tgt := 12) dL_holds_198 (by decide) k) ?_
  refine ev_s (fun Q k => rn_sub (ls' := [(0, .inr (.inr 18)), (1, .inl (s1 ||| s0)), (2, .inl v2), (3, .inl v3), (4, .inl v4), (5, .inl (v5 + (1 : Int32)))]) [2, 1, 3, 4, 5, 0] rfl k) ?_
  exact hk12 (s1 ||| s0) v2 v3 v4 (v5 + (1 : Int32)) D

set_option maxHeartbeats 4000000 in
set_option maxRecDepth 20000 in
theorem e_L_holds_180 (l : Launch) (E : eE) (d : Nat)  (k12 : Int32 → Int32 → Int32 → Int32 → Int32 → dT → Option (Int32 × dT)) (hk12 : ∀ (v1 : Int32) (v2 : Int32) (v3 : Int32) (v4 : Int32) (v5 : Int32) (D : dT), ev l E (d + 4) yL_holds cL_holds 8 (some .boolean) 12 [(0, .inr (.inr 18)), (1, .inl v1), (2, .inl v2), (3, .inl v3), (4, .inl v4), (5, .inl v5)] [] D eI (k12 v1 v2 v3 v4 v5 D)) (v1 : Int32) (v2 : Int32) (v3 : Int32) (v4 : Int32) (v5 : Int32) (v6 : Int32) (v7 : Int32) (D : dT) : ev l E (d + 4) yL_holds cL_holds 8 (some .boolean) 180 [(0, .inr (.inr 18)), (1, .inl v1), (2, .inl v2), (3, .inl v3), (4, .inl v4), (5, .inl v5), (6, .inl v6), (7, .inl v7)] [] D eI (F_L_holds_180 k12 v1 v2 v3 v4 v5 v6 v7 D) := by
  unfold F_L_holds_180
  refine ev_s (fun Q k => rn_iload_n (j := 1) 1 rfl rfl dL_holds_180 k) ?_
  refine ev_s (fun Q k => rn_iload (j := 6) 6 rfl dL_holds_181 k) ?_
  refine ev_s (fun Q k => rn_iconst (v := 1) (by decide) dL_holds_183 k) ?_
  refine ev_if (fun Q => rn_icmp_ne (tgt := 192) dL_holds_184 (by decide)) (fun c1 => ?_) (fun c2 => ?_)
  · refine ev_s (fun Q k => rn_iload (j := 7) 7 rfl dL_holds_187 k) ?_
    refine ev_s (fun Q k => rn_goto (tgt := 193) dL_holds_189 (by decide) k) ?_
    refine ev_s (fun Q k => rn_sub (ls' := [(0, .inr (.inr 18)), (2, .inl v2), (3, .inl v3), (4, .inl v4), (5, .inl v5)]) [0, 2, 3, 4, 5] rfl k) ?_
    exact e_L_holds_193 l E d  k12 hk12  v2 v3 v4 v5 v7 v1 D
  · refine ev_s (fun Q k => rn_iconst (v := 0) (by decide) dL_holds_192 k) ?_
    refine ev_s (fun Q k => rn_sub (ls' := [(0, .inr (.inr 18)), (2, .inl v2), (3, .inl v3), (4, .inl v4), (5, .inl v5)]) [0, 2, 3, 4, 5] rfl k) ?_
    exact e_L_holds_193 l E d  k12 hk12  v2 v3 v4 v5 (0 : Int32) v1 D

set_option maxHeartbeats 4000000 in
set_option maxRecDepth 20000 in
theorem e_L_holds_159 (l : Launch) (E : eE) (d : Nat)  (k12 : Int32 → Int32 → Int32 → Int32 → Int32 → dT → Option (Int32 × dT)) (hk12 : ∀ (v1 : Int32) (v2 : Int32) (v3 : Int32) (v4 : Int32) (v5 : Int32) (D : dT), ev l E (d + 4) yL_holds cL_holds 8 (some .boolean) 12 [(0, .inr (.inr 18)), (1, .inl v1), (2, .inl v2), (3, .inl v3), (4, .inl v4), (5, .inl v5)] [] D eI (k12 v1 v2 v3 v4 v5 D)) (v1 : Int32) (v2 : Int32) (v3 : Int32) (v4 : Int32) (v5 : Int32) (v6 : Int32) (v7 : Int32) (s0 : Int32) (s1 : Int32) (D : dT) : ev l E (d + 4) yL_holds cL_holds 8 (some .boolean) 159 [(0, .inr (.inr 18)), (1, .inl v1), (2, .inl v2), (3, .inl v3), (4, .inl v4), (5, .inl v5), (6, .inl v6), (7, .inl v7)] [.inl s0, .inl s1] D eI (F_L_holds_159 k12 v1 v2 v3 v4 v5 v6 v7 s0 s1 D) := by
  unfold F_L_holds_159
  refine ev_if (fun Q => rn_icmp_ne (tgt := 178) dL_holds_159 (by decide)) (fun c7 => ?_) (fun c8 => ?_)
  · refine ev_s (fun Q k => rn_iload (j := 6) 6 rfl dL_holds_162 k) ?_
    refine ev_s (fun Q k => rn_iconst (v := 2) (by decide) dL_holds_164 k) ?_
    refine ev_if (fun Q => rn_icmp_ne (tgt := 180) dL_holds_165 (by decide)) (fun c5 => ?_) (fun c6 => ?_)
    · refine ev_s (fun Q k => rn_aload_n (j := 0) 0 rfl rfl (okO_0 ok_18) dL_holds_168 k) ?_
      refine ev_s (fun Q k => rn_iload (j := 5) 5 rfl dL_holds_169 k) ?_
      refine ev_s (fun Q k => rn_iconst (v := 2) (by decide) dL_holds_171 k) ?_
      refine ev_bindI (as := [.inr (.inr 18), .inl v5, .inl (2 : Int32)]) (fun Q Q1 => rn_callV (as := [.inl v5, .inl (2 : Int32)]) (rest := []) (o := 18) m_L_22 dL_holds_172 (rcv_own ok_18.1 ok_18.2.1 (by decide) (okO_1 ok_18)) rfl rfl (Nat.le_of_ble_eq_true rfl)) pl_X5_ofJob (Nat.le_of_ble_eq_true rfl) rfl (e_X5_ofJob l E (d + 1) v5 (2 : Int32) D) (fun r1 D2 => ?_)
      refine ev_if (fun Q => rn_if_eq (tgt := 180) dL_holds_175 (by decide)) (fun c3 => ?_) (fun c4 => ?_)
      · exact e_L_holds_180 l E d  k12 hk12  v1 v2 v3 v4 v5 v6 v7 D2
      · refine ev_s (fun Q k => rn_iconst (v := 0) (by decide) dL_holds_178 k) ?_
        exact ev_ret (fun Q q => rn_ret q .boolean rfl rfl dL_holds_179)
    · exact e_L_holds_180 l E d  k12 hk12  v1 v2 v3 v4 v5 v6 v7 D
  · refine ev_s (fun Q k => rn_iconst (v := 0) (by decide) dL_holds_178 k) ?_
    exact ev_ret (fun Q q => rn_ret q .boolean rfl rfl dL_holds_179)

set_option maxHeartbeats 4000000 in
set_option maxRecDepth 20000 in
theorem e_L_holds_143 (l : Launch) (E : eE) (d : Nat)  (k12 : Int32 → Int32 → Int32 → Int32 → Int32 → dT → Option (Int32 × dT)) (hk12 : ∀ (v1 : Int32) (v2 : Int32) (v3 : Int32) (v4 : Int32) (v5 : Int32) (D : dT), ev l E (d + 4) yL_holds cL_holds 8 (some .boolean) 12 [(0, .inr (.inr 18)), (1, .inl v1), (2, .inl v2), (3, .inl v3), (4, .inl v4), (5, .inl v5)] [] D eI (k12 v1 v2 v3 v4 v5 D)) (v1 : Int32) (v2 : Int32) (v3 : Int32) (v4 : Int32) (v5 : Int32) (v6 : Int32) (v7 : Int32) (s0 : Int32) (D : dT) : ev l E (d + 4) yL_holds cL_holds 8 (some .boolean) 143 [(0, .inr (.inr 18)), (1, .inl v1), (2, .inl v2), (3, .inl v3), (4, .inl v4), (5, .inl v5), (6, .inl v6), (7, .inl v7)] [.inl s0] D eI (F_L_holds_143 k12 v1 v2 v3 v4 v5 v6 v7 s0 D) := by
  unfold F_L_holds_143
  refine ev_s (fun Q k => rn_aload_n (j := 0) 0 rfl rfl (okO_0 ok_18) dL_holds_143 k) ?_
  refine ev_s (fun Q k => rn_iload (j := 5) 5 rfl dL_holds_144 k) ?_
  refine ev_s (fun Q k => rn_bipush (v := 11) (by decide) dL_holds_146 k) ?_
  refine ev_bindI (as := [.inr (.inr 18), .inl v5, .inl (11 : Int32)]) (fun Q Q1 => rn_callV (as := [.inl v5, .inl (11 : Int32)]) (rest := [.inl s0]) (o := 18) m_L_22 dL_holds_148 (rcv_own ok_18.1 ok_18.2.1 (by decide) (okO_1 ok_18)) rfl rfl (Nat.le_of_ble_eq_true rfl)) pl_X5_ofJob (Nat.le_of_ble_eq_true rfl) rfl (e_X5_ofJob l E (d + 1) v5 (11 : Int32) D) (fun r1 D2 => ?_)
  refine ev_if (fun Q => rn_if_lt (tgt := 158) dL_holds_151 (by decide)) (fun c3 => ?_) (fun c4 => ?_)
  · refine ev_s (fun Q k => rn_iconst (v := 0) (by decide) dL_holds_158 k) ?_
    exact e_L_holds_159 l E d  k12 hk12  v1 v2 v3 v4 v5 v6 v7 (0 : Int32) s0 D2
  · refine ev_s (fun Q k => rn_iconst (v := 1) (by decide) dL_holds_154 k) ?_
    refine ev_s (fun Q k => rn_goto (tgt := 159) dL_holds_155 (by decide) k) ?_
    exact e_L_holds_159 l E d  k12 hk12  v1 v2 v3 v4 v5 v6 v7 (1 : Int32) s0 D2

set_option maxHeartbeats 4000000 in
set_option maxRecDepth 20000 in
theorem e_L_holds_132 (l : Launch) (E : eE) (d : Nat)  (k12 : Int32 → Int32 → Int32 → Int32 → Int32 → dT → Option (Int32 × dT)) (hk12 : ∀ (v1 : Int32) (v2 : Int32) (v3 : Int32) (v4 : Int32) (v5 : Int32) (D : dT), ev l E (d + 4) yL_holds cL_holds 8 (some .boolean) 12 [(0, .inr (.inr 18)), (1, .inl v1), (2, .inl v2), (3, .inl v3), (4, .inl v4), (5, .inl v5)] [] D eI (k12 v1 v2 v3 v4 v5 D)) (v1 : Int32) (v2 : Int32) (v3 : Int32) (v4 : Int32) (v5 : Int32) (v6 : Int32) (v7 : Int32) (D : dT) : ev l E (d + 4) yL_holds cL_holds 8 (some .boolean) 132 [(0, .inr (.inr 18)), (1, .inl v1), (2, .inl v2), (3, .inl v3), (4, .inl v4), (5, .inl v5), (6, .inl v6), (7, .inl v7)] [] D eI (F_L_holds_132 k12 v1 v2 v3 v4 v5 v6 v7 D) := by
  unfold F_L_holds_132
  refine ev_s (fun Q k => rn_iload (j := 6) 6 rfl dL_holds_132 k) ?_
  refine ev_s (fun Q k => rn_iconst (v := 2) (by decide) dL_holds_134 k) ?_
  refine ev_if (fun Q => rn_icmp_ne (tgt := 142) dL_holds_135 (by decide)) (fun c1 => ?_) (fun c2 => ?_)
  · refine ev_s (fun Q k => rn_iconst (v := 1) (by decide) dL_holds_138 k) ?_
    refine ev_s (fun Q k => rn_goto (tgt := 143) dL_holds_139 (by decide) k) ?_
    exact e_L_holds_143 l E d  k12 hk12  v1 v2 v3 v4 v5 v6 v7 (1 : Int32) D
  · refine ev_s (fun Q k => rn_iconst (v := 0) (by decide) dL_holds_142 k) ?_
    exact e_L_holds_143 l E d  k12 hk12  v1 v2 v3 v4 v5 v6 v7 (0 : Int32) D

set_option maxHeartbeats 4000000 in
set_option maxRecDepth 20000 in
theorem e_L_holds_122 (l : Launch) (E : eE) (d : Nat)  (k12 : Int32 → Int32 → Int32 → Int32 → Int32 → dT → Option (Int32 × dT)) (hk12 : ∀ (v1 : Int32) (v2 : Int32) (v3 : Int32) (v4 : Int32) (v5 : Int32) (D : dT), ev l E (d + 4) yL_holds cL_holds 8 (some .boolean) 12 [(0, .inr (.inr 18)), (1, .inl v1), (2, .inl v2), (3, .inl v3), (4, .inl v4), (5, .inl v5)] [] D eI (k12 v1 v2 v3 v4 v5 D)) (v1 : Int32) (v2 : Int32) (v3 : Int32) (v4 : Int32) (v5 : Int32) (v6 : Int32) (v7 : Int32) (D : dT) : ev l E (d + 4) yL_holds cL_holds 8 (some .boolean) 122 [(0, .inr (.inr 18)), (1, .inl v1), (2, .inl v2), (3, .inl v3), (4, .inl v4), (5, .inl v5), (6, .inl v6), (7, .inl v7)] [] D eI (F_L_holds_122 k12 v1 v2 v3 v4 v5 v6 v7 D) := by
  unfold F_L_holds_122
  refine ev_s (fun Q k => rn_iload (j := 6) 6 rfl dL_holds_122 k) ?_
  refine ev_if (fun Q => rn_if_ne (tgt := 132) dL_holds_124 (by decide)) (fun c3 => ?_) (fun c4 => ?_)
  · refine ev_s (fun Q k => rn_iload (j := 7) 7 rfl dL_holds_127 k) ?_
    refine ev_if (fun Q => rn_if_ne (tgt := 178) dL_holds_129 (by decide)) (fun c1 => ?_) (fun c2 => ?_)
    · exact e_L_holds_132 l E d  k12 hk12  v1 v2 v3 v4 v5 v6 v7 D
    · refine ev_s (fun Q k => rn_iconst (v := 0) (by decide) dL_holds_178 k) ?_
      exact ev_ret (fun Q q => rn_ret q .boolean rfl rfl dL_holds_179)
  · exact e_L_holds_132 l E d  k12 hk12  v1 v2 v3 v4 v5 v6 v7 D

set_option maxHeartbeats 4000000 in
set_option maxRecDepth 20000 in
theorem e_L_holds_90 (l : Launch) (E : eE) (d : Nat)  (k12 : Int32 → Int32 → Int32 → Int32 → Int32 → dT → Option (Int32 × dT)) (hk12 : ∀ (v1 : Int32) (v2 : Int32) (v3 : Int32) (v4 : Int32) (v5 : Int32) (D : dT), ev l E (d + 4) yL_holds cL_holds 8 (some .boolean) 12 [(0, .inr (.inr 18)), (1, .inl v1), (2, .inl v2), (3, .inl v3), (4, .inl v4), (5, .inl v5)] [] D eI (k12 v1 v2 v3 v4 v5 D)) (v1 : Int32) (v2 : Int32) (v3 : Int32) (v5 : Int32) (v6 : Int32) (v7 : Int32) (s0 : Int32) (s1 : Int32) (D : dT) : ev l E (d + 4) yL_holds cL_holds 8 (some .boolean) 90 [(0, .inr (.inr 18)), (1, .inl v1), (2, .inl v2), (3, .inl v3), (5, .inl v5), (6, .inl v6), (7, .inl v7)] [.inl s0, .inl s1] D eI (F_L_holds_90 k12 v1 v2 v3 v5 v6 v7 s0 s1 D) := by
  unfold F_L_holds_90
  refine ev_s (fun Q k => rn_ior dL_holds_90 k) ?_
  refine ev_s (fun Q k => rn_istore (j := 4) (ls' := [(4, .inl (s1 ||| s0)), (0, .inr (.inr 18)), (1, .inl v1), (2, .inl v2), (3, .inl v3), (5, .inl v5), (6, .inl v6), (7, .inl v7)]) (by decide) rfl dL_holds_91 k) ?_
  refine ev_s (fun Q k => rn_iload (j := 6) 6 rfl dL_holds_93 k) ?_
  refine ev_s (fun Q k => rn_iconst (v := 1) (by decide) dL_holds_95 k) ?_
  refine ev_if (fun Q => rn_icmp_ne (tgt := 122) dL_holds_96 (by decide)) (fun c9 => ?_) (fun c10 => ?_)
  · refine ev_s (fun Q k => rn_iload (j := 7) 7 rfl dL_holds_99 k) ?_
    refine ev_s (fun Q k => rn_iload_n (j := 1) 2 rfl rfl dL_holds_101 k) ?_
    refine ev_s (fun Q k => rn_iand dL_holds_102 k) ?_
    refine ev_if (fun Q => rn_if_ne (tgt := 178) dL_holds_103 (by decide)) (fun c7 => ?_) (fun c8 => ?_)
    · refine ev_s (fun Q k => rn_iload (j := 7) 7 rfl dL_holds_106 k) ?_
      refine ev_if (fun Q => rn_if_eq (tgt := 178) dL_holds_108 (by decide)) (fun c5 => ?_) (fun c6 => ?_)
      · refine ev_s (fun Q k => rn_iconst (v := 0) (by decide) dL_holds_178 k) ?_
        exact ev_ret (fun Q q => rn_ret q .boolean rfl rfl dL_holds_179)
      · refine ev_s (fun Q k => rn_aload_n (j := 0) 1 rfl rfl (okO_0 ok_18) dL_holds_111 k) ?_
        refine ev_s (fun Q k => rn_iload (j := 5) 5 rfl dL_holds_112 k) ?_
        refine ev_s (fun Q k => rn_iconst (v := 2) (by decide) dL_holds_114 k) ?_
        refine ev_bindI (as := [.inr (.inr 18), .inl v5, .inl (2 : Int32)]) (fun Q Q1 => rn_callV (as := [.inl v5, .inl (2 : Int32)]) (rest := []) (o := 18) m_L_22 dL_holds_115 (rcv_own ok_18.1 ok_18.2.1 (by decide) (okO_1 ok_18)) rfl rfl (Nat.le_of_ble_eq_true rfl)) pl_X5_ofJob (Nat.le_of_ble_eq_true rfl) rfl (e_X5_ofJob l E (d + 1) v5 (2 : Int32) D) (fun r1 D2 => ?_)
        refine ev_s (fun Q k => rn_iconst (v := 1) (by decide) dL_holds_118 k) ?_
        refine ev_if (fun Q => rn_icmp_lt (tgt := 178) dL_holds_119 (by decide)) (fun c3 => ?_) (fun c4 => ?_)
        · refine ev_s (fun Q k => rn_iconst (v := 0) (by decide) dL_holds_178 k) ?_
          exact ev_ret (fun Q q => rn_ret q .boolean rfl rfl dL_holds_179)
        · refine ev_s (fun Q k => rn_sub (ls' := [(0, .inr (.inr 18)), (1, .inl v1), (2, .inl v2), (3, .inl v3), (4, .inl (s1 ||| s0)), (5, .inl v5), (6, .inl v6), (7, .inl v7)]) [1, 2, 3, 4, 0, 5, 6, 7] rfl k) ?_
          exact e_L_holds_122 l E d  k12 hk12  v1 v2 v3 (s1 ||| s0) v5 v6 v7 D2
    · refine ev_s (fun Q k => rn_iconst (v := 0) (by decide) dL_holds_178 k) ?_
      exact ev_ret (fun Q q => rn_ret q .boolean rfl rfl dL_holds_179)
  · refine ev_s (fun Q k => rn_sub (ls' := [(0, .inr (.inr 18)), (1, .inl v1), (2, .inl v2), (3, .inl v3), (4, .inl (s1 ||| s0)), (5, .inl v5), (6, .inl v6), (7, .inl v7)]) [1, 2, 3, 4, 0, 5, 6, 7] rfl k) ?_
    exact e_L_holds_122 l E d  k12 hk12  v1 v2 v3 (s1 ||| s0) v5 v6 v7 D

set_option maxHeartbeats 4000000 in
set_option maxRecDepth 20000 in
theorem e_L_holds_72 (l : Launch) (E : eE) (d : Nat)  (k12 : Int32 → Int32 → Int32 → Int32 → Int32 → dT → Option (Int32 × dT)) (hk12 : ∀ (v1 : Int32) (v2 : Int32) (v3 : Int32) (v4 : Int32) (v5 : Int32) (D : dT), ev l E (d + 4) yL_holds cL_holds 8 (some .boolean) 12 [(0, .inr (.inr 18)), (1, .inl v1), (2, .inl v2), (3, .inl v3), (4, .inl v4), (5, .inl v5)] [] D eI (k12 v1 v2 v3 v4 v5 D)) (v1 : Int32) (v2 : Int32) (v4 : Int32) (v5 : Int32) (v6 : Int32) (v7 : Int32) (s0 : Int32) (s1 : Int32) (D : dT) : ev l E (d + 4) yL_holds cL_holds 8 (some .boolean) 72 [(0, .inr (.inr 18)), (1, .inl v1), (2, .inl v2), (4, .inl v4), (5, .inl v5), (6, .inl v6), (7, .inl v7)] [.inl s0, .inl s1] D eI (F_L_holds_72 k12 v1 v2 v4 v5 v6 v7 s0 s1 D) := by
  unfold F_L_holds_72
  refine ev_s (fun Q k => rn_ior dL_holds_72 k) ?_
  refine ev_s (fun Q k => rn_istore_n (j := 3) (ls' := [(3, .inl (s1 ||| s0)), (0, .inr (.inr 18)), (1, .inl v1), (2, .inl v2), (4, .inl v4), (5, .inl v5), (6, .inl v6), (7, .inl v7)]) rfl (by decide) rfl dL_holds_73 k) ?_
  refine ev_s (fun Q k => rn_iload (j := 4) 4 rfl dL_holds_74 k) ?_
  refine ev_s (fun Q k => rn_iload (j := 6) 6 rfl dL_holds_76 k) ?_
  refine ev_s (fun Q k => rn_iconst (v := 2) (by decide) dL_holds_78 k) ?_
  refine ev_if (fun Q => rn_icmp_ne (tgt := 89) dL_holds_79 (by decide)) (fun c1 => ?_) (fun c2 => ?_)
  · refine ev_s (fun Q k => rn_iconst (v := 1) (by decide) dL_holds_82 k) ?_
    refine ev_s (fun Q k => rn_iload (j := 5) 5 rfl dL_holds_83 k) ?_
    refine ev_s (fun Q k => rn_ishl dL_holds_85 k) ?_
    refine ev_s (fun Q k => rn_goto (tgt := 90) dL_holds_86 (by decide) k) ?_
    refine ev_s (fun Q k => rn_sub (ls' := [(0, .inr (.inr 18)), (1, .inl v1), (2, .inl v2), (3, .inl (s1 ||| s0)), (5, .inl v5), (6, .inl v6), (7, .inl v7)]) [1, 2, 3, 0, 5, 6, 7] rfl k) ?_
    exact e_L_holds_90 l E d  k12 hk12  v1 v2 (s1 ||| s0) v5 v6 v7 ((1 : Int32) <<< (v5 &&& 31)) v4 D
  · refine ev_s (fun Q k => rn_iconst (v := 0) (by decide) dL_holds_89 k) ?_
    refine ev_s (fun Q k => rn_sub (ls' := [(0, .inr (.inr 18)), (1, .inl v1), (2, .inl v2), (3, .inl (s1 ||| s0)), (5, .inl v5), (6, .inl v6), (7, .inl v7)]) [1, 2, 3, 0, 5, 6, 7] rfl k) ?_
    exact e_L_holds_90 l E d  k12 hk12  v1 v2 (s1 ||| s0) v5 v6 v7 (0 : Int32) v4 D

set_option maxHeartbeats 4000000 in
set_option maxRecDepth 20000 in
theorem e_L_holds_55 (l : Launch) (E : eE) (d : Nat)  (k12 : Int32 → Int32 → Int32 → Int32 → Int32 → dT → Option (Int32 × dT)) (hk12 : ∀ (v1 : Int32) (v2 : Int32) (v3 : Int32) (v4 : Int32) (v5 : Int32) (D : dT), ev l E (d + 4) yL_holds cL_holds 8 (some .boolean) 12 [(0, .inr (.inr 18)), (1, .inl v1), (2, .inl v2), (3, .inl v3), (4, .inl v4), (5, .inl v5)] [] D eI (k12 v1 v2 v3 v4 v5 D)) (v1 : Int32) (v3 : Int32) (v4 : Int32) (v5 : Int32) (v6 : Int32) (v7 : Int32) (s0 : Int32) (s1 : Int32) (D : dT) : ev l E (d + 4) yL_holds cL_holds 8 (some .boolean) 55 [(0, .inr (.inr 18)), (1, .inl v1), (3, .inl v3), (4, .inl v4), (5, .inl v5), (6, .inl v6), (7, .inl v7)] [.inl s0, .inl s1] D eI (F_L_holds_55 k12 v1 v3 v4 v5 v6 v7 s0 s1 D) := by
  unfold F_L_holds_55
  refine ev_s (fun Q k => rn_ior dL_holds_55 k) ?_
  refine ev_s (fun Q k => rn_istore_n (j := 2) (ls' := [(2, .inl (s1 ||| s0)), (0, .inr (.inr 18)), (1, .inl v1), (3, .inl v3), (4, .inl v4), (5, .inl v5), (6, .inl v6), (7, .inl v7)]) rfl (by decide) rfl dL_holds_56 k) ?_
  refine ev_s (fun Q k => rn_iload_n (j := 3) 3 rfl rfl dL_holds_57 k) ?_
  refine ev_s (fun Q k => rn_iload (j := 6) 6 rfl dL_holds_58 k) ?_
  refine ev_s (fun Q k => rn_iconst (v := 1) (by decide) dL_holds_60 k) ?_
  refine ev_if (fun Q => rn_icmp_ne (tgt := 71) dL_holds_61 (by decide)) (fun c1 => ?_) (fun c2 => ?_)
  · refine ev_s (fun Q k => rn_iconst (v := 1) (by decide) dL_holds_64 k) ?_
    refine ev_s (fun Q k => rn_iload (j := 5) 5 rfl dL_holds_65 k) ?_
    refine ev_s (fun Q k => rn_ishl dL_holds_67 k) ?_
    refine ev_s (fun Q k => rn_goto (tgt := 72) dL_holds_68 (by decide) k) ?_
    refine ev_s (fun Q k => rn_sub (ls' := [(0, .inr (.inr 18)), (1, .inl v1), (2, .inl (s1 ||| s0)), (4, .inl v4), (5, .inl v5), (6, .inl v6), (7, .inl v7)]) [1, 2, 0, 4, 5, 6, 7] rfl k) ?_
    exact e_L_holds_72 l E d  k12 hk12  v1 (s1 ||| s0) v4 v5 v6 v7 ((1 : Int32) <<< (v5 &&& 31)) v3 D
  · refine ev_s (fun Q k => rn_iconst (v := 0) (by decide) dL_holds_71 k) ?_
    refine ev_s (fun Q k => rn_sub (ls' := [(0, .inr (.inr 18)), (1, .inl v1), (2, .inl (s1 ||| s0)), (4, .inl v4), (5, .inl v5), (6, .inl v6), (7, .inl v7)]) [1, 2, 0, 4, 5, 6, 7] rfl k) ?_
    exact e_L_holds_72 l E d  k12 hk12  v1 (s1 ||| s0) v4 v5 v6 v7 (0 : Int32) v3 D

set_option maxHeartbeats 4000000 in
set_option maxRecDepth 20000 in
theorem e_L_holds_336 (l : Launch) (E : eE) (d : Nat)  (k204 : Int32 → Int32 → Int32 → Int32 → Int32 → dT → Option (Int32 × dT)) (hk204 : ∀ (v1 : Int32) (v2 : Int32) (v3 : Int32) (v4 : Int32) (v5 : Int32) (D : dT), ev l E (d + 4) yL_holds cL_holds 8 (some .boolean) 204 [(0, .inr (.inr 18)), (1, .inl v1), (2, .inl v2), (3, .inl v3), (4, .inl v4), (5, .inl v5)] [] D eI (k204 v1 v2 v3 v4 v5 D)) (v1 : Int32) (v2 : Int32) (v3 : Int32) (v4 : Int32) (v5 : Int32) (s0 : Int32) (s1 : Int32) (D : dT) : ev l E (d + 4) yL_holds cL_holds 8 (some .boolean) 336 [(0, .inr (.inr 18)), (1, .inl v1), (2, .inl v2), (3, .inl v3), (4, .inl v4), (5, .inl v5)] [.inl s0, .inl s1] D eI (F_L_holds_336 k204 v1 v2 v3 v4 v5 s0 s1 D) := by
  unfold F_L_holds_336
  refine ev_if (fun Q => rn_icmp_eq (tgt := 341) dL_holds_336 (by decide)) (fun c1 => ?_) (fun c2 => ?_)
  · refine ev_s (fun Q k => rn_iinc (v := (v5 + (1 : Int32))) (ls' := [(5, .inl (v5 + (1 : Int32))), (0, .inr (.inr 18)), (1, .inl v1), (2, .inl v2), (3, .inl v3), (4, .inl v4)]) 5 rfl rfl (by decide) rfl dL_holds_341 k) ?_
    refine ev_s (fun Q k => rn_goto (tgt := 204) dL_holds_344 (by decide) k) ?_
    refine ev_s (fun Q k => rn_sub (ls' := [(0, .inr (.inr 18)), (1, .inl v1), (2, .inl v2), (3, .inl v3), (4, .inl v4), (5, .inl (v5 + (1 : Int32)))]) [1, 2, 3, 4, 5, 0] rfl k) ?_
    exact hk204 v1 v2 v3 v4 (v5 + (1 : Int32)) D
  · refine ev_s (fun Q k => rn_iconst (v := 0) (by decide) dL_holds_339 k) ?_
    exact ev_ret (fun Q q => rn_ret q .boolean rfl rfl dL_holds_340)

set_option maxHeartbeats 4000000 in
set_option maxRecDepth 20000 in
theorem e_L_holds_314 (l : Launch) (E : eE) (d : Nat)  (k204 : Int32 → Int32 → Int32 → Int32 → Int32 → dT → Option (Int32 × dT)) (hk204 : ∀ (v1 : Int32) (v2 : Int32) (v3 : Int32) (v4 : Int32) (v5 : Int32) (D : dT), ev l E (d + 4) yL_holds cL_holds 8 (some .boolean) 204 [(0, .inr (.inr 18)), (1, .inl v1), (2, .inl v2), (3, .inl v3), (4, .inl v4), (5, .inl v5)] [] D eI (k204 v1 v2 v3 v4 v5 D)) (v1 : Int32) (v2 : Int32) (v3 : Int32) (v4 : Int32) (v5 : Int32) (s0 : Int32) (D : dT) : ev l E (d + 4) yL_holds cL_holds 8 (some .boolean) 314 [(0, .inr (.inr 18)), (1, .inl v1), (2, .inl v2), (3, .inl v3), (4, .inl v4), (5, .inl v5)] [.inl s0] D eI (F_L_holds_314 k204 v1 v2 v3 v4 v5 s0 D) := by
  unfold F_L_holds_314
  refine ev_s (fun Q k => rn_aload_n (j := 0) 0 rfl rfl (okO_0 ok_18) dL_holds_314 k) ?_
  refine ev_s (fun Q k => rn_iload (j := 5) 5 rfl dL_holds_315 k) ?_
  refine ev_s (fun Q k => rn_iconst (v := 1) (by decide) dL_holds_317 k) ?_
  refine ev_bindI (as := [.inr (.inr 18), .inl v5, .inl (1 : Int32)]) (fun Q Q1 => rn_callV (as := [.inl v5, .inl (1 : Int32)]) (rest := [.inl s0]) (o := 18) m_L_18 dL_holds_318 (rcv_own ok_18.1 ok_18.2.1 (by decide) (okO_1 ok_18)) rfl rfl (Nat.le_of_ble_eq_true rfl)) pl_X5_of (Nat.le_of_ble_eq_true rfl) rfl (e_X5_of l E d v5 (1 : Int32) D) (fun r1 D2 => ?_)
  refine ev_s (fun Q k => rn_aload_n (j := 0) 0 rfl rfl (okO_0 ok_18) dL_holds_321 k) ?_
  refine ev_s (fun Q k => rn_iload (j := 5) 5 rfl dL_holds_322 k) ?_
  refine ev_s (fun Q k => rn_iconst (v := 0) (by decide) dL_holds_324 k) ?_
  refine ev_bindI (as := [.inr (.inr 18), .inl v5, .inl (0 : Int32)]) (fun Q Q1 => rn_callV (as := [.inl v5, .inl (0 : Int32)]) (rest := [.inl r1, .inl s0]) (o := 18) m_L_18 dL_holds_325 (rcv_own ok_18.1 ok_18.2.1 (by decide) (okO_1 ok_18)) rfl rfl (Nat.le_of_ble_eq_true rfl)) pl_X5_of (Nat.le_of_ble_eq_true rfl) rfl (e_X5_of l E d v5 (0 : Int32) D2) (fun r3 D4 => ?_)
  refine ev_if (fun Q => rn_icmp_ne (tgt := 335) dL_holds_328 (by decide)) (fun c5 => ?_) (fun c6 => ?_)
  · refine ev_s (fun Q k => rn_iconst (v := 1) (by decide) dL_holds_331 k) ?_
    refine ev_s (fun Q k => rn_goto (tgt := 336) dL_holds_332 (by decide) k) ?_
    exact e_L_holds_336 l E d  k204 hk204  v1 v2 v3 v4 v5 (1 : Int32) s0 D4
  · refine ev_s (fun Q k => rn_iconst (v := 0) (by decide) dL_holds_335 k) ?_
    exact e_L_holds_336 l E d  k204 hk204  v1 v2 v3 v4 v5 (0 : Int32) s0 D4

set_option maxHeartbeats 4000000 in
set_option maxRecDepth 20000 in
theorem e_L_holds_299 (l : Launch) (E : eE) (d : Nat)  (k204 : Int32 → Int32 → Int32 → Int32 → Int32 → dT → Option (Int32 × dT)) (hk204 : ∀ (v1 : Int32) (v2 : Int32) (v3 : Int32) (v4 : Int32) (v5 : Int32) (D : dT), ev l E (d + 4) yL_holds cL_holds 8 (some .boolean) 204 [(0, .inr (.inr 18)), (1, .inl v1), (2, .inl v2), (3, .inl v3), (4, .inl v4), (5, .inl v5)] [] D eI (k204 v1 v2 v3 v4 v5 D)) (v1 : Int32) (v2 : Int32) (v3 : Int32) (v4 : Int32) (v5 : Int32) (D : dT) : ev l E (d + 4) yL_holds cL_holds 8 (some .boolean) 299 [(0, .inr (.inr 18)), (1, .inl v1), (2, .inl v2), (3, .inl v3), (4, .inl v4), (5, .inl v5)] [] D eI (F_L_holds_299 k204 v1 v2 v3 v4 v5 D) := by
  unfold F_L_holds_299
  refine ev_s (fun Q k => rn_aload_n (j := 0) 0 rfl rfl (okO_0 ok_18) dL_holds_299 k) ?_
  refine ev_s (fun Q k => rn_iload (j := 5) 5 rfl dL_holds_300 k) ?_
  refine ev_s (fun Q k => rn_iconst (v := 5) (by decide) dL_holds_302 k) ?_
  refine ev_bindI (as := [.inr (.inr 18), .inl v5, .inl (5 : Int32)]) (fun Q Q1 => rn_callV (as := [.inl v5, .inl (5 : Int32)]) (rest := []) (o := 18) m_L_18 dL_holds_303 (rcv_own ok_18.1 ok_18.2.1 (by decide) (okO_1 ok_18)) rfl rfl (Nat.le_of_ble_eq_true rfl)) pl_X5_of (Nat.le_of_ble_eq_true rfl) rfl (e_X5_of l E d v5 (5 : Int32) D) (fun r1 D2 => ?_)
  refine ev_if (fun Q => rn_if_ne (tgt := 313) dL_holds_306 (by decide)) (fun c3 => ?_) (fun c4 => ?_)
  · refine ev_s (fun Q k => rn_iconst (v := 1) (by decide) dL_holds_309 k) ?_
    refine ev_s (fun Q k => rn_goto (tgt := 314) dL_holds_310 (by decide) k) ?_
    exact e_L_holds_314 l E d  k204 hk204  v1 v2 v3 v4 v5 (1 : Int32) D2
  · refine ev_s (fun Q k => rn_iconst (v := 0) (by decide) dL_holds_313 k) ?_
    exact e_L_holds_314 l E d  k204 hk204  v1 v2 v3 v4 v5 (0 : Int32) D2

set_option maxHeartbeats 4000000 in
set_option maxRecDepth 20000 in
theorem e_L_holds_275 (l : Launch) (E : eE) (d : Nat)  (k204 : Int32 → Int32 → Int32 → Int32 → Int32 → dT → Option (Int32 × dT)) (hk204 : ∀ (v1 : Int32) (v2 : Int32) (v3 : Int32) (v4 : Int32) (v5 : Int32) (D : dT), ev l E (d + 4) yL_holds cL_holds 8 (some .boolean) 204 [(0, .inr (.inr 18)), (1, .inl v1), (2, .inl v2), (3, .inl v3), (4, .inl v4), (5, .inl v5)] [] D eI (k204 v1 v2 v3 v4 v5 D)) (v1 : Int32) (v2 : Int32) (v3 : Int32) (v4 : Int32) (v5 : Int32) (v6 : Int32) (s0 : Int32) (s1 : Int32) (D : dT) : ev l E (d + 4) yL_holds cL_holds 8 (some .boolean) 275 [(0, .inr (.inr 18)), (1, .inl v1), (2, .inl v2), (3, .inl v3), (4, .inl v4), (5, .inl v5), (6, .inl v6)] [.inl s0, .inl s1] D eI (F_L_holds_275 k204 v1 v2 v3 v4 v5 v6 s0 s1 D) := by
  unfold F_L_holds_275
  refine ev_if (fun Q => rn_icmp_ne (tgt := 339) dL_holds_275 (by decide)) (fun c7 => ?_) (fun c8 => ?_)
  · refine ev_s (fun Q k => rn_iload (j := 6) 6 rfl dL_holds_278 k) ?_
    refine ev_if (fun Q => rn_if_lt (tgt := 299) dL_holds_280 (by decide)) (fun c5 => ?_) (fun c6 => ?_)
    · refine ev_s (fun Q k => rn_sub (ls' := [(0, .inr (.inr 18)), (1, .inl v1), (2, .inl v2), (3, .inl v3), (4, .inl v4), (5, .inl v5)]) [0, 1, 2, 3, 4, 5] rfl k) ?_
      exact e_L_holds_299 l E d  k204 hk204  v1 v2 v3 v4 v5 D
    · refine ev_s (fun Q k => rn_aload_n (j := 0) 0 rfl rfl (okO_0 ok_18) dL_holds_283 k) ?_
      refine ev_s (fun Q k => rn_iload (j := 6) 6 rfl dL_holds_284 k) ?_
      refine ev_s (fun Q k => rn_bipush (v := 7) (by decide) dL_holds_286 k) ?_
      refine ev_bindI (as := [.inr (.inr 18), .inl v6, .inl (7 : Int32)]) (fun Q Q1 => rn_callV (as := [.inl v6, .inl (7 : Int32)]) (rest := []) (o := 18) m_L_22 dL_holds_288 (rcv_own ok_18.1 ok_18.2.1 (by decide) (okO_1 ok_18)) rfl rfl (Nat.le_of_ble_eq_true rfl)) pl_X5_ofJob (Nat.le_of_ble_eq_true rfl) rfl (e_X5_ofJob l E (d + 1) v6 (7 : Int32) D) (fun r1 D2 => ?_)
      refine ev_s (fun Q k => rn_iload (j := 5) 5 rfl dL_holds_291 k) ?_
      refine ev_s (fun Q k => rn_ishr dL_holds_293 k) ?_
      refine ev_s (fun Q k => rn_iconst (v := 1) (by decide) dL_holds_294 k) ?_
      refine ev_s (fun Q k => rn_iand dL_holds_295 k) ?_
      refine ev_if (fun Q => rn_if_eq (tgt := 339) dL_holds_296 (by decide)) (fun c3 => ?_) (fun c4 => ?_)
      · refine ev_s (fun Q k => rn_iconst (v := 0) (by decide) dL_holds_339 k) ?_
        exact ev_ret (fun Q q => rn_ret q .boolean rfl rfl dL_holds_340)
      · refine ev_s (fun Q k => rn_sub (ls' := [(0, .inr (.inr 18)), (1, .inl v1), (2, .inl v2), (3, .inl v3), (4, .inl v4), (5, .inl v5)]) [0, 1, 2, 3, 4, 5] rfl k) ?_
        exact e_L_holds_299 l E d  k204 hk204  v1 v2 v3 v4 v5 D2
  · refine ev_s (fun Q k => rn_iconst (v := 0) (by decide) dL_holds_339 k) ?_
    exact ev_ret (fun Q q => rn_ret q .boolean rfl rfl dL_holds_340)

set_option maxHeartbeats 4000000 in
set_option maxRecDepth 20000 in
theorem e_L_holds_260 (l : Launch) (E : eE) (d : Nat)  (k204 : Int32 → Int32 → Int32 → Int32 → Int32 → dT → Option (Int32 × dT)) (hk204 : ∀ (v1 : Int32) (v2 : Int32) (v3 : Int32) (v4 : Int32) (v5 : Int32) (D : dT), ev l E (d + 4) yL_holds cL_holds 8 (some .boolean) 204 [(0, .inr (.inr 18)), (1, .inl v1), (2, .inl v2), (3, .inl v3), (4, .inl v4), (5, .inl v5)] [] D eI (k204 v1 v2 v3 v4 v5 D)) (v1 : Int32) (v2 : Int32) (v3 : Int32) (v4 : Int32) (v5 : Int32) (v6 : Int32) (s0 : Int32) (D : dT) : ev l E (d + 4) yL_holds cL_holds 8 (some .boolean) 260 [(0, .inr (.inr 18)), (1, .inl v1), (2, .inl v2), (3, .inl v3), (4, .inl v4), (5, .inl v5), (6, .inl v6)] [.inl s0] D eI (F_L_holds_260 k204 v1 v2 v3 v4 v5 v6 s0 D) := by
  unfold F_L_holds_260
  refine ev_s (fun Q k => rn_iload_n (j := 1) 1 rfl rfl dL_holds_260 k) ?_
  refine ev_s (fun Q k => rn_iload (j := 5) 5 rfl dL_holds_261 k) ?_
  refine ev_s (fun Q k => rn_ishr dL_holds_263 k) ?_
  refine ev_s (fun Q k => rn_iconst (v := 1) (by decide) dL_holds_264 k) ?_
  refine ev_s (fun Q k => rn_iand dL_holds_265 k) ?_
  refine ev_s (fun Q k => rn_iconst (v := 1) (by decide) dL_holds_266 k) ?_
  refine ev_if (fun Q => rn_icmp_ne (tgt := 274) dL_holds_267 (by decide)) (fun c1 => ?_) (fun c2 => ?_)
  · refine ev_s (fun Q k => rn_iconst (v := 1) (by decide) dL_holds_270 k) ?_
    refine ev_s (fun Q k => rn_goto (tgt := 275) dL_holds_271 (by decide) k) ?_
    exact e_L_holds_275 l E d  k204 hk204  v1 v2 v3 v4 v5 v6 (1 : Int32) s0 D
  · refine ev_s (fun Q k => rn_iconst (v := 0) (by decide) dL_holds_274 k) ?_
    exact e_L_holds_275 l E d  k204 hk204  v1 v2 v3 v4 v5 v6 (0 : Int32) s0 D

set_option maxHeartbeats 4000000 in
set_option maxRecDepth 20000 in
theorem e_L_holds_350 (l : Launch) (E : eE) (d : Nat)   (fuel : Nat) : ∀ (v1 : Int32) (v2 : Int32) (v3 : Int32) (v4 : Int32) (v5 : Int32) (D : dT), ev l E (d + 4) yL_holds cL_holds 8 (some .boolean) 350 [(0, .inr (.inr 18)), (1, .inl v1), (2, .inl v2), (3, .inl v3), (4, .inl v4), (5, .inl v5)] [] D eI (F_L_holds_350 fuel v1 v2 v3 v4 v5 D) := by
  induction fuel with
  | zero =>
    intro v1 v2 v3 v4 v5 D
    exact ev_none
  | succ fu ih =>
    intro v1 v2 v3 v4 v5 D
    rw [F_L_holds_350]
    refine ev_s (fun Q k => rn_iload (j := 5) 5 rfl dL_holds_350 k) ?_
    refine ev_s (fun Q k => rn_iconst (v := 3) (by decide) dL_holds_352 k) ?_
    refine ev_if (fun Q => rn_icmp_ge (tgt := 403) dL_holds_353 (by decide)) (fun c31 => ?_) (fun c32 => ?_)
    · refine ev_s (fun Q k => rn_iload_n (j := 1) 1 rfl rfl dL_holds_403 k) ?_
      refine ev_s (fun Q k => rn_aload_n (j := 0) 0 rfl rfl (okO_0 ok_18) dL_holds_404 k) ?_
      refine ev_s (fun Q k => rn_iconst (v := 2) (by decide) dL_holds_405 k) ?_
      refine ev_bindI (as := [.inr (.inr 18), .inl (2 : Int32)]) (fun Q Q1 => rn_callV (as := [.inl (2 : Int32)]) (rest := [.inl v1]) (o := 18) m_L_12 dL_holds_406 (rcv_own ok_18.1 ok_18.2.1 (by decide) (okO_1 ok_18)) rfl rfl (Nat.le_of_ble_eq_true rfl)) pl_X5_count (Nat.le_of_ble_eq_true rfl) rfl (e_X5_count l E d (2 : Int32) D) (fun r1 D2 => ?_)
      refine ev_if (fun Q => rn_icmp_ne (tgt := 445) dL_holds_409 (by decide)) (fun c15 => ?_) (fun c16 => ?_)
      · refine ev_s (fun Q k => rn_iload_n (j := 2) 2 rfl rfl dL_holds_412 k) ?_
        refine ev_s (fun Q k => rn_aload_n (j := 0) 0 rfl rfl (okO_0 ok_18) dL_holds_413 k) ?_
        refine ev_s (fun Q k => rn_iconst (v := 4) (by decide) dL_holds_414 k) ?_
        refine ev_bindI (as := [.inr (.inr 18), .inl (4 : Int32)]) (fun Q Q1 => rn_callV (as := [.inl (4 : Int32)]) (rest := [.inl v2]) (o := 18) m_L_12 dL_holds_415 (rcv_own ok_18.1 ok_18.2.1 (by decide) (okO_1 ok_18)) rfl rfl (Nat.le_of_ble_eq_true rfl)) pl_X5_count (Nat.le_of_ble_eq_true rfl) rfl (e_X5_count l E d (4 : Int32) D2) (fun r3 D4 => ?_)
        refine ev_if (fun Q => rn_icmp_ne (tgt := 445) dL_holds_418 (by decide)) (fun c13 => ?_) (fun c14 => ?_)
        · refine ev_s (fun Q k => rn_iload_n (j := 3) 3 rfl rfl dL_holds_421 k) ?_
          refine ev_s (fun Q k => rn_aload_n (j := 0) 0 rfl rfl (okO_0 ok_18) dL_holds_422 k) ?_
          refine ev_s (fun Q k => rn_iconst (v := 5) (by decide) dL_holds_423 k) ?_
          refine ev_bindI (as := [.inr (.inr 18), .inl (5 : Int32)]) (fun Q Q1 => rn_callV (as := [.inl (5 : Int32)]) (rest := [.inl v3]) (o := 18) m_L_12 dL_holds_424 (rcv_own ok_18.1 ok_18.2.1 (by decide) (okO_1 ok_18)) rfl rfl (Nat.le_of_ble_eq_true rfl)) pl_X5_count (Nat.le_of_ble_eq_true rfl) rfl (e_X5_count l E d (5 : Int32) D4) (fun r5 D6 => ?_)
          refine ev_if (fun Q => rn_icmp_ne (tgt := 445) dL_holds_427 (by decide)) (fun c11 => ?_) (fun c12 => ?_)
          · refine ev_s (fun Q k => rn_iload (j := 4) 4 rfl dL_holds_430 k) ?_
            refine ev_s (fun Q k => rn_aload_n (j := 0) 0 rfl rfl (okO_0 ok_18) dL_holds_432 k) ?_
            refine ev_s (fun Q k => rn_bipush (v := 6) (by decide) dL_holds_433 k) ?_
            refine ev_bindI (as := [.inr (.inr 18), .inl (6 : Int32)]) (fun Q Q1 => rn_callV (as := [.inl (6 : Int32)]) (rest := [.inl v4]) (o := 18) m_L_12 dL_holds_435 (rcv_own ok_18.1 ok_18.2.1 (by decide) (okO_1 ok_18)) rfl rfl (Nat.le_of_ble_eq_true rfl)) pl_X5_count (Nat.le_of_ble_eq_true rfl) rfl (e_X5_count l E d (6 : Int32) D6) (fun r7 D8 => ?_)
            refine ev_if (fun Q => rn_icmp_ne (tgt := 445) dL_holds_438 (by decide)) (fun c9 => ?_) (fun c10 => ?_)
            · refine ev_s (fun Q k => rn_iconst (v := 1) (by decide) dL_holds_441 k) ?_
              refine ev_s (fun Q k => rn_goto (tgt := 446) dL_holds_442 (by decide) k) ?_
              exact ev_ret (fun Q q => rn_ret q .boolean rfl rfl dL_holds_446)
            · refine ev_s (fun Q k => rn_iconst (v := 0) (by decide) dL_holds_445 k) ?_
              exact ev_ret (fun Q q => rn_ret q .boolean rfl rfl dL_holds_446)
          · refine ev_s (fun Q k => rn_iconst (v := 0) (by decide) dL_holds_445 k) ?_
            exact ev_ret (fun Q q => rn_ret q .boolean rfl rfl dL_holds_446)
        · refine ev_s (fun Q k => rn_iconst (v := 0) (by decide) dL_holds_445 k) ?_
          exact ev_ret (fun Q q => rn_ret q .boolean rfl rfl dL_holds_446)
      · refine ev_s (fun Q k => rn_iconst (v := 0) (by decide) dL_holds_445 k) ?_
        exact ev_ret (fun Q q => rn_ret q .boolean rfl rfl dL_holds_446)
    · refine ev_s (fun Q k => rn_aload_n (j := 0) 0 rfl rfl (okO_0 ok_18) dL_holds_356 k) ?_
      refine ev_s (fun Q k => rn_iload (j := 5) 5 rfl dL_holds_357 k) ?_
      refine ev_s (fun Q k => rn_iconst (v := 1) (by decide) dL_holds_359 k) ?_
      refine ev_bindI (as := [.inr (.inr 18), .inl v5, .inl (1 : Int32)]) (fun Q Q1 => rn_callV (as := [.inl v5, .inl (1 : Int32)]) (rest := []) (o := 18) m_L_25 dL_holds_360 (rcv_own ok_18.1 ok_18.2.1 (by decide) (okO_1 ok_18)) rfl rfl (Nat.le_of_ble_eq_true rfl)) pl_X5_straps (Nat.le_of_ble_eq_true rfl) rfl (e_X5_straps l E (d + 2) v5 (1 : Int32) D) (fun r17 D18 => ?_)
      refine ev_if (fun Q => rn_if_lt (tgt := 395) dL_holds_363 (by decide)) (fun c29 => ?_) (fun c30 => ?_)
      · refine ev_s (fun Q k => rn_iconst (v := 0) (by decide) dL_holds_395 k) ?_
        exact ev_ret (fun Q q => rn_ret q .boolean rfl rfl dL_holds_396)
      · refine ev_s (fun Q k => rn_aload_n (j := 0) 0 rfl rfl (okO_0 ok_18) dL_holds_366 k) ?_
        refine ev_s (fun Q k => rn_iload (j := 5) 5 rfl dL_holds_367 k) ?_
        refine ev_s (fun Q k => rn_iconst (v := 1) (by decide) dL_holds_369 k) ?_
        refine ev_bindI (as := [.inr (.inr 18), .inl v5, .inl (1 : Int32)]) (fun Q Q1 => rn_callV (as := [.inl v5, .inl (1 : Int32)]) (rest := []) (o := 18) m_L_25 dL_holds_370 (rcv_own ok_18.1 ok_18.2.1 (by decide) (okO_1 ok_18)) rfl rfl (Nat.le_of_ble_eq_true rfl)) pl_X5_straps (Nat.le_of_ble_eq_true rfl) rfl (e_X5_straps l E (d + 2) v5 (1 : Int32) D18) (fun r19 D20 => ?_)
        refine ev_s (fun Q k => rn_aload_n (j := 0) 0 rfl rfl (okO_0 ok_18) dL_holds_373 k) ?_
        refine ev_s (fun Q k => rn_iload (j := 5) 5 rfl dL_holds_374 k) ?_
        refine ev_s (fun Q k => rn_iconst (v := 0) (by decide) dL_holds_376 k) ?_
        refine ev_bindI (as := [.inr (.inr 18), .inl v5, .inl (0 : Int32)]) (fun Q Q1 => rn_callV (as := [.inl v5, .inl (0 : Int32)]) (rest := [.inl r19]) (o := 18) m_L_25 dL_holds_377 (rcv_own ok_18.1 ok_18.2.1 (by decide) (okO_1 ok_18)) rfl rfl (Nat.le_of_ble_eq_true rfl)) pl_X5_straps (Nat.le_of_ble_eq_true rfl) rfl (e_X5_straps l E (d + 2) v5 (0 : Int32) D20) (fun r21 D22 => ?_)
        refine ev_if (fun Q => rn_icmp_gt (tgt := 395) dL_holds_380 (by decide)) (fun c27 => ?_) (fun c28 => ?_)
        · refine ev_s (fun Q k => rn_iconst (v := 0) (by decide) dL_holds_395 k) ?_
          exact ev_ret (fun Q q => rn_ret q .boolean rfl rfl dL_holds_396)
        · refine ev_s (fun Q k => rn_aload_n (j := 0) 0 rfl rfl (okO_0 ok_18) dL_holds_383 k) ?_
          refine ev_s (fun Q k => rn_iload (j := 5) 5 rfl dL_holds_384 k) ?_
          refine ev_s (fun Q k => rn_iconst (v := 0) (by decide) dL_holds_386 k) ?_
          refine ev_bindI (as := [.inr (.inr 18), .inl v5, .inl (0 : Int32)]) (fun Q Q1 => rn_callV (as := [.inl v5, .inl (0 : Int32)]) (rest := []) (o := 18) m_L_25 dL_holds_387 (rcv_own ok_18.1 ok_18.2.1 (by decide) (okO_1 ok_18)) rfl rfl (Nat.le_of_ble_eq_true rfl)) pl_X5_straps (Nat.le_of_ble_eq_true rfl) rfl (e_X5_straps l E (d + 2) v5 (0 : Int32) D22) (fun r23 D24 => ?_)
          refine ev_s (fun Q k => rn_bipush (v := 9) (by decide) dL_holds_390 k) ?_
          refine ev_if (fun Q => rn_icmp_le (tgt := 397) dL_holds_392 (by decide)) (fun c25 => ?_) (fun c26 => ?_)
          · refine ev_s (fun Q k => rn_iinc (v := (v5 + (1 : Int32))) (ls' := [(5, .inl (v5 + (1 : Int32))), (0, .inr (.inr 18)), (1, .inl v1), (2, .inl v2), (3, .inl v3), (4, .inl v4)]) 5 rfl rfl (by decide) rfl dL_holds_397 k) ?_
            refine ev_s (fun Q k => rn_goto (tgt := 350) dL_holds_400 (by decide) k) ?_
            refine ev_s (fun Q k => rn_sub (ls' := [(0, .inr (.inr 18)), (1, .inl v1), (2, .inl v2), (3, .inl v3), (4, .inl v4), (5, .inl (v5 + (1 : Int32)))]) [1, 2, 3, 4, 5, 0] rfl k) ?_
            exact ih v1 v2 v3 v4 (v5 + (1 : Int32)) D24
          · refine ev_s (fun Q k => rn_iconst (v := 0) (by decide) dL_holds_395 k) ?_
            exact ev_ret (fun Q q => rn_ret q .boolean rfl rfl dL_holds_396)

set_option maxHeartbeats 4000000 in
set_option maxRecDepth 20000 in
theorem e_L_holds_204 (l : Launch) (E : eE) (d : Nat)   (fuel : Nat) : ∀ (v1 : Int32) (v2 : Int32) (v3 : Int32) (v4 : Int32) (v5 : Int32) (D : dT), ev l E (d + 4) yL_holds cL_holds 8 (some .boolean) 204 [(0, .inr (.inr 18)), (1, .inl v1), (2, .inl v2), (3, .inl v3), (4, .inl v4), (5, .inl v5)] [] D eI (F_L_holds_204 fuel v1 v2 v3 v4 v5 D) := by
  induction fuel with
  | zero =>
    intro v1 v2 v3 v4 v5 D
    exact ev_none
  | succ fu ih =>
    intro v1 v2 v3 v4 v5 D
    rw [F_L_holds_204]
    refine ev_s (fun Q k => rn_iload (j := 5) 5 rfl dL_holds_204 k) ?_
    refine ev_s (fun Q k => rn_aload_n (j := 0) 0 rfl rfl (okO_0 ok_18) dL_holds_206 k) ?_
    refine ev_s (fun Q k => rn_iconst (v := 1) (by decide) dL_holds_207 k) ?_
    refine ev_bindI (as := [.inr (.inr 18), .inl (1 : Int32)]) (fun Q Q1 => rn_callV (as := [.inl (1 : Int32)]) (rest := [.inl v5]) (o := 18) m_L_12 dL_holds_208 (rcv_own ok_18.1 ok_18.2.1 (by decide) (okO_1 ok_18)) rfl rfl (Nat.le_of_ble_eq_true rfl)) pl_X5_count (Nat.le_of_ble_eq_true rfl) rfl (e_X5_count l E d (1 : Int32) D) (fun r1 D2 => ?_)
    refine ev_if (fun Q => rn_icmp_ge (tgt := 347) dL_holds_211 (by decide)) (fun c17 => ?_) (fun c18 => ?_)
    · refine ev_s (fun Q k => rn_iconst (v := 0) (by decide) dL_holds_347 k) ?_
      refine ev_s (fun Q k => rn_istore (j := 5) (ls' := [(5, .inl (0 : Int32)), (0, .inr (.inr 18)), (1, .inl v1), (2, .inl v2), (3, .inl v3), (4, .inl v4)]) (by decide) rfl dL_holds_348 k) ?_
      refine ev_s (fun Q k => rn_sub (ls' := [(0, .inr (.inr 18)), (1, .inl v1), (2, .inl v2), (3, .inl v3), (4, .inl v4), (5, .inl (0 : Int32))]) [1, 2, 3, 4, 5, 0] rfl k) ?_
      exact e_L_holds_350 l E d   lim v1 v2 v3 v4 (0 : Int32) D2
    · refine ev_s (fun Q k => rn_aload_n (j := 0) 0 rfl rfl (okO_0 ok_18) dL_holds_214 k) ?_
      refine ev_s (fun Q k => rn_iload (j := 5) 5 rfl dL_holds_215 k) ?_
      refine ev_s (fun Q k => rn_iconst (v := 2) (by decide) dL_holds_217 k) ?_
      refine ev_bindI (as := [.inr (.inr 18), .inl v5, .inl (2 : Int32)]) (fun Q Q1 => rn_callV (as := [.inl v5, .inl (2 : Int32)]) (rest := []) (o := 18) m_L_18 dL_holds_218 (rcv_own ok_18.1 ok_18.2.1 (by decide) (okO_1 ok_18)) rfl rfl (Nat.le_of_ble_eq_true rfl)) pl_X5_of (Nat.le_of_ble_eq_true rfl) rfl (e_X5_of l E d v5 (2 : Int32) D2) (fun r3 D4 => ?_)
      refine ev_s (fun Q k => rn_istore (j := 6) (ls' := [(6, .inl r3), (0, .inr (.inr 18)), (1, .inl v1), (2, .inl v2), (3, .inl v3), (4, .inl v4), (5, .inl v5)]) (by decide) rfl dL_holds_221 k) ?_
      refine ev_s (fun Q k => rn_aload_n (j := 0) 1 rfl rfl (okO_0 ok_18) dL_holds_223 k) ?_
      refine ev_s (fun Q k => rn_iload (j := 5) 6 rfl dL_holds_224 k) ?_
      refine ev_s (fun Q k => rn_iconst (v := 1) (by decide) dL_holds_226 k) ?_
      refine ev_bindI (as := [.inr (.inr 18), .inl v5, .inl (1 : Int32)]) (fun Q Q1 => rn_callV (as := [.inl v5, .inl (1 : Int32)]) (rest := []) (o := 18) m_L_18 dL_holds_227 (rcv_own ok_18.1 ok_18.2.1 (by decide) (okO_1 ok_18)) rfl rfl (Nat.le_of_ble_eq_true rfl)) pl_X5_of (Nat.le_of_ble_eq_true rfl) rfl (e_X5_of l E d v5 (1 : Int32) D4) (fun r5 D6 => ?_)
      refine ev_if (fun Q => rn_if_lt (tgt := 339) dL_holds_230 (by decide)) (fun c15 => ?_) (fun c16 => ?_)
      · refine ev_s (fun Q k => rn_iconst (v := 0) (by decide) dL_holds_339 k) ?_
        exact ev_ret (fun Q q => rn_ret q .boolean rfl rfl dL_holds_340)
      · refine ev_s (fun Q k => rn_aload_n (j := 0) 1 rfl rfl (okO_0 ok_18) dL_holds_233 k) ?_
        refine ev_s (fun Q k => rn_iload (j := 5) 6 rfl dL_holds_234 k) ?_
        refine ev_s (fun Q k => rn_iconst (v := 1) (by decide) dL_holds_236 k) ?_
        refine ev_bindI (as := [.inr (.inr 18), .inl v5, .inl (1 : Int32)]) (fun Q Q1 => rn_callV (as := [.inl v5, .inl (1 : Int32)]) (rest := []) (o := 18) m_L_18 dL_holds_237 (rcv_own ok_18.1 ok_18.2.1 (by decide) (okO_1 ok_18)) rfl rfl (Nat.le_of_ble_eq_true rfl)) pl_X5_of (Nat.le_of_ble_eq_true rfl) rfl (e_X5_of l E d v5 (1 : Int32) D6) (fun r7 D8 => ?_)
        refine ev_s (fun Q k => rn_aload_n (j := 0) 1 rfl rfl (okO_0 ok_18) dL_holds_240 k) ?_
        refine ev_s (fun Q k => rn_iload (j := 5) 6 rfl dL_holds_241 k) ?_
        refine ev_s (fun Q k => rn_iconst (v := 0) (by decide) dL_holds_243 k) ?_
        refine ev_bindI (as := [.inr (.inr 18), .inl v5, .inl (0 : Int32)]) (fun Q Q1 => rn_callV (as := [.inl v5, .inl (0 : Int32)]) (rest := [.inl r7]) (o := 18) m_L_18 dL_holds_244 (rcv_own ok_18.1 ok_18.2.1 (by decide) (okO_1 ok_18)) rfl rfl (Nat.le_of_ble_eq_true rfl)) pl_X5_of (Nat.le_of_ble_eq_true rfl) rfl (e_X5_of l E d v5 (0 : Int32) D8) (fun r9 D10 => ?_)
        refine ev_if (fun Q => rn_icmp_gt (tgt := 339) dL_holds_247 (by decide)) (fun c13 => ?_) (fun c14 => ?_)
        · refine ev_s (fun Q k => rn_iconst (v := 0) (by decide) dL_holds_339 k) ?_
          exact ev_ret (fun Q q => rn_ret q .boolean rfl rfl dL_holds_340)
        · refine ev_s (fun Q k => rn_iload (j := 6) 0 rfl dL_holds_250 k) ?_
          refine ev_if (fun Q => rn_if_lt (tgt := 259) dL_holds_252 (by decide)) (fun c11 => ?_) (fun c12 => ?_)
          · refine ev_s (fun Q k => rn_iconst (v := 0) (by decide) dL_holds_259 k) ?_
            refine ev_s (fun Q k => rn_sub (ls' := [(0, .inr (.inr 18)), (1, .inl v1), (2, .inl v2), (3, .inl v3), (4, .inl v4), (5, .inl v5), (6, .inl r3)]) [1, 2, 3, 4, 5, 6, 0] rfl k) ?_
            exact e_L_holds_260 l E d  (fun (v1_ : Int32) (v2_ : Int32) (v3_ : Int32) (v4_ : Int32) (v5_ : Int32) (D_ : dT) => F_L_holds_204 fu v1_ v2_ v3_ v4_ v5_ D_) (fun v1_ v2_ v3_ v4_ v5_ D_ => ih v1_ v2_ v3_ v4_ v5_ D_)  v1 v2 v3 v4 v5 r3 (0 : Int32) D10
          · refine ev_s (fun Q k => rn_iconst (v := 1) (by decide) dL_holds_255 k) ?_
            refine ev_s (fun Q k => rn_goto (tgt := 260) dL_holds_256 (by decide) k) ?_
            refine ev_s (fun Q k => rn_sub (ls' := [(0, .inr (.inr 18)), (1, .inl v1), (2, .inl v2), (3, .inl v3), (4, .inl v4), (5, .inl v5), (6, .inl r3)]) [1, 2, 3, 4, 5, 6, 0] rfl k) ?_
            exact e_L_holds_260 l E d  (fun (v1_ : Int32) (v2_ : Int32) (v3_ : Int32) (v4_ : Int32) (v5_ : Int32) (D_ : dT) => F_L_holds_204 fu v1_ v2_ v3_ v4_ v5_ D_) (fun v1_ v2_ v3_ v4_ v5_ D_ => ih v1_ v2_ v3_ v4_ v5_ D_)  v1 v2 v3 v4 v5 r3 (1 : Int32) D10

set_option maxHeartbeats 4000000 in
set_option maxRecDepth 20000 in
theorem e_L_holds_12 (l : Launch) (E : eE) (d : Nat)   (fuel : Nat) : ∀ (v1 : Int32) (v2 : Int32) (v3 : Int32) (v4 : Int32) (v5 : Int32) (D : dT), ev l E (d + 4) yL_holds cL_holds 8 (some .boolean) 12 [(0, .inr (.inr 18)), (1, .inl v1), (2, .inl v2), (3, .inl v3), (4, .inl v4), (5, .inl v5)] [] D eI (F_L_holds_12 fuel v1 v2 v3 v4 v5 D) := by
  induction fuel with
  | zero =>
    intro v1 v2 v3 v4 v5 D
    exact ev_none
  | succ fu ih =>
    intro v1 v2 v3 v4 v5 D
    rw [F_L_holds_12]
    refine ev_s (fun Q k => rn_iload (j := 5) 5 rfl dL_holds_12 k) ?_
    refine ev_s (fun Q k => rn_aload_n (j := 0) 0 rfl rfl (okO_0 ok_18) dL_holds_14 k) ?_
    refine ev_s (fun Q k => rn_iconst (v := 3) (by decide) dL_holds_15 k) ?_
    refine ev_bindI (as := [.inr (.inr 18), .inl (3 : Int32)]) (fun Q Q1 => rn_callV (as := [.inl (3 : Int32)]) (rest := [.inl v5]) (o := 18) m_L_12 dL_holds_16 (rcv_own ok_18.1 ok_18.2.1 (by decide) (okO_1 ok_18)) rfl rfl (Nat.le_of_ble_eq_true rfl)) pl_X5_count (Nat.le_of_ble_eq_true rfl) rfl (e_X5_count l E d (3 : Int32) D) (fun r1 D2 => ?_)
    refine ev_if (fun Q => rn_icmp_ge (tgt := 201) dL_holds_19 (by decide)) (fun c9 => ?_) (fun c10 => ?_)
    · refine ev_s (fun Q k => rn_iconst (v := 0) (by decide) dL_holds_201 k) ?_
      refine ev_s (fun Q k => rn_istore (j := 5) (ls' := [(5, .inl (0 : Int32)), (0, .inr (.inr 18)), (1, .inl v1), (2, .inl v2), (3, .inl v3), (4, .inl v4)]) (by decide) rfl dL_holds_202 k) ?_
      refine ev_s (fun Q k => rn_sub (ls' := [(0, .inr (.inr 18)), (1, .inl v1), (2, .inl v2), (3, .inl v3), (4, .inl v4), (5, .inl (0 : Int32))]) [1, 2, 3, 4, 5, 0] rfl k) ?_
      exact e_L_holds_204 l E d   lim v1 v2 v3 v4 (0 : Int32) D2
    · refine ev_s (fun Q k => rn_aload_n (j := 0) 0 rfl rfl (okO_0 ok_18) dL_holds_22 k) ?_
      refine ev_s (fun Q k => rn_iload (j := 5) 5 rfl dL_holds_23 k) ?_
      refine ev_s (fun Q k => rn_iconst (v := 5) (by decide) dL_holds_25 k) ?_
      refine ev_bindI (as := [.inr (.inr 18), .inl v5, .inl (5 : Int32)]) (fun Q Q1 => rn_callV (as := [.inl v5, .inl (5 : Int32)]) (rest := []) (o := 18) m_L_22 dL_holds_26 (rcv_own ok_18.1 ok_18.2.1 (by decide) (okO_1 ok_18)) rfl rfl (Nat.le_of_ble_eq_true rfl)) pl_X5_ofJob (Nat.le_of_ble_eq_true rfl) rfl (e_X5_ofJob l E (d + 1) v5 (5 : Int32) D2) (fun r3 D4 => ?_)
      refine ev_s (fun Q k => rn_istore (j := 6) (ls' := [(6, .inl r3), (0, .inr (.inr 18)), (1, .inl v1), (2, .inl v2), (3, .inl v3), (4, .inl v4), (5, .inl v5)]) (by decide) rfl dL_holds_29 k) ?_
      refine ev_s (fun Q k => rn_aload_n (j := 0) 1 rfl rfl (okO_0 ok_18) dL_holds_31 k) ?_
      refine ev_s (fun Q k => rn_iload (j := 5) 6 rfl dL_holds_32 k) ?_
      refine ev_s (fun Q k => rn_bipush (v := 7) (by decide) dL_holds_34 k) ?_
      refine ev_bindI (as := [.inr (.inr 18), .inl v5, .inl (7 : Int32)]) (fun Q Q1 => rn_callV (as := [.inl v5, .inl (7 : Int32)]) (rest := []) (o := 18) m_L_22 dL_holds_36 (rcv_own ok_18.1 ok_18.2.1 (by decide) (okO_1 ok_18)) rfl rfl (Nat.le_of_ble_eq_true rfl)) pl_X5_ofJob (Nat.le_of_ble_eq_true rfl) rfl (e_X5_ofJob l E (d + 1) v5 (7 : Int32) D4) (fun r5 D6 => ?_)
      refine ev_s (fun Q k => rn_istore (j := 7) (ls' := [(7, .inl r5), (6, .inl r3), (0, .inr (.inr 18)), (1, .inl v1), (2, .inl v2), (3, .inl v3), (4, .inl v4), (5, .inl v5)]) (by decide) rfl dL_holds_39 k) ?_
      refine ev_s (fun Q k => rn_iload_n (j := 2) 4 rfl rfl dL_holds_41 k) ?_
      refine ev_s (fun Q k => rn_iload (j := 6) 1 rfl dL_holds_42 k) ?_
      refine ev_if (fun Q => rn_if_ne (tgt := 54) dL_holds_44 (by decide)) (fun c7 => ?_) (fun c8 => ?_)
      · refine ev_s (fun Q k => rn_iconst (v := 1) (by decide) dL_holds_47 k) ?_
        refine ev_s (fun Q k => rn_iload (j := 5) 7 rfl dL_holds_48 k) ?_
        refine ev_s (fun Q k => rn_ishl dL_holds_50 k) ?_
        refine ev_s (fun Q k => rn_goto (tgt := 55) dL_holds_51 (by decide) k) ?_
        refine ev_s (fun Q k => rn_sub (ls' := [(0, .inr (.inr 18)), (1, .inl v1), (3, .inl v3), (4, .inl v4), (5, .inl v5), (6, .inl r3), (7, .inl r5)]) [2, 3, 5, 6, 7, 1, 0] rfl k) ?_
        exact e_L_holds_55 l E d  (fun (v1_ : Int32) (v2_ : Int32) (v3_ : Int32) (v4_ : Int32) (v5_ : Int32) (D_ : dT) => F_L_holds_12 fu v1_ v2_ v3_ v4_ v5_ D_) (fun v1_ v2_ v3_ v4_ v5_ D_ => ih v1_ v2_ v3_ v4_ v5_ D_)  v1 v3 v4 v5 r3 r5 ((1 : Int32) <<< (v5 &&& 31)) v2 D6
      · refine ev_s (fun Q k => rn_iconst (v := 0) (by decide) dL_holds_54 k) ?_
        refine ev_s (fun Q k => rn_sub (ls' := [(0, .inr (.inr 18)), (1, .inl v1), (3, .inl v3), (4, .inl v4), (5, .inl v5), (6, .inl r3), (7, .inl r5)]) [2, 3, 5, 6, 7, 1, 0] rfl k) ?_
        exact e_L_holds_55 l E d  (fun (v1_ : Int32) (v2_ : Int32) (v3_ : Int32) (v4_ : Int32) (v5_ : Int32) (D_ : dT) => F_L_holds_12 fu v1_ v2_ v3_ v4_ v5_ D_) (fun v1_ v2_ v3_ v4_ v5_ D_ => ih v1_ v2_ v3_ v4_ v5_ D_)  v1 v3 v4 v5 r3 r5 (0 : Int32) v2 D6

set_option maxHeartbeats 4000000 in
set_option maxRecDepth 20000 in
theorem e_L_holds (l : Launch) (E : eE) (d : Nat)  (D : dT) : ev l E (d + 4) yL_holds cL_holds 8 (some .boolean) 0 [(0, .inr (.inr 18))] [] D eI (F_L_holds D) := by
  unfold F_L_holds
  refine ev_s (fun Q k => rn_iconst (v := 0) (by decide) dL_holds_0 k) ?_
  refine ev_s (fun Q k => rn_istore_n (j := 1) (ls' := [(1, .inl (0 : Int32)), (0, .inr (.inr 18))]) rfl (by decide) rfl dL_holds_1 k) ?_
  refine ev_s (fun Q k => rn_iconst (v := 0) (by decide) dL_holds_2 k) ?_
  refine ev_s (fun Q k => rn_istore_n (j := 2) (ls' := [(2, .inl (0 : Int32)), (1, .inl (0 : Int32)), (0, .inr (.inr 18))]) rfl (by decide) rfl dL_holds_3 k) ?_
  refine ev_s (fun Q k => rn_iconst (v := 0) (by decide) dL_holds_4 k) ?_
  refine ev_s (fun Q k => rn_istore_n (j := 3) (ls' := [(3, .inl (0 : Int32)), (2, .inl (0 : Int32)), (1, .inl (0 : Int32)), (0, .inr (.inr 18))]) rfl (by decide) rfl dL_holds_5 k) ?_
  refine ev_s (fun Q k => rn_iconst (v := 0) (by decide) dL_holds_6 k) ?_
  refine ev_s (fun Q k => rn_istore (j := 4) (ls' := [(4, .inl (0 : Int32)), (3, .inl (0 : Int32)), (2, .inl (0 : Int32)), (1, .inl (0 : Int32)), (0, .inr (.inr 18))]) (by decide) rfl dL_holds_7 k) ?_
  refine ev_s (fun Q k => rn_iconst (v := 0) (by decide) dL_holds_9 k) ?_
  refine ev_s (fun Q k => rn_istore (j := 5) (ls' := [(5, .inl (0 : Int32)), (4, .inl (0 : Int32)), (3, .inl (0 : Int32)), (2, .inl (0 : Int32)), (1, .inl (0 : Int32)), (0, .inr (.inr 18))]) (by decide) rfl dL_holds_10 k) ?_
  refine ev_s (fun Q k => rn_sub (ls' := [(0, .inr (.inr 18)), (1, .inl (0 : Int32)), (2, .inl (0 : Int32)), (3, .inl (0 : Int32)), (4, .inl (0 : Int32)), (5, .inl (0 : Int32))]) [5, 4, 3, 2, 1, 0] rfl k) ?_
  exact e_L_holds_12 l E d   lim (0 : Int32) (0 : Int32) (0 : Int32) (0 : Int32) (0 : Int32) D

def F_L_isLifted_70  (k4 : Int32 → Int32 → dT → Option (Int32 × dT)) (k32 : Int32 → Int32 → Int32 → dT → Option (Int32 × dT)) (v2 : Int32) (v4 : Int32) (s0 : Int32) (s1 : Int32) (D : dT) : Option (Int32 × dT) := k32 v2 (s1 + s0) (v4 + (1 : Int32)) D
def F_L_isLifted_241  (k4 : Int32 → Int32 → dT → Option (Int32 × dT)) (v2 : Int32) (s0 : Int32) (D : dT) : Option (Int32 × dT) := bd (F_X5_undo  D) (fun (r1 : Int32) (D2 : dT) => k4 s0 (v2 + (1 : Int32)) D2)
def F_L_isLifted_240  (k4 : Int32 → Int32 → dT → Option (Int32 × dT)) (v2 : Int32) (D : dT) : Option (Int32 × dT) := F_L_isLifted_241 k4 v2 (0 : Int32) D
def F_L_isLifted_233  (k4 : Int32 → Int32 → dT → Option (Int32 × dT)) (v2 : Int32) (s0 : Int32) (s1 : Int32) (D : dT) : Option (Int32 × dT) := if s1 = s0 then F_L_isLifted_241 k4 v2 (1 : Int32) D else F_L_isLifted_240 k4 v2 D
def F_L_isLifted_232  (k4 : Int32 → Int32 → dT → Option (Int32 × dT)) (v2 : Int32) (s0 : Int32) (D : dT) : Option (Int32 × dT) := F_L_isLifted_233 k4 v2 (0 : Int32) s0 D
def F_L_isLifted_217  (k4 : Int32 → Int32 → dT → Option (Int32 × dT)) (v2 : Int32) (v4 : Int32) (v6 : Int32) (s0 : Int32) (D : dT) : Option (Int32 × dT) := if v4 = 0 then F_L_isLifted_232 k4 v2 s0 D else if v6 = (1 : Int32) then F_L_isLifted_233 k4 v2 (1 : Int32) s0 D else F_L_isLifted_232 k4 v2 s0 D
def F_L_isLifted_198  (k4 : Int32 → Int32 → dT → Option (Int32 × dT)) (v2 : Int32) (v4 : Int32) (v6 : Int32) (s0 : Int32) (s1 : Int32) (s2 : Int32) (D : dT) : Option (Int32 × dT) := if s2 = (s1 + s0) then bd (F_X5_ofJob v2 (5 : Int32) D) (fun (r1 : Int32) (D2 : dT) => if r1 = (2 : Int32) then F_L_isLifted_217 k4 v2 v4 v6 (1 : Int32) D2 else F_L_isLifted_217 k4 v2 v4 v6 (0 : Int32) D2) else F_L_isLifted_240 k4 v2 D
def F_L_isLifted_175  (k4 : Int32 → Int32 → dT → Option (Int32 × dT)) (v2 : Int32) (v4 : Int32) (v5 : Int32) (v6 : Int32) (v7 : Int32) (s0 : Int32) (s1 : Int32) (s2 : Int32) (D : dT) : Option (Int32 × dT) := if s2 = (s1 - s0) then bd (F_X5_ofJob v2 (10 : Int32) D) (fun (r1 : Int32) (D2 : dT) => if v5 = 0 then F_L_isLifted_198 k4 v2 v4 v6 (0 : Int32) v7 r1 D2 else F_L_isLifted_198 k4 v2 v4 v6 (1 : Int32) v7 r1 D2) else F_L_isLifted_240 k4 v2 D
def F_L_isLifted_132  (k4 : Int32 → Int32 → dT → Option (Int32 × dT)) (v2 : Int32) (v4 : Int32) (s0 : Int32) (D : dT) : Option (Int32 × dT) := bd (F_X5_ofJob v2 (2 : Int32) D) (fun (r1 : Int32) (D2 : dT) => bd (F_X5_ofJob v2 (10 : Int32) D2) (fun (r3 : Int32) (D4 : dT) => bd (F_X5_pass (1 : Int32) D4) (fun (r5 : Int32) (D6 : dT) => bd (F_X5_ofJob v2 (2 : Int32) D6) (fun (r7 : Int32) (D8 : dT) => if v4 = 0 then F_L_isLifted_175 k4 v2 v4 s0 r1 r3 (0 : Int32) r1 r7 D8 else F_L_isLifted_175 k4 v2 v4 s0 r1 r3 (1 : Int32) r1 r7 D8))))
def F_L_isLifted_131  (k4 : Int32 → Int32 → dT → Option (Int32 × dT)) (v2 : Int32) (v4 : Int32) (D : dT) : Option (Int32 × dT) := F_L_isLifted_132 k4 v2 v4 (0 : Int32) D
def F_L_isLifted_104  (k4 : Int32 → Int32 → dT → Option (Int32 × dT)) (v2 : Int32) (v3 : Int32) (s0 : Int32) (D : dT) : Option (Int32 × dT) := bd (F_X5_ofJob v2 (6 : Int32) D) (fun (r1 : Int32) (D2 : dT) => if r1 ≤ v3 then F_L_isLifted_131 k4 v2 s0 D2 else bd (F_X5_ofJob v2 (9 : Int32) D2) (fun (r3 : Int32) (D4 : dT) => if r3 = 0 then F_L_isLifted_132 k4 v2 s0 (1 : Int32) D4 else F_L_isLifted_131 k4 v2 s0 D4))
def F_L_isLifted_103  (k4 : Int32 → Int32 → dT → Option (Int32 × dT)) (v2 : Int32) (v3 : Int32) (D : dT) : Option (Int32 × dT) := F_L_isLifted_104 k4 v2 v3 (0 : Int32) D
def F_L_isLifted_32 (fuel : Nat)  (k4 : Int32 → Int32 → dT → Option (Int32 × dT)) (v2 : Int32) (v3 : Int32) (v4 : Int32) (D : dT) : Option (Int32 × dT) := match fuel with
  | 0 => none
  | fu + 1 => bd (F_X5_count (1 : Int32) D) (fun (r1 : Int32) (D2 : dT) => if r1 ≤ v4 then bd (F_X5_ofJob v2 (6 : Int32) D2) (fun (r3 : Int32) (D4 : dT) => if v3 < r3 then F_L_isLifted_103 k4 v2 v3 D4 else bd (F_X5_ofJob v2 (9 : Int32) D4) (fun (r5 : Int32) (D6 : dT) => if r5 = 0 then F_L_isLifted_104 k4 v2 v3 (1 : Int32) D6 else F_L_isLifted_103 k4 v2 v3 D6)) else bd (F_X5_ofJob v2 (7 : Int32) D2) (fun (r11 : Int32) (D12 : dT) => if ((r11 >>> (v4 &&& 31)) &&& (1 : Int32)) = (1 : Int32) then bd (F_X5_of v4 (1 : Int32) D12) (fun (r13 : Int32) (D14 : dT) => F_L_isLifted_70 k4 (fun (v2_ : Int32) (v3_ : Int32) (v4_ : Int32) (D_ : dT) => F_L_isLifted_32 fu k4 v2_ v3_ v4_ D_) v2 v4 r13 v3 D14) else F_L_isLifted_70 k4 (fun (v2_ : Int32) (v3_ : Int32) (v4_ : Int32) (D_ : dT) => F_L_isLifted_32 fu k4 v2_ v3_ v4_ D_) v2 v4 (0 : Int32) v3 D12))
def F_L_isLifted_4 (fuel : Nat)   (v1 : Int32) (v2 : Int32) (D : dT) : Option (Int32 × dT) := match fuel with
  | 0 => none
  | fu + 1 => bd (F_X5_count (3 : Int32) D) (fun (r1 : Int32) (D2 : dT) => if r1 ≤ v2 then if v1 = 0 ∨ v1 = 1 then some (v1, D2) else none else if v1 = 0 then if v1 = 0 ∨ v1 = 1 then some (v1, D2) else none else bd (F_X5_ofJob v2 (5 : Int32) D2) (fun (r5 : Int32) (D6 : dT) => if r5 = (1 : Int32) then F_L_isLifted_32 lim (fun (v1_ : Int32) (v2_ : Int32) (D_ : dT) => F_L_isLifted_4 fu v1_ v2_ D_) v2 (0 : Int32) (0 : Int32) D6 else F_L_isLifted_4 fu v1 (v2 + (1 : Int32)) D6))
def F_L_isLifted  (D : dT) : Option (Int32 × dT) := F_L_isLifted_4 lim (1 : Int32) (0 : Int32) D
set_option maxHeartbeats 4000000 in
set_option maxRecDepth 20000 in
theorem e_L_isLifted_70 (l : Launch) (E : eE) (d : Nat)  (k4 : Int32 → Int32 → dT → Option (Int32 × dT)) (hk4 : ∀ (v1 : Int32) (v2 : Int32) (D : dT), ev l E (d + 7) yL_isLifted cL_isLifted 8 (some .boolean) 4 [(0, .inr (.inr 18)), (1, .inl v1), (2, .inl v2)] [] D eI (k4 v1 v2 D)) (k32 : Int32 → Int32 → Int32 → dT → Option (Int32 × dT)) (hk32 : ∀ (v2 : Int32) (v3 : Int32) (v4 : Int32) (D : dT), ev l E (d + 7) yL_isLifted cL_isLifted 8 (some .boolean) 32 [(0, .inr (.inr 18)), (2, .inl v2), (3, .inl v3), (4, .inl v4)] [] D eI (k32 v2 v3 v4 D)) (v2 : Int32) (v4 : Int32) (s0 : Int32) (s1 : Int32) (D : dT) : ev l E (d + 7) yL_isLifted cL_isLifted 8 (some .boolean) 70 [(0, .inr (.inr 18)), (2, .inl v2), (4, .inl v4)] [.inl s0, .inl s1] D eI (F_L_isLifted_70 k4 k32 v2 v4 s0 s1 D) := by
  unfold F_L_isLifted_70
  refine ev_s (fun Q k => rn_iadd dL_isLifted_70 k) ?_
  refine ev_s (fun Q k => rn_istore_n (j := 3) (ls' := [(3, .inl (s1 + s0)), (0, .inr (.inr 18)), (2, .inl v2), (4, .inl v4)]) rfl (by decide) rfl dL_isLifted_71 k) ?_
  refine ev_s (fun Q k => rn_iinc (v := (v4 + (1 : Int32))) (ls' := [(4, .inl (v4 + (1 : Int32))), (3, .inl (s1 + s0)), (0, .inr (.inr 18)), (2, .inl v2)]) 3 rfl rfl (by decide) rfl dL_isLifted_72 k) ?_
  refine ev_s (fun Q k => rn_goto (tgt := 32) dL_isLifted_75 (by decide) k) ?_
  refine ev_s (fun Q k => rn_sub (ls' := [(0, .inr (.inr 18)), (2, .inl v2), (3, .inl (s1 + s0)), (4, .inl (v4 + (1 : Int32)))]) [2, 3, 1, 0] rfl k) ?_
  exact hk32 v2 (s1 + s0) (v4 + (1 : Int32)) D

set_option maxHeartbeats 4000000 in
set_option maxRecDepth 20000 in
theorem e_L_isLifted_241 (l : Launch) (E : eE) (d : Nat)  (k4 : Int32 → Int32 → dT → Option (Int32 × dT)) (hk4 : ∀ (v1 : Int32) (v2 : Int32) (D : dT), ev l E (d + 7) yL_isLifted cL_isLifted 8 (some .boolean) 4 [(0, .inr (.inr 18)), (1, .inl v1), (2, .inl v2)] [] D eI (k4 v1 v2 D)) (v2 : Int32) (s0 : Int32) (D : dT) : ev l E (d + 7) yL_isLifted cL_isLifted 8 (some .boolean) 241 [(0, .inr (.inr 18)), (2, .inl v2)] [.inl s0] D eI (F_L_isLifted_241 k4 v2 s0 D) := by
  unfold F_L_isLifted_241
  refine ev_s (fun Q k => rn_istore_n (j := 1) (ls' := [(1, .inl s0), (0, .inr (.inr 18)), (2, .inl v2)]) rfl (by decide) rfl dL_isLifted_241 k) ?_
  refine ev_s (fun Q k => rn_aload_n (j := 0) 1 rfl rfl (okO_0 ok_18) dL_isLifted_242 k) ?_
  refine ev_bindI (as := [.inr (.inr 18)]) (fun Q Q1 => rn_callV (as := []) (rest := []) (o := 18) m_L_63 dL_isLifted_243 (rcv_own ok_18.1 ok_18.2.1 (by decide) (okO_1 ok_18)) rfl rfl (Nat.le_of_ble_eq_true rfl)) pl_X5_undo (Nat.le_of_ble_eq_true rfl) rfl (e_X5_undo l E (d + 3)  D) (fun r1 D2 => ?_)
  refine ev_s (fun Q k => rn_pop rfl dL_isLifted_246 k) ?_
  refine ev_s (fun Q k => rn_iinc (v := (v2 + (1 : Int32))) (ls' := [(2, .inl (v2 + (1 : Int32))), (1, .inl s0), (0, .inr (.inr 18))]) 2 rfl rfl (by decide) rfl dL_isLifted_247 k) ?_
  refine ev_s (fun Q k => rn_goto (tgt := 4) dL_isLifted_250 (by decide) k) ?_
  refine ev_s (fun Q k => rn_sub (ls' := [(0, .inr (.inr 18)), (1, .inl s0), (2, .inl (v2 + (1 : Int32)))]) [2, 1, 0] rfl k) ?_
  exact hk4 s0 (v2 + (1 : Int32)) D2

set_option maxHeartbeats 4000000 in
set_option maxRecDepth 20000 in
theorem e_L_isLifted_240 (l : Launch) (E : eE) (d : Nat)  (k4 : Int32 → Int32 → dT → Option (Int32 × dT)) (hk4 : ∀ (v1 : Int32) (v2 : Int32) (D : dT), ev l E (d + 7) yL_isLifted cL_isLifted 8 (some .boolean) 4 [(0, .inr (.inr 18)), (1, .inl v1), (2, .inl v2)] [] D eI (k4 v1 v2 D)) (v2 : Int32) (D : dT) : ev l E (d + 7) yL_isLifted cL_isLifted 8 (some .boolean) 240 [(0, .inr (.inr 18)), (2, .inl v2)] [] D eI (F_L_isLifted_240 k4 v2 D) := by
  unfold F_L_isLifted_240
  refine ev_s (fun Q k => rn_iconst (v := 0) (by decide) dL_isLifted_240 k) ?_
  exact e_L_isLifted_241 l E d  k4 hk4  v2 (0 : Int32) D

set_option maxHeartbeats 4000000 in
set_option maxRecDepth 20000 in
theorem e_L_isLifted_233 (l : Launch) (E : eE) (d : Nat)  (k4 : Int32 → Int32 → dT → Option (Int32 × dT)) (hk4 : ∀ (v1 : Int32) (v2 : Int32) (D : dT), ev l E (d + 7) yL_isLifted cL_isLifted 8 (some .boolean) 4 [(0, .inr (.inr 18)), (1, .inl v1), (2, .inl v2)] [] D eI (k4 v1 v2 D)) (v2 : Int32) (s0 : Int32) (s1 : Int32) (D : dT) : ev l E (d + 7) yL_isLifted cL_isLifted 8 (some .boolean) 233 [(0, .inr (.inr 18)), (2, .inl v2)] [.inl s0, .inl s1] D eI (F_L_isLifted_233 k4 v2 s0 s1 D) := by
  unfold F_L_isLifted_233
  refine ev_if (fun Q => rn_icmp_ne (tgt := 240) dL_isLifted_233 (by decide)) (fun c1 => ?_) (fun c2 => ?_)
  · refine ev_s (fun Q k => rn_iconst (v := 1) (by decide) dL_isLifted_236 k) ?_
    refine ev_s (fun Q k => rn_goto (tgt := 241) dL_isLifted_237 (by decide) k) ?_
    exact e_L_isLifted_241 l E d  k4 hk4  v2 (1 : Int32) D
  · exact e_L_isLifted_240 l E d  k4 hk4  v2 D

set_option maxHeartbeats 4000000 in
set_option maxRecDepth 20000 in
theorem e_L_isLifted_232 (l : Launch) (E : eE) (d : Nat)  (k4 : Int32 → Int32 → dT → Option (Int32 × dT)) (hk4 : ∀ (v1 : Int32) (v2 : Int32) (D : dT), ev l E (d + 7) yL_isLifted cL_isLifted 8 (some .boolean) 4 [(0, .inr (.inr 18)), (1, .inl v1), (2, .inl v2)] [] D eI (k4 v1 v2 D)) (v2 : Int32) (s0 : Int32) (D : dT) : ev l E (d + 7) yL_isLifted cL_isLifted 8 (some .boolean) 232 [(0, .inr (.inr 18)), (2, .inl v2)] [.inl s0] D eI (F_L_isLifted_232 k4 v2 s0 D) := by
  unfold F_L_isLifted_232
  refine ev_s (fun Q k => rn_iconst (v := 0) (by decide) dL_isLifted_232 k) ?_
  exact e_L_isLifted_233 l E d  k4 hk4  v2 (0 : Int32) s0 D

set_option maxHeartbeats 4000000 in
set_option maxRecDepth 20000 in
theorem e_L_isLifted_217 (l : Launch) (E : eE) (d : Nat)  (k4 : Int32 → Int32 → dT → Option (Int32 × dT)) (hk4 : ∀ (v1 : Int32) (v2 : Int32) (D : dT), ev l E (d + 7) yL_isLifted cL_isLifted 8 (some .boolean) 4 [(0, .inr (.inr 18)), (1, .inl v1), (2, .inl v2)] [] D eI (k4 v1 v2 D)) (v2 : Int32) (v4 : Int32) (v6 : Int32) (s0 : Int32) (D : dT) : ev l E (d + 7) yL_isLifted cL_isLifted 8 (some .boolean) 217 [(0, .inr (.inr 18)), (2, .inl v2), (4, .inl v4), (6, .inl v6)] [.inl s0] D eI (F_L_isLifted_217 k4 v2 v4 v6 s0 D) := by
  unfold F_L_isLifted_217
  refine ev_s (fun Q k => rn_iload (j := 4) 2 rfl dL_isLifted_217 k) ?_
  refine ev_if (fun Q => rn_if_eq (tgt := 232) dL_isLifted_219 (by decide)) (fun c3 => ?_) (fun c4 => ?_)
  · refine ev_s (fun Q k => rn_sub (ls' := [(0, .inr (.inr 18)), (2, .inl v2)]) [0, 1] rfl k) ?_
    exact e_L_isLifted_232 l E d  k4 hk4  v2 s0 D
  · refine ev_s (fun Q k => rn_iload (j := 6) 3 rfl dL_isLifted_222 k) ?_
    refine ev_s (fun Q k => rn_iconst (v := 1) (by decide) dL_isLifted_224 k) ?_
    refine ev_if (fun Q => rn_icmp_ne (tgt := 232) dL_isLifted_225 (by decide)) (fun c1 => ?_) (fun c2 => ?_)
    · refine ev_s (fun Q k => rn_iconst (v := 1) (by decide) dL_isLifted_228 k) ?_
      refine ev_s (fun Q k => rn_goto (tgt := 233) dL_isLifted_229 (by decide) k) ?_
      refine ev_s (fun Q k => rn_sub (ls' := [(0, .inr (.inr 18)), (2, .inl v2)]) [0, 1] rfl k) ?_
      exact e_L_isLifted_233 l E d  k4 hk4  v2 (1 : Int32) s0 D
    · refine ev_s (fun Q k => rn_sub (ls' := [(0, .inr (.inr 18)), (2, .inl v2)]) [0, 1] rfl k) ?_
      exact e_L_isLifted_232 l E d  k4 hk4  v2 s0 D

set_option maxHeartbeats 4000000 in
set_option maxRecDepth 20000 in
theorem e_L_isLifted_198 (l : Launch) (E : eE) (d : Nat)  (k4 : Int32 → Int32 → dT → Option (Int32 × dT)) (hk4 : ∀ (v1 : Int32) (v2 : Int32) (D : dT), ev l E (d + 7) yL_isLifted cL_isLifted 8 (some .boolean) 4 [(0, .inr (.inr 18)), (1, .inl v1), (2, .inl v2)] [] D eI (k4 v1 v2 D)) (v2 : Int32) (v4 : Int32) (v6 : Int32) (s0 : Int32) (s1 : Int32) (s2 : Int32) (D : dT) : ev l E (d + 7) yL_isLifted cL_isLifted 8 (some .boolean) 198 [(0, .inr (.inr 18)), (2, .inl v2), (4, .inl v4), (6, .inl v6)] [.inl s0, .inl s1, .inl s2] D eI (F_L_isLifted_198 k4 v2 v4 v6 s0 s1 s2 D) := by
  unfold F_L_isLifted_198
  refine ev_s (fun Q k => rn_iadd dL_isLifted_198 k) ?_
  refine ev_if (fun Q => rn_icmp_ne (tgt := 240) dL_isLifted_199 (by decide)) (fun c5 => ?_) (fun c6 => ?_)
  · refine ev_s (fun Q k => rn_aload_n (j := 0) 0 rfl rfl (okO_0 ok_18) dL_isLifted_202 k) ?_
    refine ev_s (fun Q k => rn_iload_n (j := 2) 1 rfl rfl dL_isLifted_203 k) ?_
    refine ev_s (fun Q k => rn_iconst (v := 5) (by decide) dL_isLifted_204 k) ?_
    refine ev_bindI (as := [.inr (.inr 18), .inl v2, .inl (5 : Int32)]) (fun Q Q1 => rn_callV (as := [.inl v2, .inl (5 : Int32)]) (rest := []) (o := 18) m_L_22 dL_isLifted_205 (rcv_own ok_18.1 ok_18.2.1 (by decide) (okO_1 ok_18)) rfl rfl (Nat.le_of_ble_eq_true rfl)) pl_X5_ofJob (Nat.le_of_ble_eq_true rfl) rfl (e_X5_ofJob l E (d + 4) v2 (5 : Int32) D) (fun r1 D2 => ?_)
    refine ev_s (fun Q k => rn_iconst (v := 2) (by decide) dL_isLifted_208 k) ?_
    refine ev_if (fun Q => rn_icmp_ne (tgt := 216) dL_isLifted_209 (by decide)) (fun c3 => ?_) (fun c4 => ?_)
    · refine ev_s (fun Q k => rn_iconst (v := 1) (by decide) dL_isLifted_212 k) ?_
      refine ev_s (fun Q k => rn_goto (tgt := 217) dL_isLifted_213 (by decide) k) ?_
      exact e_L_isLifted_217 l E d  k4 hk4  v2 v4 v6 (1 : Int32) D2
    · refine ev_s (fun Q k => rn_iconst (v := 0) (by decide) dL_isLifted_216 k) ?_
      exact e_L_isLifted_217 l E d  k4 hk4  v2 v4 v6 (0 : Int32) D2
  · refine ev_s (fun Q k => rn_sub (ls' := [(0, .inr (.inr 18)), (2, .inl v2)]) [0, 1] rfl k) ?_
    exact e_L_isLifted_240 l E d  k4 hk4  v2 D

set_option maxHeartbeats 4000000 in
set_option maxRecDepth 20000 in
theorem e_L_isLifted_175 (l : Launch) (E : eE) (d : Nat)  (k4 : Int32 → Int32 → dT → Option (Int32 × dT)) (hk4 : ∀ (v1 : Int32) (v2 : Int32) (D : dT), ev l E (d + 7) yL_isLifted cL_isLifted 8 (some .boolean) 4 [(0, .inr (.inr 18)), (1, .inl v1), (2, .inl v2)] [] D eI (k4 v1 v2 D)) (v2 : Int32) (v4 : Int32) (v5 : Int32) (v6 : Int32) (v7 : Int32) (s0 : Int32) (s1 : Int32) (s2 : Int32) (D : dT) : ev l E (d + 7) yL_isLifted cL_isLifted 8 (some .boolean) 175 [(0, .inr (.inr 18)), (2, .inl v2), (4, .inl v4), (5, .inl v5), (6, .inl v6), (7, .inl v7)] [.inl s0, .inl s1, .inl s2] D eI (F_L_isLifted_175 k4 v2 v4 v5 v6 v7 s0 s1 s2 D) := by
  unfold F_L_isLifted_175
  refine ev_s (fun Q k => rn_isub dL_isLifted_175 k) ?_
  refine ev_if (fun Q => rn_icmp_ne (tgt := 240) dL_isLifted_176 (by decide)) (fun c5 => ?_) (fun c6 => ?_)
  · refine ev_s (fun Q k => rn_aload_n (j := 0) 0 rfl rfl (okO_0 ok_18) dL_isLifted_179 k) ?_
    refine ev_s (fun Q k => rn_iload_n (j := 2) 1 rfl rfl dL_isLifted_180 k) ?_
    refine ev_s (fun Q k => rn_bipush (v := 10) (by decide) dL_isLifted_181 k) ?_
    refine ev_bindI (as := [.inr (.inr 18), .inl v2, .inl (10 : Int32)]) (fun Q Q1 => rn_callV (as := [.inl v2, .inl (10 : Int32)]) (rest := []) (o := 18) m_L_22 dL_isLifted_183 (rcv_own ok_18.1 ok_18.2.1 (by decide) (okO_1 ok_18)) rfl rfl (Nat.le_of_ble_eq_true rfl)) pl_X5_ofJob (Nat.le_of_ble_eq_true rfl) rfl (e_X5_ofJob l E (d + 4) v2 (10 : Int32) D) (fun r1 D2 => ?_)
    refine ev_s (fun Q k => rn_iload (j := 7) 5 rfl dL_isLifted_186 k) ?_
    refine ev_s (fun Q k => rn_iload (j := 5) 3 rfl dL_isLifted_188 k) ?_
    refine ev_if (fun Q => rn_if_eq (tgt := 197) dL_isLifted_190 (by decide)) (fun c3 => ?_) (fun c4 => ?_)
    · refine ev_s (fun Q k => rn_iconst (v := 0) (by decide) dL_isLifted_197 k) ?_
      refine ev_s (fun Q k => rn_sub (ls' := [(0, .inr (.inr 18)), (2, .inl v2), (4, .inl v4), (6, .inl v6)]) [0, 1, 2, 4] rfl k) ?_
      exact e_L_isLifted_198 l E d  k4 hk4  v2 v4 v6 (0 : Int32) v7 r1 D2
    · refine ev_s (fun Q k => rn_iconst (v := 1) (by decide) dL_isLifted_193 k) ?_
      refine ev_s (fun Q k => rn_goto (tgt := 198) dL_isLifted_194 (by decide) k) ?_
      refine ev_s (fun Q k => rn_sub (ls' := [(0, .inr (.inr 18)), (2, .inl v2), (4, .inl v4), (6, .inl v6)]) [0, 1, 2, 4] rfl k) ?_
      exact e_L_isLifted_198 l E d  k4 hk4  v2 v4 v6 (1 : Int32) v7 r1 D2
  · refine ev_s (fun Q k => rn_sub (ls' := [(0, .inr (.inr 18)), (2, .inl v2)]) [0, 1] rfl k) ?_
    exact e_L_isLifted_240 l E d  k4 hk4  v2 D

set_option maxHeartbeats 4000000 in
set_option maxRecDepth 20000 in
theorem e_L_isLifted_132 (l : Launch) (E : eE) (d : Nat)  (k4 : Int32 → Int32 → dT → Option (Int32 × dT)) (hk4 : ∀ (v1 : Int32) (v2 : Int32) (D : dT), ev l E (d + 7) yL_isLifted cL_isLifted 8 (some .boolean) 4 [(0, .inr (.inr 18)), (1, .inl v1), (2, .inl v2)] [] D eI (k4 v1 v2 D)) (v2 : Int32) (v4 : Int32) (s0 : Int32) (D : dT) : ev l E (d + 7) yL_isLifted cL_isLifted 8 (some .boolean) 132 [(0, .inr (.inr 18)), (2, .inl v2), (4, .inl v4)] [.inl s0] D eI (F_L_isLifted_132 k4 v2 v4 s0 D) := by
  unfold F_L_isLifted_132
  refine ev_s (fun Q k => rn_istore (j := 5) (ls' := [(5, .inl s0), (0, .inr (.inr 18)), (2, .inl v2), (4, .inl v4)]) (by decide) rfl dL_isLifted_132 k) ?_
  refine ev_s (fun Q k => rn_aload_n (j := 0) 1 rfl rfl (okO_0 ok_18) dL_isLifted_134 k) ?_
  refine ev_s (fun Q k => rn_iload_n (j := 2) 2 rfl rfl dL_isLifted_135 k) ?_
  refine ev_s (fun Q k => rn_iconst (v := 2) (by decide) dL_isLifted_136 k) ?_
  refine ev_bindI (as := [.inr (.inr 18), .inl v2, .inl (2 : Int32)]) (fun Q Q1 => rn_callV (as := [.inl v2, .inl (2 : Int32)]) (rest := []) (o := 18) m_L_22 dL_isLifted_137 (rcv_own ok_18.1 ok_18.2.1 (by decide) (okO_1 ok_18)) rfl rfl (Nat.le_of_ble_eq_true rfl)) pl_X5_ofJob (Nat.le_of_ble_eq_true rfl) rfl (e_X5_ofJob l E (d + 4) v2 (2 : Int32) D) (fun r1 D2 => ?_)
  refine ev_s (fun Q k => rn_istore (j := 6) (ls' := [(6, .inl r1), (5, .inl s0), (0, .inr (.inr 18)), (2, .inl v2), (4, .inl v4)]) (by decide) rfl dL_isLifted_140 k) ?_
  refine ev_s (fun Q k => rn_aload_n (j := 0) 2 rfl rfl (okO_0 ok_18) dL_isLifted_142 k) ?_
  refine ev_s (fun Q k => rn_iload_n (j := 2) 3 rfl rfl dL_isLifted_143 k) ?_
  refine ev_s (fun Q k => rn_bipush (v := 10) (by decide) dL_isLifted_144 k) ?_
  refine ev_bindI (as := [.inr (.inr 18), .inl v2, .inl (10 : Int32)]) (fun Q Q1 => rn_callV (as := [.inl v2, .inl (10 : Int32)]) (rest := []) (o := 18) m_L_22 dL_isLifted_146 (rcv_own ok_18.1 ok_18.2.1 (by decide) (okO_1 ok_18)) rfl rfl (Nat.le_of_ble_eq_true rfl)) pl_X5_ofJob (Nat.le_of_ble_eq_true rfl) rfl (e_X5_ofJob l E (d + 4) v2 (10 : Int32) D2) (fun r3 D4 => ?_)
  refine ev_s (fun Q k => rn_istore (j := 7) (ls' := [(7, .inl r3), (6, .inl r1), (5, .inl s0), (0, .inr (.inr 18)), (2, .inl v2), (4, .inl v4)]) (by decide) rfl dL_isLifted_149 k) ?_
  refine ev_s (fun Q k => rn_aload_n (j := 0) 3 rfl rfl (okO_0 ok_18) dL_isLifted_151 k) ?_
  refine ev_s (fun Q k => rn_iconst (v := 1) (by decide) dL_isLifted_152 k) ?_
  refine ev_bindI (as := [.inr (.inr 18), .inl (1 : Int32)]) (fun Q Q1 => rn_callV (as := [.inl (1 : Int32)]) (rest := []) (o := 18) m_L_60 dL_isLifted_153 (rcv_own ok_18.1 ok_18.2.1 (by decide) (okO_1 ok_18)) rfl rfl (Nat.le_of_ble_eq_true rfl)) pl_X5_pass (Nat.le_of_ble_eq_true rfl) rfl (e_X5_pass l E d (1 : Int32) D4) (fun r5 D6 => ?_)
  refine ev_s (fun Q k => rn_pop rfl dL_isLifted_156 k) ?_
  refine ev_s (fun Q k => rn_aload_n (j := 0) 3 rfl rfl (okO_0 ok_18) dL_isLifted_157 k) ?_
  refine ev_s (fun Q k => rn_iload_n (j := 2) 4 rfl rfl dL_isLifted_158 k) ?_
  refine ev_s (fun Q k => rn_iconst (v := 2) (by decide) dL_isLifted_159 k) ?_
  refine ev_bindI (as := [.inr (.inr 18), .inl v2, .inl (2 : Int32)]) (fun Q Q1 => rn_callV (as := [.inl v2, .inl (2 : Int32)]) (rest := []) (o := 18) m_L_22 dL_isLifted_160 (rcv_own ok_18.1 ok_18.2.1 (by decide) (okO_1 ok_18)) rfl rfl (Nat.le_of_ble_eq_true rfl)) pl_X5_ofJob (Nat.le_of_ble_eq_true rfl) rfl (e_X5_ofJob l E (d + 4) v2 (2 : Int32) D6) (fun r7 D8 => ?_)
  refine ev_s (fun Q k => rn_iload (j := 6) 1 rfl dL_isLifted_163 k) ?_
  refine ev_s (fun Q k => rn_iload (j := 4) 5 rfl dL_isLifted_165 k) ?_
  refine ev_if (fun Q => rn_if_eq (tgt := 174) dL_isLifted_167 (by decide)) (fun c9 => ?_) (fun c10 => ?_)
  · refine ev_s (fun Q k => rn_iconst (v := 0) (by decide) dL_isLifted_174 k) ?_
    refine ev_s (fun Q k => rn_sub (ls' := [(0, .inr (.inr 18)), (2, .inl v2), (4, .inl v4), (5, .inl s0), (6, .inl r1), (7, .inl r3)]) [3, 4, 5, 2, 1, 0] rfl k) ?_
    exact e_L_isLifted_175 l E d  k4 hk4  v2 v4 s0 r1 r3 (0 : Int32) r1 r7 D8
  · refine ev_s (fun Q k => rn_iconst (v := 1) (by decide) dL_isLifted_170 k) ?_
    refine ev_s (fun Q k => rn_goto (tgt := 175) dL_isLifted_171 (by decide) k) ?_
    refine ev_s (fun Q k => rn_sub (ls' := [(0, .inr (.inr 18)), (2, .inl v2), (4, .inl v4), (5, .inl s0), (6, .inl r1), (7, .inl r3)]) [3, 4, 5, 2, 1, 0] rfl k) ?_
    exact e_L_isLifted_175 l E d  k4 hk4  v2 v4 s0 r1 r3 (1 : Int32) r1 r7 D8

set_option maxHeartbeats 4000000 in
set_option maxRecDepth 20000 in
theorem e_L_isLifted_131 (l : Launch) (E : eE) (d : Nat)  (k4 : Int32 → Int32 → dT → Option (Int32 × dT)) (hk4 : ∀ (v1 : Int32) (v2 : Int32) (D : dT), ev l E (d + 7) yL_isLifted cL_isLifted 8 (some .boolean) 4 [(0, .inr (.inr 18)), (1, .inl v1), (2, .inl v2)] [] D eI (k4 v1 v2 D)) (v2 : Int32) (v4 : Int32) (D : dT) : ev l E (d + 7) yL_isLifted cL_isLifted 8 (some .boolean) 131 [(0, .inr (.inr 18)), (2, .inl v2), (4, .inl v4)] [] D eI (F_L_isLifted_131 k4 v2 v4 D) := by
  unfold F_L_isLifted_131
  refine ev_s (fun Q k => rn_iconst (v := 0) (by decide) dL_isLifted_131 k) ?_
  exact e_L_isLifted_132 l E d  k4 hk4  v2 v4 (0 : Int32) D

set_option maxHeartbeats 4000000 in
set_option maxRecDepth 20000 in
theorem e_L_isLifted_104 (l : Launch) (E : eE) (d : Nat)  (k4 : Int32 → Int32 → dT → Option (Int32 × dT)) (hk4 : ∀ (v1 : Int32) (v2 : Int32) (D : dT), ev l E (d + 7) yL_isLifted cL_isLifted 8 (some .boolean) 4 [(0, .inr (.inr 18)), (1, .inl v1), (2, .inl v2)] [] D eI (k4 v1 v2 D)) (v2 : Int32) (v3 : Int32) (s0 : Int32) (D : dT) : ev l E (d + 7) yL_isLifted cL_isLifted 8 (some .boolean) 104 [(0, .inr (.inr 18)), (2, .inl v2), (3, .inl v3)] [.inl s0] D eI (F_L_isLifted_104 k4 v2 v3 s0 D) := by
  unfold F_L_isLifted_104
  refine ev_s (fun Q k => rn_istore (j := 4) (ls' := [(4, .inl s0), (0, .inr (.inr 18)), (2, .inl v2), (3, .inl v3)]) (by decide) rfl dL_isLifted_104 k) ?_
  refine ev_s (fun Q k => rn_iload_n (j := 3) 3 rfl rfl dL_isLifted_106 k) ?_
  refine ev_s (fun Q k => rn_aload_n (j := 0) 1 rfl rfl (okO_0 ok_18) dL_isLifted_107 k) ?_
  refine ev_s (fun Q k => rn_iload_n (j := 2) 2 rfl rfl dL_isLifted_108 k) ?_
  refine ev_s (fun Q k => rn_bipush (v := 6) (by decide) dL_isLifted_109 k) ?_
  refine ev_bindI (as := [.inr (.inr 18), .inl v2, .inl (6 : Int32)]) (fun Q Q1 => rn_callV (as := [.inl v2, .inl (6 : Int32)]) (rest := [.inl v3]) (o := 18) m_L_22 dL_isLifted_111 (rcv_own ok_18.1 ok_18.2.1 (by decide) (okO_1 ok_18)) rfl rfl (Nat.le_of_ble_eq_true rfl)) pl_X5_ofJob (Nat.le_of_ble_eq_true rfl) rfl (e_X5_ofJob l E (d + 4) v2 (6 : Int32) D) (fun r1 D2 => ?_)
  refine ev_if (fun Q => rn_icmp_ge (tgt := 131) dL_isLifted_114 (by decide)) (fun c7 => ?_) (fun c8 => ?_)
  · refine ev_s (fun Q k => rn_sub (ls' := [(0, .inr (.inr 18)), (2, .inl v2), (4, .inl s0)]) [1, 2, 0] rfl k) ?_
    exact e_L_isLifted_131 l E d  k4 hk4  v2 s0 D2
  · refine ev_s (fun Q k => rn_aload_n (j := 0) 1 rfl rfl (okO_0 ok_18) dL_isLifted_117 k) ?_
    refine ev_s (fun Q k => rn_iload_n (j := 2) 2 rfl rfl dL_isLifted_118 k) ?_
    refine ev_s (fun Q k => rn_bipush (v := 9) (by decide) dL_isLifted_119 k) ?_
    refine ev_bindI (as := [.inr (.inr 18), .inl v2, .inl (9 : Int32)]) (fun Q Q1 => rn_callV (as := [.inl v2, .inl (9 : Int32)]) (rest := []) (o := 18) m_L_22 dL_isLifted_121 (rcv_own ok_18.1 ok_18.2.1 (by decide) (okO_1 ok_18)) rfl rfl (Nat.le_of_ble_eq_true rfl)) pl_X5_ofJob (Nat.le_of_ble_eq_true rfl) rfl (e_X5_ofJob l E (d + 4) v2 (9 : Int32) D2) (fun r3 D4 => ?_)
    refine ev_if (fun Q => rn_if_ne (tgt := 131) dL_isLifted_124 (by decide)) (fun c5 => ?_) (fun c6 => ?_)
    · refine ev_s (fun Q k => rn_iconst (v := 1) (by decide) dL_isLifted_127 k) ?_
      refine ev_s (fun Q k => rn_goto (tgt := 132) dL_isLifted_128 (by decide) k) ?_
      refine ev_s (fun Q k => rn_sub (ls' := [(0, .inr (.inr 18)), (2, .inl v2), (4, .inl s0)]) [1, 2, 0] rfl k) ?_
      exact e_L_isLifted_132 l E d  k4 hk4  v2 s0 (1 : Int32) D4
    · refine ev_s (fun Q k => rn_sub (ls' := [(0, .inr (.inr 18)), (2, .inl v2), (4, .inl s0)]) [1, 2, 0] rfl k) ?_
      exact e_L_isLifted_131 l E d  k4 hk4  v2 s0 D4

set_option maxHeartbeats 4000000 in
set_option maxRecDepth 20000 in
theorem e_L_isLifted_103 (l : Launch) (E : eE) (d : Nat)  (k4 : Int32 → Int32 → dT → Option (Int32 × dT)) (hk4 : ∀ (v1 : Int32) (v2 : Int32) (D : dT), ev l E (d + 7) yL_isLifted cL_isLifted 8 (some .boolean) 4 [(0, .inr (.inr 18)), (1, .inl v1), (2, .inl v2)] [] D eI (k4 v1 v2 D)) (v2 : Int32) (v3 : Int32) (D : dT) : ev l E (d + 7) yL_isLifted cL_isLifted 8 (some .boolean) 103 [(0, .inr (.inr 18)), (2, .inl v2), (3, .inl v3)] [] D eI (F_L_isLifted_103 k4 v2 v3 D) := by
  unfold F_L_isLifted_103
  refine ev_s (fun Q k => rn_iconst (v := 0) (by decide) dL_isLifted_103 k) ?_
  exact e_L_isLifted_104 l E d  k4 hk4  v2 v3 (0 : Int32) D

set_option maxHeartbeats 4000000 in
set_option maxRecDepth 20000 in
theorem e_L_isLifted_32 (l : Launch) (E : eE) (d : Nat)  (k4 : Int32 → Int32 → dT → Option (Int32 × dT)) (hk4 : ∀ (v1 : Int32) (v2 : Int32) (D : dT), ev l E (d + 7) yL_isLifted cL_isLifted 8 (some .boolean) 4 [(0, .inr (.inr 18)), (1, .inl v1), (2, .inl v2)] [] D eI (k4 v1 v2 D)) (fuel : Nat) : ∀ (v2 : Int32) (v3 : Int32) (v4 : Int32) (D : dT), ev l E (d + 7) yL_isLifted cL_isLifted 8 (some .boolean) 32 [(0, .inr (.inr 18)), (2, .inl v2), (3, .inl v3), (4, .inl v4)] [] D eI (F_L_isLifted_32 fuel k4 v2 v3 v4 D) := by
  induction fuel with
  | zero =>
    intro v2 v3 v4 D
    exact ev_none
  | succ fu ih =>
    intro v2 v3 v4 D
    rw [F_L_isLifted_32]
    refine ev_s (fun Q k => rn_iload (j := 4) 3 rfl dL_isLifted_32 k) ?_
    refine ev_s (fun Q k => rn_aload_n (j := 0) 0 rfl rfl (okO_0 ok_18) dL_isLifted_34 k) ?_
    refine ev_s (fun Q k => rn_iconst (v := 1) (by decide) dL_isLifted_35 k) ?_
    refine ev_bindI (as := [.inr (.inr 18), .inl (1 : Int32)]) (fun Q Q1 => rn_callV (as := [.inl (1 : Int32)]) (rest := [.inl v4]) (o := 18) m_L_12 dL_isLifted_36 (rcv_own ok_18.1 ok_18.2.1 (by decide) (okO_1 ok_18)) rfl rfl (Nat.le_of_ble_eq_true rfl)) pl_X5_count (Nat.le_of_ble_eq_true rfl) rfl (e_X5_count l E (d + 3) (1 : Int32) D) (fun r1 D2 => ?_)
    refine ev_if (fun Q => rn_icmp_ge (tgt := 78) dL_isLifted_39 (by decide)) (fun c17 => ?_) (fun c18 => ?_)
    · refine ev_s (fun Q k => rn_iload_n (j := 3) 2 rfl rfl dL_isLifted_78 k) ?_
      refine ev_s (fun Q k => rn_aload_n (j := 0) 0 rfl rfl (okO_0 ok_18) dL_isLifted_79 k) ?_
      refine ev_s (fun Q k => rn_iload_n (j := 2) 1 rfl rfl dL_isLifted_80 k) ?_
      refine ev_s (fun Q k => rn_bipush (v := 6) (by decide) dL_isLifted_81 k) ?_
      refine ev_bindI (as := [.inr (.inr 18), .inl v2, .inl (6 : Int32)]) (fun Q Q1 => rn_callV (as := [.inl v2, .inl (6 : Int32)]) (rest := [.inl v3]) (o := 18) m_L_22 dL_isLifted_83 (rcv_own ok_18.1 ok_18.2.1 (by decide) (okO_1 ok_18)) rfl rfl (Nat.le_of_ble_eq_true rfl)) pl_X5_ofJob (Nat.le_of_ble_eq_true rfl) rfl (e_X5_ofJob l E (d + 4) v2 (6 : Int32) D2) (fun r3 D4 => ?_)
      refine ev_if (fun Q => rn_icmp_lt (tgt := 103) dL_isLifted_86 (by decide)) (fun c9 => ?_) (fun c10 => ?_)
      · refine ev_s (fun Q k => rn_sub (ls' := [(0, .inr (.inr 18)), (2, .inl v2), (3, .inl v3)]) [0, 1, 2] rfl k) ?_
        exact e_L_isLifted_103 l E d  k4 hk4  v2 v3 D4
      · refine ev_s (fun Q k => rn_aload_n (j := 0) 0 rfl rfl (okO_0 ok_18) dL_isLifted_89 k) ?_
        refine ev_s (fun Q k => rn_iload_n (j := 2) 1 rfl rfl dL_isLifted_90 k) ?_
        refine ev_s (fun Q k => rn_bipush (v := 9) (by decide) dL_isLifted_91 k) ?_
        refine ev_bindI (as := [.inr (.inr 18), .inl v2, .inl (9 : Int32)]) (fun Q Q1 => rn_callV (as := [.inl v2, .inl (9 : Int32)]) (rest := []) (o := 18) m_L_22 dL_isLifted_93 (rcv_own ok_18.1 ok_18.2.1 (by decide) (okO_1 ok_18)) rfl rfl (Nat.le_of_ble_eq_true rfl)) pl_X5_ofJob (Nat.le_of_ble_eq_true rfl) rfl (e_X5_ofJob l E (d + 4) v2 (9 : Int32) D4) (fun r5 D6 => ?_)
        refine ev_if (fun Q => rn_if_ne (tgt := 103) dL_isLifted_96 (by decide)) (fun c7 => ?_) (fun c8 => ?_)
        · refine ev_s (fun Q k => rn_iconst (v := 1) (by decide) dL_isLifted_99 k) ?_
          refine ev_s (fun Q k => rn_goto (tgt := 104) dL_isLifted_100 (by decide) k) ?_
          refine ev_s (fun Q k => rn_sub (ls' := [(0, .inr (.inr 18)), (2, .inl v2), (3, .inl v3)]) [0, 1, 2] rfl k) ?_
          exact e_L_isLifted_104 l E d  k4 hk4  v2 v3 (1 : Int32) D6
        · refine ev_s (fun Q k => rn_sub (ls' := [(0, .inr (.inr 18)), (2, .inl v2), (3, .inl v3)]) [0, 1, 2] rfl k) ?_
          exact e_L_isLifted_103 l E d  k4 hk4  v2 v3 D6
    · refine ev_s (fun Q k => rn_iload_n (j := 3) 2 rfl rfl dL_isLifted_42 k) ?_
      refine ev_s (fun Q k => rn_aload_n (j := 0) 0 rfl rfl (okO_0 ok_18) dL_isLifted_43 k) ?_
      refine ev_s (fun Q k => rn_iload_n (j := 2) 1 rfl rfl dL_isLifted_44 k) ?_
      refine ev_s (fun Q k => rn_bipush (v := 7) (by decide) dL_isLifted_45 k) ?_
      refine ev_bindI (as := [.inr (.inr 18), .inl v2, .inl (7 : Int32)]) (fun Q Q1 => rn_callV (as := [.inl v2, .inl (7 : Int32)]) (rest := [.inl v3]) (o := 18) m_L_22 dL_isLifted_47 (rcv_own ok_18.1 ok_18.2.1 (by decide) (okO_1 ok_18)) rfl rfl (Nat.le_of_ble_eq_true rfl)) pl_X5_ofJob (Nat.le_of_ble_eq_true rfl) rfl (e_X5_ofJob l E (d + 4) v2 (7 : Int32) D2) (fun r11 D12 => ?_)
      refine ev_s (fun Q k => rn_iload (j := 4) 3 rfl dL_isLifted_50 k) ?_
      refine ev_s (fun Q k => rn_ishr dL_isLifted_52 k) ?_
      refine ev_s (fun Q k => rn_iconst (v := 1) (by decide) dL_isLifted_53 k) ?_
      refine ev_s (fun Q k => rn_iand dL_isLifted_54 k) ?_
      refine ev_s (fun Q k => rn_iconst (v := 1) (by decide) dL_isLifted_55 k) ?_
      refine ev_if (fun Q => rn_icmp_ne (tgt := 69) dL_isLifted_56 (by decide)) (fun c15 => ?_) (fun c16 => ?_)
      · refine ev_s (fun Q k => rn_aload_n (j := 0) 0 rfl rfl (okO_0 ok_18) dL_isLifted_59 k) ?_
        refine ev_s (fun Q k => rn_iload (j := 4) 3 rfl dL_isLifted_60 k) ?_
        refine ev_s (fun Q k => rn_iconst (v := 1) (by decide) dL_isLifted_62 k) ?_
        refine ev_bindI (as := [.inr (.inr 18), .inl v4, .inl (1 : Int32)]) (fun Q Q1 => rn_callV (as := [.inl v4, .inl (1 : Int32)]) (rest := [.inl v3]) (o := 18) m_L_18 dL_isLifted_63 (rcv_own ok_18.1 ok_18.2.1 (by decide) (okO_1 ok_18)) rfl rfl (Nat.le_of_ble_eq_true rfl)) pl_X5_of (Nat.le_of_ble_eq_true rfl) rfl (e_X5_of l E (d + 3) v4 (1 : Int32) D12) (fun r13 D14 => ?_)
        refine ev_s (fun Q k => rn_goto (tgt := 70) dL_isLifted_66 (by decide) k) ?_
        refine ev_s (fun Q k => rn_sub (ls' := [(0, .inr (.inr 18)), (2, .inl v2), (4, .inl v4)]) [0, 1, 3] rfl k) ?_
        exact e_L_isLifted_70 l E d  k4 hk4 (fun (v2_ : Int32) (v3_ : Int32) (v4_ : Int32) (D_ : dT) => F_L_isLifted_32 fu k4 v2_ v3_ v4_ D_) (fun v2_ v3_ v4_ D_ => ih v2_ v3_ v4_ D_)  v2 v4 r13 v3 D14
      · refine ev_s (fun Q k => rn_iconst (v := 0) (by decide) dL_isLifted_69 k) ?_
        refine ev_s (fun Q k => rn_sub (ls' := [(0, .inr (.inr 18)), (2, .inl v2), (4, .inl v4)]) [0, 1, 3] rfl k) ?_
        exact e_L_isLifted_70 l E d  k4 hk4 (fun (v2_ : Int32) (v3_ : Int32) (v4_ : Int32) (D_ : dT) => F_L_isLifted_32 fu k4 v2_ v3_ v4_ D_) (fun v2_ v3_ v4_ D_ => ih v2_ v3_ v4_ D_)  v2 v4 (0 : Int32) v3 D12

set_option maxHeartbeats 4000000 in
set_option maxRecDepth 20000 in
theorem e_L_isLifted_4 (l : Launch) (E : eE) (d : Nat)   (fuel : Nat) : ∀ (v1 : Int32) (v2 : Int32) (D : dT), ev l E (d + 7) yL_isLifted cL_isLifted 8 (some .boolean) 4 [(0, .inr (.inr 18)), (1, .inl v1), (2, .inl v2)] [] D eI (F_L_isLifted_4 fuel v1 v2 D) := by
  induction fuel with
  | zero =>
    intro v1 v2 D
    exact ev_none
  | succ fu ih =>
    intro v1 v2 D
    rw [F_L_isLifted_4]
    refine ev_s (fun Q k => rn_iload_n (j := 2) 2 rfl rfl dL_isLifted_4 k) ?_
    refine ev_s (fun Q k => rn_aload_n (j := 0) 0 rfl rfl (okO_0 ok_18) dL_isLifted_5 k) ?_
    refine ev_s (fun Q k => rn_iconst (v := 3) (by decide) dL_isLifted_6 k) ?_
    refine ev_bindI (as := [.inr (.inr 18), .inl (3 : Int32)]) (fun Q Q1 => rn_callV (as := [.inl (3 : Int32)]) (rest := [.inl v2]) (o := 18) m_L_12 dL_isLifted_7 (rcv_own ok_18.1 ok_18.2.1 (by decide) (okO_1 ok_18)) rfl rfl (Nat.le_of_ble_eq_true rfl)) pl_X5_count (Nat.le_of_ble_eq_true rfl) rfl (e_X5_count l E (d + 3) (3 : Int32) D) (fun r1 D2 => ?_)
    refine ev_if (fun Q => rn_icmp_ge (tgt := 253) dL_isLifted_10 (by decide)) (fun c11 => ?_) (fun c12 => ?_)
    · refine ev_s (fun Q k => rn_iload_n (j := 1) 1 rfl rfl dL_isLifted_253 k) ?_
      refine ev_gd (fun g3 => ?_)
      exact ev_ret (fun Q q => rn_ret q .boolean rfl (nz_b g3) dL_isLifted_254)
    · refine ev_s (fun Q k => rn_iload_n (j := 1) 1 rfl rfl dL_isLifted_13 k) ?_
      refine ev_if (fun Q => rn_if_eq (tgt := 253) dL_isLifted_14 (by decide)) (fun c9 => ?_) (fun c10 => ?_)
      · refine ev_s (fun Q k => rn_iload_n (j := 1) 1 rfl rfl dL_isLifted_253 k) ?_
        refine ev_gd (fun g4 => ?_)
        exact ev_ret (fun Q q => rn_ret q .boolean rfl (nz_b g4) dL_isLifted_254)
      · refine ev_s (fun Q k => rn_aload_n (j := 0) 0 rfl rfl (okO_0 ok_18) dL_isLifted_17 k) ?_
        refine ev_s (fun Q k => rn_iload_n (j := 2) 2 rfl rfl dL_isLifted_18 k) ?_
        refine ev_s (fun Q k => rn_iconst (v := 5) (by decide) dL_isLifted_19 k) ?_
        refine ev_bindI (as := [.inr (.inr 18), .inl v2, .inl (5 : Int32)]) (fun Q Q1 => rn_callV (as := [.inl v2, .inl (5 : Int32)]) (rest := []) (o := 18) m_L_22 dL_isLifted_20 (rcv_own ok_18.1 ok_18.2.1 (by decide) (okO_1 ok_18)) rfl rfl (Nat.le_of_ble_eq_true rfl)) pl_X5_ofJob (Nat.le_of_ble_eq_true rfl) rfl (e_X5_ofJob l E (d + 4) v2 (5 : Int32) D2) (fun r5 D6 => ?_)
        refine ev_s (fun Q k => rn_iconst (v := 1) (by decide) dL_isLifted_23 k) ?_
        refine ev_if (fun Q => rn_icmp_ne (tgt := 247) dL_isLifted_24 (by decide)) (fun c7 => ?_) (fun c8 => ?_)
        · refine ev_s (fun Q k => rn_iconst (v := 0) (by decide) dL_isLifted_27 k) ?_
          refine ev_s (fun Q k => rn_istore_n (j := 3) (ls' := [(3, .inl (0 : Int32)), (0, .inr (.inr 18)), (1, .inl v1), (2, .inl v2)]) rfl (by decide) rfl dL_isLifted_28 k) ?_
          refine ev_s (fun Q k => rn_iconst (v := 0) (by decide) dL_isLifted_29 k) ?_
          refine ev_s (fun Q k => rn_istore (j := 4) (ls' := [(4, .inl (0 : Int32)), (3, .inl (0 : Int32)), (0, .inr (.inr 18)), (1, .inl v1), (2, .inl v2)]) (by decide) rfl dL_isLifted_30 k) ?_
          refine ev_s (fun Q k => rn_sub (ls' := [(0, .inr (.inr 18)), (2, .inl v2), (3, .inl (0 : Int32)), (4, .inl (0 : Int32))]) [2, 4, 1, 0] rfl k) ?_
          exact e_L_isLifted_32 l E d  (fun (v1_ : Int32) (v2_ : Int32) (D_ : dT) => F_L_isLifted_4 fu v1_ v2_ D_) (fun v1_ v2_ D_ => ih v1_ v2_ D_) lim v2 (0 : Int32) (0 : Int32) D6
        · refine ev_s (fun Q k => rn_iinc (v := (v2 + (1 : Int32))) (ls' := [(2, .inl (v2 + (1 : Int32))), (0, .inr (.inr 18)), (1, .inl v1)]) 2 rfl rfl (by decide) rfl dL_isLifted_247 k) ?_
          refine ev_s (fun Q k => rn_goto (tgt := 4) dL_isLifted_250 (by decide) k) ?_
          refine ev_s (fun Q k => rn_sub (ls' := [(0, .inr (.inr 18)), (1, .inl v1), (2, .inl (v2 + (1 : Int32)))]) [1, 2, 0] rfl k) ?_
          exact ih v1 (v2 + (1 : Int32)) D6

set_option maxHeartbeats 4000000 in
set_option maxRecDepth 20000 in
theorem e_L_isLifted (l : Launch) (E : eE) (d : Nat)  (D : dT) : ev l E (d + 7) yL_isLifted cL_isLifted 8 (some .boolean) 0 [(0, .inr (.inr 18))] [] D eI (F_L_isLifted D) := by
  unfold F_L_isLifted
  refine ev_s (fun Q k => rn_iconst (v := 1) (by decide) dL_isLifted_0 k) ?_
  refine ev_s (fun Q k => rn_istore_n (j := 1) (ls' := [(1, .inl (1 : Int32)), (0, .inr (.inr 18))]) rfl (by decide) rfl dL_isLifted_1 k) ?_
  refine ev_s (fun Q k => rn_iconst (v := 0) (by decide) dL_isLifted_2 k) ?_
  refine ev_s (fun Q k => rn_istore_n (j := 2) (ls' := [(2, .inl (0 : Int32)), (1, .inl (1 : Int32)), (0, .inr (.inr 18))]) rfl (by decide) rfl dL_isLifted_3 k) ?_
  refine ev_s (fun Q k => rn_sub (ls' := [(0, .inr (.inr 18)), (1, .inl (1 : Int32)), (2, .inl (0 : Int32))]) [2, 1, 0] rfl k) ?_
  exact e_L_isLifted_4 l E d   lim (1 : Int32) (0 : Int32) D

def F_L_law_232 (sL : Nat) (sX : Nat → Int32) (k39 : Int32 → dT → Option (Int32 × dT)) (v2 : Int32) (D : dT) : Option (Int32 × dT) := bd (F_L_holds  D) (fun (r1 : Int32) (D2 : dT) => if r1 = 0 then some ((0 : Int32), D2) else if (v2 - v2 / (3 : Int32) * (3 : Int32)) = (2 : Int32) then bd (F_L_isLifted  D2) (fun (r3 : Int32) (D4 : dT) => if r3 = 0 then some ((0 : Int32), D4) else k39 (v2 + (1 : Int32)) D4) else k39 (v2 + (1 : Int32)) D2)
def F_L_law_165 (sL : Nat) (sX : Nat → Int32) (k39 : Int32 → dT → Option (Int32 × dT)) (v2 : Int32) (v3 : Int32) (v4 : Int32) (v5 : Int64) (v8 : Int32) (v9 : Int64) (D : dT) : Option (Int32 × dT) := if v8 < 0 then F_L_law_232 sL sX k39 v2 D else if ((v3 >>> ((10 : Int32) &&& 31)) &&& (1 : Int32)) = 0 then bd (F_X5_count (15 : Int32) D) (fun (r1 : Int32) (D2 : dT) => bd (F_X5_undo  D2) (fun (r3 : Int32) (D4 : dT) => if r3 = (r1 - (1 : Int32)) then bd (F_L_told  D4) (fun (r5 : Int64) (D6 : dT) => if (lg_cmp r5 v5) = 0 then bd (F_L_act v3 v4 D6) (fun (r7 : Int32) (D8 : dT) => if r7 = v8 then bd (F_L_told  D8) (fun (r9 : Int64) (D10 : dT) => if (lg_cmp r9 v9) = 0 then F_L_law_232 sL sX k39 v2 D10 else some ((0 : Int32), D10)) else some ((0 : Int32), D8)) else some ((0 : Int32), D6)) else some ((0 : Int32), D4))) else F_L_law_232 sL sX k39 v2 D
def F_L_law_160 (sL : Nat) (sX : Nat → Int32) (k39 : Int32 → dT → Option (Int32 × dT)) (v2 : Int32) (v3 : Int32) (v4 : Int32) (v5 : Int64) (v8 : Int32) (v9 : Int64) (s0 : Int32) (s1 : Int32) (D : dT) : Option (Int32 × dT) := if s1 = s0 then F_L_law_165 sL sX k39 v2 v3 v4 v5 v8 v9 D else some ((0 : Int32), D)
def F_L_law_70 (sL : Nat) (sX : Nat → Int32) (k39 : Int32 → dT → Option (Int32 × dT)) (v2 : Int32) (s0 : Int32) (D : dT) : Option (Int32 × dT) := bd (F_L_cell sL sX (((2 : Int32) * v2) + (1 : Int32)) D) (fun (r1 : Int32) (D2 : dT) => bd (F_L_told  D2) (fun (r3 : Int64) (D4 : dT) => bd (F_X5_count (15 : Int32) D4) (fun (r5 : Int32) (D6 : dT) => bd (F_L_act s0 r1 D6) (fun (r7 : Int32) (D8 : dT) => bd (F_L_told  D8) (fun (r9 : Int64) (D10 : dT) => if 0 ≤ r7 then bd (F_X5_count (15 : Int32) D10) (fun (r11 : Int32) (D12 : dT) => if (6 : Int32) ≤ r5 then F_L_law_160 sL sX k39 v2 s0 r1 r3 r7 r9 (6 : Int32) r11 D12 else F_L_law_160 sL sX k39 v2 s0 r1 r3 r7 r9 (r5 + (1 : Int32)) r11 D12) else if (lg_cmp r9 r3) = 0 then bd (F_X5_count (15 : Int32) D10) (fun (r15 : Int32) (D16 : dT) => if r15 = r5 then F_L_law_165 sL sX k39 v2 s0 r1 r3 r7 r9 D16 else some ((0 : Int32), D16)) else some ((0 : Int32), D10))))))
def F_L_law_39 (fuel : Nat) (sL : Nat) (sX : Nat → Int32)  (v2 : Int32) (D : dT) : Option (Int32 × dT) := match fuel with
  | 0 => none
  | fu + 1 => if (34 : Int32) ≤ v2 then bd (F_X5_restore (0 : Int32) D) (fun (r1 : Int32) (D2 : dT) => if r1 = 0 then bd (F_X5_count (1 : Int32) D2) (fun (r3 : Int32) (D4 : dT) => if r3 = 0 then some ((1 : Int32), D4) else some ((0 : Int32), D4)) else some ((0 : Int32), D2)) else if (3 : Int32) ≤ v2 then if (5 : Int32) ≤ v2 then bd (F_L_cell sL sX ((2 : Int32) * v2) D) (fun (r9 : Int32) (D10 : dT) => F_L_law_70 sL sX (fun (v2_ : Int32) (D_ : dT) => F_L_law_39 fu sL sX v2_ D_) v2 r9 D10) else F_L_law_70 sL sX (fun (v2_ : Int32) (D_ : dT) => F_L_law_39 fu sL sX v2_ D_) v2 (3 : Int32) D else F_L_law_70 sL sX (fun (v2_ : Int32) (D_ : dT) => F_L_law_39 fu sL sX v2_ D_) v2 (1 : Int32) D
def F_L_law (sL : Nat) (sX : Nat → Int32) (D : dT) : Option (Int32 × dT) := bd (F_X5_undo  D) (fun (r1 : Int32) (D2 : dT) => if r1 = (-5 : Int32) then bd (F_X5_restore (1 : Int32) D2) (fun (r3 : Int32) (D4 : dT) => if r3 = (-5 : Int32) then bd (F_X5_save (0 : Int32) D4) (fun (r5 : Int32) (D6 : dT) => if r5 = 0 then F_L_law_39 lim sL sX (0 : Int32) D6 else some ((0 : Int32), D6)) else some ((0 : Int32), D4)) else some ((0 : Int32), D2))
set_option maxHeartbeats 20000000 in
set_option maxRecDepth 100000 in
theorem e_L_law_232 (l : Launch) (E : eE) (d : Nat) (sL : Nat) (hsL : E.2.2.2.2.2.1 = sL) (sX : Nat → Int32) (hsX : E.2.2.2.2.2.2 = sX) (k39 : Int32 → dT → Option (Int32 × dT)) (hk39 : ∀ (v2 : Int32) (D : dT), ev l E (d + 8) yL_law cL_law 12 (some .boolean) 39 [(0, .inr (.inr 17)), (1, .inr (.inr 18)), (2, .inl v2)] [] D eI (k39 v2 D)) (v2 : Int32) (D : dT) : ev l E (d + 8) yL_law cL_law 12 (some .boolean) 232 [(0, .inr (.inr 17)), (1, .inr (.inr 18)), (2, .inl v2)] [] D eI (F_L_law_232 sL sX k39 v2 D) := by
  unfold F_L_law_232
  refine ev_s (fun Q k => rn_aload_n (j := 1) 1 rfl rfl (okO_0 ok_18) dL_law_232 k) ?_
  refine ev_bindI (as := [.inr (.inr 18)]) (fun Q Q1 => rn_callS (as := [.inr (.inr 18)]) (rest := []) m_L_85 dL_law_233 rfl rfl (Nat.le_of_ble_eq_true rfl)) pl_L_holds (Nat.le_of_ble_eq_true rfl) rfl (e_L_holds l E (d + 3)  D) (fun r1 D2 => ?_)
  refine ev_if (fun Q => rn_if_eq (tgt := 253) dL_law_236 (by decide)) (fun c9 => ?_) (fun c10 => ?_)
  · refine ev_s (fun Q k => rn_iconst (v := 0) (by decide) dL_law_253 k) ?_
    exact ev_ret (fun Q q => rn_ret q .boolean rfl rfl dL_law_254)
  · refine ev_s (fun Q k => rn_iload_n (j := 2) 2 rfl rfl dL_law_239 k) ?_
    refine ev_s (fun Q k => rn_iconst (v := 3) (by decide) dL_law_240 k) ?_
    refine ev_s (fun Q k => rn_irem (by decide) dL_law_241 k) ?_
    refine ev_s (fun Q k => rn_iconst (v := 2) (by decide) dL_law_242 k) ?_
    refine ev_if (fun Q => rn_icmp_ne (tgt := 255) dL_law_243 (by decide)) (fun c7 => ?_) (fun c8 => ?_)
    · refine ev_s (fun Q k => rn_aload_n (j := 1) 1 rfl rfl (okO_0 ok_18) dL_law_246 k) ?_
      refine ev_bindI (as := [.inr (.inr 18)]) (fun Q Q1 => rn_callS (as := [.inr (.inr 18)]) (rest := []) m_L_89 dL_law_247 rfl rfl (Nat.le_of_ble_eq_true rfl)) pl_L_isLifted (Nat.le_of_ble_eq_true rfl) rfl (e_L_isLifted l E d  D2) (fun r3 D4 => ?_)
      refine ev_if (fun Q => rn_if_ne (tgt := 255) dL_law_250 (by decide)) (fun c5 => ?_) (fun c6 => ?_)
      · refine ev_s (fun Q k => rn_iconst (v := 0) (by decide) dL_law_253 k) ?_
        exact ev_ret (fun Q q => rn_ret q .boolean rfl rfl dL_law_254)
      · refine ev_s (fun Q k => rn_iinc (v := (v2 + (1 : Int32))) (ls' := [(2, .inl (v2 + (1 : Int32))), (0, .inr (.inr 17)), (1, .inr (.inr 18))]) 2 rfl rfl (by decide) rfl dL_law_255 k) ?_
        refine ev_s (fun Q k => rn_goto (tgt := 39) dL_law_258 (by decide) k) ?_
        refine ev_s (fun Q k => rn_sub (ls' := [(0, .inr (.inr 17)), (1, .inr (.inr 18)), (2, .inl (v2 + (1 : Int32)))]) [1, 2, 0] rfl k) ?_
        exact hk39 (v2 + (1 : Int32)) D4
    · refine ev_s (fun Q k => rn_iinc (v := (v2 + (1 : Int32))) (ls' := [(2, .inl (v2 + (1 : Int32))), (0, .inr (.inr 17)), (1, .inr (.inr 18))]) 2 rfl rfl (by decide) rfl dL_law_255 k) ?_
      refine ev_s (fun Q k => rn_goto (tgt := 39) dL_law_258 (by decide) k) ?_
      refine ev_s (fun Q k => rn_sub (ls' := [(0, .inr (.inr 17)), (1, .inr (.inr 18)), (2, .inl (v2 + (1 : Int32)))]) [1, 2, 0] rfl k) ?_
      exact hk39 (v2 + (1 : Int32)) D2

set_option maxHeartbeats 20000000 in
set_option maxRecDepth 100000 in
theorem e_L_law_165 (l : Launch) (E : eE) (d : Nat) (sL : Nat) (hsL : E.2.2.2.2.2.1 = sL) (sX : Nat → Int32) (hsX : E.2.2.2.2.2.2 = sX) (k39 : Int32 → dT → Option (Int32 × dT)) (hk39 : ∀ (v2 : Int32) (D : dT), ev l E (d + 8) yL_law cL_law 12 (some .boolean) 39 [(0, .inr (.inr 17)), (1, .inr (.inr 18)), (2, .inl v2)] [] D eI (k39 v2 D)) (v2 : Int32) (v3 : Int32) (v4 : Int32) (v5 : Int64) (v8 : Int32) (v9 : Int64) (D : dT) : ev l E (d + 8) yL_law cL_law 12 (some .boolean) 165 [(0, .inr (.inr 17)), (1, .inr (.inr 18)), (2, .inl v2), (3, .inl v3), (4, .inl v4), (5, .inr (.inl v5)), (8, .inl v8), (9, .inr (.inl v9))] [] D eI (F_L_law_165 sL sX k39 v2 v3 v4 v5 v8 v9 D) := by
  unfold F_L_law_165
  refine ev_s (fun Q k => rn_iload (j := 8) 6 rfl dL_law_165 k) ?_
  refine ev_if (fun Q => rn_if_lt (tgt := 232) dL_law_167 (by decide)) (fun c21 => ?_) (fun c22 => ?_)
  · refine ev_s (fun Q k => rn_sub (ls' := [(0, .inr (.inr 17)), (1, .inr (.inr 18)), (2, .inl v2)]) [0, 1, 2] rfl k) ?_
    exact e_L_law_232 l E d sL hsL sX hsX k39 hk39  v2 D
  · refine ev_s (fun Q k => rn_iload_n (j := 3) 3 rfl rfl dL_law_170 k) ?_
    refine ev_s (fun Q k => rn_bipush (v := 10) (by decide) dL_law_171 k) ?_
    refine ev_s (fun Q k => rn_ishr dL_law_173 k) ?_
    refine ev_s (fun Q k => rn_iconst (v := 1) (by decide) dL_law_174 k) ?_
    refine ev_s (fun Q k => rn_iand dL_law_175 k) ?_
    refine ev_if (fun Q => rn_if_ne (tgt := 232) dL_law_176 (by decide)) (fun c19 => ?_) (fun c20 => ?_)
    · refine ev_s (fun Q k => rn_aload_n (j := 1) 1 rfl rfl (okO_0 ok_18) dL_law_179 k) ?_
      refine ev_s (fun Q k => rn_bipush (v := 15) (by decide) dL_law_180 k) ?_
      refine ev_bindI (as := [.inr (.inr 18), .inl (15 : Int32)]) (fun Q Q1 => rn_callV (as := [.inl (15 : Int32)]) (rest := []) (o := 18) m_L_12 dL_law_182 (rcv_own ok_18.1 ok_18.2.1 (by decide) (okO_1 ok_18)) rfl rfl (Nat.le_of_ble_eq_true rfl)) pl_X5_count (Nat.le_of_ble_eq_true rfl) rfl (e_X5_count l E (d + 4) (15 : Int32) D) (fun r1 D2 => ?_)
      refine ev_s (fun Q k => rn_iconst (v := 1) (by decide) dL_law_185 k) ?_
      refine ev_s (fun Q k => rn_isub dL_law_186 k) ?_
      refine ev_s (fun Q k => rn_istore (j := 11) (ls' := [(11, .inl (r1 - (1 : Int32))), (0, .inr (.inr 17)), (1, .inr (.inr 18)), (2, .inl v2), (3, .inl v3), (4, .inl v4), (5, .inr (.inl v5)), (8, .inl v8), (9, .inr (.inl v9))]) (by decide) rfl dL_law_187 k) ?_
      refine ev_s (fun Q k => rn_aload_n (j := 1) 2 rfl rfl (okO_0 ok_18) dL_law_189 k) ?_
      refine ev_bindI (as := [.inr (.inr 18)]) (fun Q Q1 => rn_callV (as := []) (rest := []) (o := 18) m_L_63 dL_law_190 (rcv_own ok_18.1 ok_18.2.1 (by decide) (okO_1 ok_18)) rfl rfl (Nat.le_of_ble_eq_true rfl)) pl_X5_undo (Nat.le_of_ble_eq_true rfl) rfl (e_X5_undo l E (d + 4)  D2) (fun r3 D4 => ?_)
      refine ev_s (fun Q k => rn_iload (j := 11) 0 rfl dL_law_193 k) ?_
      refine ev_if (fun Q => rn_icmp_ne (tgt := 230) dL_law_195 (by decide)) (fun c17 => ?_) (fun c18 => ?_)
      · refine ev_s (fun Q k => rn_aload_n (j := 1) 2 rfl rfl (okO_0 ok_18) dL_law_198 k) ?_
        refine ev_bindJ (as := [.inr (.inr 18)]) (fun Q Q1 => rn_callS (as := [.inr (.inr 18)]) (rest := []) m_L_77 dL_law_199 rfl rfl (Nat.le_of_ble_eq_true rfl)) pl_L_told (Nat.le_of_ble_eq_true rfl) rfl (e_L_told l E (d + 3)  D4) (fun r5 D6 => ?_)
        refine ev_s (fun Q k => rn_lload (j := 5) 6 rfl dL_law_202 k) ?_
        refine ev_s (fun Q k => rn_lcmp (v := (lg_cmp r5 v5)) rfl dL_law_204 k) ?_
        refine ev_if (fun Q => rn_if_ne (tgt := 230) dL_law_205 (by decide)) (fun c15 => ?_) (fun c16 => ?_)
        · refine ev_s (fun Q k => rn_aload_n (j := 1) 2 rfl rfl (okO_0 ok_18) dL_law_208 k) ?_
          refine ev_s (fun Q k => rn_iload_n (j := 3) 4 rfl rfl dL_law_209 k) ?_
          refine ev_s (fun Q k => rn_iload (j := 4) 5 rfl dL_law_210 k) ?_
          refine ev_bindI (as := [.inr (.inr 18), .inl v3, .inl v4]) (fun Q Q1 => rn_callS (as := [.inr (.inr 18), .inl v3, .inl v4]) (rest := []) m_L_81 dL_law_212 rfl rfl (Nat.le_of_ble_eq_true rfl)) pl_L_act (Nat.le_of_ble_eq_true rfl) rfl (e_L_act l E d v3 v4 D6) (fun r7 D8 => ?_)
          refine ev_s (fun Q k => rn_iload (j := 8) 7 rfl dL_law_215 k) ?_
          refine ev_if (fun Q => rn_icmp_ne (tgt := 230) dL_law_217 (by decide)) (fun c13 => ?_) (fun c14 => ?_)
          · refine ev_s (fun Q k => rn_aload_n (j := 1) 2 rfl rfl (okO_0 ok_18) dL_law_220 k) ?_
            refine ev_bindJ (as := [.inr (.inr 18)]) (fun Q Q1 => rn_callS (as := [.inr (.inr 18)]) (rest := []) m_L_77 dL_law_221 rfl rfl (Nat.le_of_ble_eq_true rfl)) pl_L_told (Nat.le_of_ble_eq_true rfl) rfl (e_L_told l E (d + 3)  D8) (fun r9 D10 => ?_)
            refine ev_s (fun Q k => rn_lload (j := 9) 8 rfl dL_law_224 k) ?_
            refine ev_s (fun Q k => rn_lcmp (v := (lg_cmp r9 v9)) rfl dL_law_226 k) ?_
            refine ev_if (fun Q => rn_if_eq (tgt := 232) dL_law_227 (by decide)) (fun c11 => ?_) (fun c12 => ?_)
            · refine ev_s (fun Q k => rn_sub (ls' := [(0, .inr (.inr 17)), (1, .inr (.inr 18)), (2, .inl v2)]) [1, 2, 3] rfl k) ?_
              exact e_L_law_232 l E d sL hsL sX hsX k39 hk39  v2 D10
            · refine ev_s (fun Q k => rn_iconst (v := 0) (by decide) dL_law_230 k) ?_
              exact ev_ret (fun Q q => rn_ret q .boolean rfl rfl dL_law_231)
          · refine ev_s (fun Q k => rn_iconst (v := 0) (by decide) dL_law_230 k) ?_
            exact ev_ret (fun Q q => rn_ret q .boolean rfl rfl dL_law_231)
        · refine ev_s (fun Q k => rn_iconst (v := 0) (by decide) dL_law_230 k) ?_
          exact ev_ret (fun Q q => rn_ret q .boolean rfl rfl dL_law_231)
      · refine ev_s (fun Q k => rn_iconst (v := 0) (by decide) dL_law_230 k) ?_
        exact ev_ret (fun Q q => rn_ret q .boolean rfl rfl dL_law_231)
    · refine ev_s (fun Q k => rn_sub (ls' := [(0, .inr (.inr 17)), (1, .inr (.inr 18)), (2, .inl v2)]) [0, 1, 2] rfl k) ?_
      exact e_L_law_232 l E d sL hsL sX hsX k39 hk39  v2 D

set_option maxHeartbeats 20000000 in
set_option maxRecDepth 100000 in
theorem e_L_law_160 (l : Launch) (E : eE) (d : Nat) (sL : Nat) (hsL : E.2.2.2.2.2.1 = sL) (sX : Nat → Int32) (hsX : E.2.2.2.2.2.2 = sX) (k39 : Int32 → dT → Option (Int32 × dT)) (hk39 : ∀ (v2 : Int32) (D : dT), ev l E (d + 8) yL_law cL_law 12 (some .boolean) 39 [(0, .inr (.inr 17)), (1, .inr (.inr 18)), (2, .inl v2)] [] D eI (k39 v2 D)) (v2 : Int32) (v3 : Int32) (v4 : Int32) (v5 : Int64) (v8 : Int32) (v9 : Int64) (s0 : Int32) (s1 : Int32) (D : dT) : ev l E (d + 8) yL_law cL_law 12 (some .boolean) 160 [(0, .inr (.inr 17)), (1, .inr (.inr 18)), (2, .inl v2), (3, .inl v3), (4, .inl v4), (5, .inr (.inl v5)), (8, .inl v8), (9, .inr (.inl v9))] [.inl s0, .inl s1] D eI (F_L_law_160 sL sX k39 v2 v3 v4 v5 v8 v9 s0 s1 D) := by
  unfold F_L_law_160
  refine ev_if (fun Q => rn_icmp_eq (tgt := 165) dL_law_160 (by decide)) (fun c1 => ?_) (fun c2 => ?_)
  · exact e_L_law_165 l E d sL hsL sX hsX k39 hk39  v2 v3 v4 v5 v8 v9 D
  · refine ev_s (fun Q k => rn_iconst (v := 0) (by decide) dL_law_163 k) ?_
    exact ev_ret (fun Q q => rn_ret q .boolean rfl rfl dL_law_164)

set_option maxHeartbeats 20000000 in
set_option maxRecDepth 100000 in
theorem e_L_law_70 (l : Launch) (E : eE) (d : Nat) (sL : Nat) (hsL : E.2.2.2.2.2.1 = sL) (sX : Nat → Int32) (hsX : E.2.2.2.2.2.2 = sX) (k39 : Int32 → dT → Option (Int32 × dT)) (hk39 : ∀ (v2 : Int32) (D : dT), ev l E (d + 8) yL_law cL_law 12 (some .boolean) 39 [(0, .inr (.inr 17)), (1, .inr (.inr 18)), (2, .inl v2)] [] D eI (k39 v2 D)) (v2 : Int32) (s0 : Int32) (D : dT) : ev l E (d + 8) yL_law cL_law 12 (some .boolean) 70 [(0, .inr (.inr 17)), (1, .inr (.inr 18)), (2, .inl v2)] [.inl s0] D eI (F_L_law_70 sL sX k39 v2 s0 D) := by
  unfold F_L_law_70
  refine ev_s (fun Q k => rn_istore_n (j := 3) (ls' := [(3, .inl s0), (0, .inr (.inr 17)), (1, .inr (.inr 18)), (2, .inl v2)]) rfl (by decide) rfl dL_law_70 k) ?_
  refine ev_s (fun Q k => rn_aload_n (j := 0) 1 rfl rfl (by decide) dL_law_71 k) ?_
  refine ev_s (fun Q k => rn_iconst (v := 2) (by decide) dL_law_72 k) ?_
  refine ev_s (fun Q k => rn_iload_n (j := 2) 3 rfl rfl dL_law_73 k) ?_
  refine ev_s (fun Q k => rn_imul dL_law_74 k) ?_
  refine ev_s (fun Q k => rn_iconst (v := 1) (by decide) dL_law_75 k) ?_
  refine ev_s (fun Q k => rn_iadd dL_law_76 k) ?_
  refine ev_bindI (as := [.inr (.inr 17), .inl (((2 : Int32) * v2) + (1 : Int32))]) (fun Q Q1 => rn_callS (as := [.inr (.inr 17), .inl (((2 : Int32) * v2) + (1 : Int32))]) (rest := []) m_L_73 dL_law_77 rfl rfl (Nat.le_of_ble_eq_true rfl)) pl_L_cell (Nat.le_of_ble_eq_true rfl) rfl (e_L_cell l E (d + 7) sL hsL sX hsX (((2 : Int32) * v2) + (1 : Int32)) D) (fun r1 D2 => ?_)
  refine ev_s (fun Q k => rn_istore (j := 4) (ls' := [(4, .inl r1), (3, .inl s0), (0, .inr (.inr 17)), (1, .inr (.inr 18)), (2, .inl v2)]) (by decide) rfl dL_law_80 k) ?_
  refine ev_s (fun Q k => rn_aload_n (j := 1) 3 rfl rfl (okO_0 ok_18) dL_law_82 k) ?_
  refine ev_bindJ (as := [.inr (.inr 18)]) (fun Q Q1 => rn_callS (as := [.inr (.inr 18)]) (rest := []) m_L_77 dL_law_83 rfl rfl (Nat.le_of_ble_eq_true rfl)) pl_L_told (Nat.le_of_ble_eq_true rfl) rfl (e_L_told l E (d + 3)  D2) (fun r3 D4 => ?_)
  refine ev_s (fun Q k => rn_lstore (j := 5) (ls' := [(5, .inr (.inl r3)), (4, .inl r1), (3, .inl s0), (0, .inr (.inr 17)), (1, .inr (.inr 18)), (2, .inl v2)]) (by decide) rfl dL_law_86 k) ?_
  refine ev_s (fun Q k => rn_aload_n (j := 1) 4 rfl rfl (okO_0 ok_18) dL_law_88 k) ?_
  refine ev_s (fun Q k => rn_bipush (v := 15) (by decide) dL_law_89 k) ?_
  refine ev_bindI (as := [.inr (.inr 18), .inl (15 : Int32)]) (fun Q Q1 => rn_callV (as := [.inl (15 : Int32)]) (rest := []) (o := 18) m_L_12 dL_law_91 (rcv_own ok_18.1 ok_18.2.1 (by decide) (okO_1 ok_18)) rfl rfl (Nat.le_of_ble_eq_true rfl)) pl_X5_count (Nat.le_of_ble_eq_true rfl) rfl (e_X5_count l E (d + 4) (15 : Int32) D4) (fun r5 D6 => ?_)
  refine ev_s (fun Q k => rn_istore (j := 7) (ls' := [(7, .inl r5), (5, .inr (.inl r3)), (4, .inl r1), (3, .inl s0), (0, .inr (.inr 17)), (1, .inr (.inr 18)), (2, .inl v2)]) (by decide) rfl dL_law_94 k) ?_
  refine ev_s (fun Q k => rn_aload_n (j := 1) 5 rfl rfl (okO_0 ok_18) dL_law_96 k) ?_
  refine ev_s (fun Q k => rn_iload_n (j := 3) 3 rfl rfl dL_law_97 k) ?_
  refine ev_s (fun Q k => rn_iload (j := 4) 2 rfl dL_law_98 k) ?_
  refine ev_bindI (as := [.inr (.inr 18), .inl s0, .inl r1]) (fun Q Q1 => rn_callS (as := [.inr (.inr 18), .inl s0, .inl r1]) (rest := []) m_L_81 dL_law_100 rfl rfl (Nat.le_of_ble_eq_true rfl)) pl_L_act (Nat.le_of_ble_eq_true rfl) rfl (e_L_act l E d s0 r1 D6) (fun r7 D8 => ?_)
  refine ev_s (fun Q k => rn_istore (j := 8) (ls' := [(8, .inl r7), (7, .inl r5), (5, .inr (.inl r3)), (4, .inl r1), (3, .inl s0), (0, .inr (.inr 17)), (1, .inr (.inr 18)), (2, .inl v2)]) (by decide) rfl dL_law_103 k) ?_
  refine ev_s (fun Q k => rn_aload_n (j := 1) 6 rfl rfl (okO_0 ok_18) dL_law_105 k) ?_
  refine ev_bindJ (as := [.inr (.inr 18)]) (fun Q Q1 => rn_callS (as := [.inr (.inr 18)]) (rest := []) m_L_77 dL_law_106 rfl rfl (Nat.le_of_ble_eq_true rfl)) pl_L_told (Nat.le_of_ble_eq_true rfl) rfl (e_L_told l E (d + 3)  D8) (fun r9 D10 => ?_)
  refine ev_s (fun Q k => rn_lstore (j := 9) (ls' := [(9, .inr (.inl r9)), (8, .inl r7), (7, .inl r5), (5, .inr (.inl r3)), (4, .inl r1), (3, .inl s0), (0, .inr (.inr 17)), (1, .inr (.inr 18)), (2, .inl v2)]) (by decide) rfl dL_law_109 k) ?_
  refine ev_s (fun Q k => rn_iload (j := 8) 1 rfl dL_law_111 k) ?_
  refine ev_if (fun Q => rn_if_ge (tgt := 138) dL_law_113 (by decide)) (fun c21 => ?_) (fun c22 => ?_)
  · refine ev_s (fun Q k => rn_aload_n (j := 1) 7 rfl rfl (okO_0 ok_18) dL_law_138 k) ?_
    refine ev_s (fun Q k => rn_bipush (v := 15) (by decide) dL_law_139 k) ?_
    refine ev_bindI (as := [.inr (.inr 18), .inl (15 : Int32)]) (fun Q Q1 => rn_callV (as := [.inl (15 : Int32)]) (rest := []) (o := 18) m_L_12 dL_law_141 (rcv_own ok_18.1 ok_18.2.1 (by decide) (okO_1 ok_18)) rfl rfl (Nat.le_of_ble_eq_true rfl)) pl_X5_count (Nat.le_of_ble_eq_true rfl) rfl (e_X5_count l E (d + 4) (15 : Int32) D10) (fun r11 D12 => ?_)
    refine ev_s (fun Q k => rn_iload (j := 7) 2 rfl dL_law_144 k) ?_
    refine ev_s (fun Q k => rn_bipush (v := 6) (by decide) dL_law_146 k) ?_
    refine ev_if (fun Q => rn_icmp_ge (tgt := 158) dL_law_148 (by decide)) (fun c13 => ?_) (fun c14 => ?_)
    · refine ev_s (fun Q k => rn_bipush (v := 6) (by decide) dL_law_158 k) ?_
      refine ev_s (fun Q k => rn_sub (ls' := [(0, .inr (.inr 17)), (1, .inr (.inr 18)), (2, .inl v2), (3, .inl s0), (4, .inl r1), (5, .inr (.inl r3)), (8, .inl r7), (9, .inr (.inl r9))]) [6, 7, 8, 5, 4, 3, 1, 0] rfl k) ?_
      exact e_L_law_160 l E d sL hsL sX hsX k39 hk39  v2 s0 r1 r3 r7 r9 (6 : Int32) r11 D12
    · refine ev_s (fun Q k => rn_iload (j := 7) 2 rfl dL_law_151 k) ?_
      refine ev_s (fun Q k => rn_iconst (v := 1) (by decide) dL_law_153 k) ?_
      refine ev_s (fun Q k => rn_iadd dL_law_154 k) ?_
      refine ev_s (fun Q k => rn_goto (tgt := 160) dL_law_155 (by decide) k) ?_
      refine ev_s (fun Q k => rn_sub (ls' := [(0, .inr (.inr 17)), (1, .inr (.inr 18)), (2, .inl v2), (3, .inl s0), (4, .inl r1), (5, .inr (.inl r3)), (8, .inl r7), (9, .inr (.inl r9))]) [6, 7, 8, 5, 4, 3, 1, 0] rfl k) ?_
      exact e_L_law_160 l E d sL hsL sX hsX k39 hk39  v2 s0 r1 r3 r7 r9 (r5 + (1 : Int32)) r11 D12
  · refine ev_s (fun Q k => rn_lload (j := 9) 0 rfl dL_law_116 k) ?_
    refine ev_s (fun Q k => rn_lload (j := 5) 3 rfl dL_law_118 k) ?_
    refine ev_s (fun Q k => rn_lcmp (v := (lg_cmp r9 r3)) rfl dL_law_120 k) ?_
    refine ev_if (fun Q => rn_if_ne (tgt := 163) dL_law_121 (by decide)) (fun c19 => ?_) (fun c20 => ?_)
    · refine ev_s (fun Q k => rn_aload_n (j := 1) 7 rfl rfl (okO_0 ok_18) dL_law_124 k) ?_
      refine ev_s (fun Q k => rn_bipush (v := 15) (by decide) dL_law_125 k) ?_
      refine ev_bindI (as := [.inr (.inr 18), .inl (15 : Int32)]) (fun Q Q1 => rn_callV (as := [.inl (15 : Int32)]) (rest := []) (o := 18) m_L_12 dL_law_127 (rcv_own ok_18.1 ok_18.2.1 (by decide) (okO_1 ok_18)) rfl rfl (Nat.le_of_ble_eq_true rfl)) pl_X5_count (Nat.le_of_ble_eq_true rfl) rfl (e_X5_count l E (d + 4) (15 : Int32) D10) (fun r15 D16 => ?_)
      refine ev_s (fun Q k => rn_iload (j := 7) 2 rfl dL_law_130 k) ?_
      refine ev_if (fun Q => rn_icmp_eq (tgt := 165) dL_law_132 (by decide)) (fun c17 => ?_) (fun c18 => ?_)
      · refine ev_s (fun Q k => rn_sub (ls' := [(0, .inr (.inr 17)), (1, .inr (.inr 18)), (2, .inl v2), (3, .inl s0), (4, .inl r1), (5, .inr (.inl r3)), (8, .inl r7), (9, .inr (.inl r9))]) [6, 7, 8, 5, 4, 3, 1, 0] rfl k) ?_
        exact e_L_law_165 l E d sL hsL sX hsX k39 hk39  v2 s0 r1 r3 r7 r9 D16
      · refine ev_s (fun Q k => rn_goto (tgt := 163) dL_law_135 (by decide) k) ?_
        refine ev_s (fun Q k => rn_iconst (v := 0) (by decide) dL_law_163 k) ?_
        exact ev_ret (fun Q q => rn_ret q .boolean rfl rfl dL_law_164)
    · refine ev_s (fun Q k => rn_iconst (v := 0) (by decide) dL_law_163 k) ?_
      exact ev_ret (fun Q q => rn_ret q .boolean rfl rfl dL_law_164)

set_option maxHeartbeats 20000000 in
set_option maxRecDepth 100000 in
theorem e_L_law_39 (l : Launch) (E : eE) (d : Nat) (sL : Nat) (hsL : E.2.2.2.2.2.1 = sL) (sX : Nat → Int32) (hsX : E.2.2.2.2.2.2 = sX)  (fuel : Nat) : ∀ (v2 : Int32) (D : dT), ev l E (d + 8) yL_law cL_law 12 (some .boolean) 39 [(0, .inr (.inr 17)), (1, .inr (.inr 18)), (2, .inl v2)] [] D eI (F_L_law_39 fuel sL sX v2 D) := by
  induction fuel with
  | zero =>
    intro v2 D
    exact ev_none
  | succ fu ih =>
    intro v2 D
    rw [F_L_law_39]
    refine ev_s (fun Q k => rn_iload_n (j := 2) 2 rfl rfl dL_law_39 k) ?_
    refine ev_s (fun Q k => rn_bipush (v := 34) (by decide) dL_law_40 k) ?_
    refine ev_if (fun Q => rn_icmp_ge (tgt := 261) dL_law_42 (by decide)) (fun c15 => ?_) (fun c16 => ?_)
    · refine ev_s (fun Q k => rn_aload_n (j := 1) 1 rfl rfl (okO_0 ok_18) dL_law_261 k) ?_
      refine ev_s (fun Q k => rn_iconst (v := 0) (by decide) dL_law_262 k) ?_
      refine ev_bindI (as := [.inr (.inr 18), .inl (0 : Int32)]) (fun Q Q1 => rn_callV (as := [.inl (0 : Int32)]) (rest := []) (o := 18) m_L_67 dL_law_263 (rcv_own ok_18.1 ok_18.2.1 (by decide) (okO_1 ok_18)) rfl rfl (Nat.le_of_ble_eq_true rfl)) pl_X5_restore (Nat.le_of_ble_eq_true rfl) rfl (e_X5_restore l E (d + 4) (0 : Int32) D) (fun r1 D2 => ?_)
      refine ev_if (fun Q => rn_if_ne (tgt := 281) dL_law_266 (by decide)) (fun c7 => ?_) (fun c8 => ?_)
      · refine ev_s (fun Q k => rn_aload_n (j := 1) 1 rfl rfl (okO_0 ok_18) dL_law_269 k) ?_
        refine ev_s (fun Q k => rn_iconst (v := 1) (by decide) dL_law_270 k) ?_
        refine ev_bindI (as := [.inr (.inr 18), .inl (1 : Int32)]) (fun Q Q1 => rn_callV (as := [.inl (1 : Int32)]) (rest := []) (o := 18) m_L_12 dL_law_271 (rcv_own ok_18.1 ok_18.2.1 (by decide) (okO_1 ok_18)) rfl rfl (Nat.le_of_ble_eq_true rfl)) pl_X5_count (Nat.le_of_ble_eq_true rfl) rfl (e_X5_count l E (d + 4) (1 : Int32) D2) (fun r3 D4 => ?_)
        refine ev_if (fun Q => rn_if_ne (tgt := 281) dL_law_274 (by decide)) (fun c5 => ?_) (fun c6 => ?_)
        · refine ev_s (fun Q k => rn_iconst (v := 1) (by decide) dL_law_277 k) ?_
          refine ev_s (fun Q k => rn_goto (tgt := 282) dL_law_278 (by decide) k) ?_
          exact ev_ret (fun Q q => rn_ret q .boolean rfl rfl dL_law_282)
        · refine ev_s (fun Q k => rn_iconst (v := 0) (by decide) dL_law_281 k) ?_
          exact ev_ret (fun Q q => rn_ret q .boolean rfl rfl dL_law_282)
      · refine ev_s (fun Q k => rn_iconst (v := 0) (by decide) dL_law_281 k) ?_
        exact ev_ret (fun Q q => rn_ret q .boolean rfl rfl dL_law_282)
    · refine ev_s (fun Q k => rn_iload_n (j := 2) 2 rfl rfl dL_law_45 k) ?_
      refine ev_s (fun Q k => rn_iconst (v := 3) (by decide) dL_law_46 k) ?_
      refine ev_if (fun Q => rn_icmp_ge (tgt := 54) dL_law_47 (by decide)) (fun c13 => ?_) (fun c14 => ?_)
      · refine ev_s (fun Q k => rn_iload_n (j := 2) 2 rfl rfl dL_law_54 k) ?_
        refine ev_s (fun Q k => rn_iconst (v := 5) (by decide) dL_law_55 k) ?_
        refine ev_if (fun Q => rn_icmp_ge (tgt := 63) dL_law_56 (by decide)) (fun c11 => ?_) (fun c12 => ?_)
        · refine ev_s (fun Q k => rn_aload_n (j := 0) 0 rfl rfl (by decide) dL_law_63 k) ?_
          refine ev_s (fun Q k => rn_iconst (v := 2) (by decide) dL_law_64 k) ?_
          refine ev_s (fun Q k => rn_iload_n (j := 2) 2 rfl rfl dL_law_65 k) ?_
          refine ev_s (fun Q k => rn_imul dL_law_66 k) ?_
          refine ev_bindI (as := [.inr (.inr 17), .inl ((2 : Int32) * v2)]) (fun Q Q1 => rn_callS (as := [.inr (.inr 17), .inl ((2 : Int32) * v2)]) (rest := []) m_L_73 dL_law_67 rfl rfl (Nat.le_of_ble_eq_true rfl)) pl_L_cell (Nat.le_of_ble_eq_true rfl) rfl (e_L_cell l E (d + 7) sL hsL sX hsX ((2 : Int32) * v2) D) (fun r9 D10 => ?_)
          exact e_L_law_70 l E d sL hsL sX hsX (fun (v2_ : Int32) (D_ : dT) => F_L_law_39 fu sL sX v2_ D_) (fun v2_ D_ => ih v2_ D_)  v2 r9 D10
        · refine ev_s (fun Q k => rn_iconst (v := 3) (by decide) dL_law_59 k) ?_
          refine ev_s (fun Q k => rn_goto (tgt := 70) dL_law_60 (by decide) k) ?_
          exact e_L_law_70 l E d sL hsL sX hsX (fun (v2_ : Int32) (D_ : dT) => F_L_law_39 fu sL sX v2_ D_) (fun v2_ D_ => ih v2_ D_)  v2 (3 : Int32) D
      · refine ev_s (fun Q k => rn_iconst (v := 1) (by decide) dL_law_50 k) ?_
        refine ev_s (fun Q k => rn_goto (tgt := 70) dL_law_51 (by decide) k) ?_
        exact e_L_law_70 l E d sL hsL sX hsX (fun (v2_ : Int32) (D_ : dT) => F_L_law_39 fu sL sX v2_ D_) (fun v2_ D_ => ih v2_ D_)  v2 (1 : Int32) D

set_option maxHeartbeats 20000000 in
set_option maxRecDepth 100000 in
theorem e_L_law (l : Launch) (E : eE) (d : Nat) (sL : Nat) (hsL : E.2.2.2.2.2.1 = sL) (sX : Nat → Int32) (hsX : E.2.2.2.2.2.2 = sX) (D : dT) : ev l E (d + 8) yL_law cL_law 12 (some .boolean) 8 [(1, .inr (.inr 18)), (0, .inr (.inr 17))] [] D eI (F_L_law sL sX D) := by
  unfold F_L_law
  refine ev_s (fun Q k => rn_aload_n (j := 1) 0 rfl rfl (okO_0 ok_18) dL_law_8 k) ?_
  refine ev_bindI (as := [.inr (.inr 18)]) (fun Q Q1 => rn_callV (as := []) (rest := []) (o := 18) m_L_63 dL_law_9 (rcv_own ok_18.1 ok_18.2.1 (by decide) (okO_1 ok_18)) rfl rfl (Nat.le_of_ble_eq_true rfl)) pl_X5_undo (Nat.le_of_ble_eq_true rfl) rfl (e_X5_undo l E (d + 4)  D) (fun r1 D2 => ?_)
  refine ev_s (fun Q k => rn_bipush (v := -5) (by decide) dL_law_12 k) ?_
  refine ev_if (fun Q => rn_icmp_ne (tgt := 35) dL_law_14 (by decide)) (fun c11 => ?_) (fun c12 => ?_)
  · refine ev_s (fun Q k => rn_aload_n (j := 1) 0 rfl rfl (okO_0 ok_18) dL_law_17 k) ?_
    refine ev_s (fun Q k => rn_iconst (v := 1) (by decide) dL_law_18 k) ?_
    refine ev_bindI (as := [.inr (.inr 18), .inl (1 : Int32)]) (fun Q Q1 => rn_callV (as := [.inl (1 : Int32)]) (rest := []) (o := 18) m_L_67 dL_law_19 (rcv_own ok_18.1 ok_18.2.1 (by decide) (okO_1 ok_18)) rfl rfl (Nat.le_of_ble_eq_true rfl)) pl_X5_restore (Nat.le_of_ble_eq_true rfl) rfl (e_X5_restore l E (d + 4) (1 : Int32) D2) (fun r3 D4 => ?_)
    refine ev_s (fun Q k => rn_bipush (v := -5) (by decide) dL_law_22 k) ?_
    refine ev_if (fun Q => rn_icmp_ne (tgt := 35) dL_law_24 (by decide)) (fun c9 => ?_) (fun c10 => ?_)
    · refine ev_s (fun Q k => rn_aload_n (j := 1) 0 rfl rfl (okO_0 ok_18) dL_law_27 k) ?_
      refine ev_s (fun Q k => rn_iconst (v := 0) (by decide) dL_law_28 k) ?_
      refine ev_bindI (as := [.inr (.inr 18), .inl (0 : Int32)]) (fun Q Q1 => rn_callV (as := [.inl (0 : Int32)]) (rest := []) (o := 18) m_L_70 dL_law_29 (rcv_own ok_18.1 ok_18.2.1 (by decide) (okO_1 ok_18)) rfl rfl (Nat.le_of_ble_eq_true rfl)) pl_X5_save (Nat.le_of_ble_eq_true rfl) rfl (e_X5_save l E (d + 5) (0 : Int32) D4) (fun r5 D6 => ?_)
      refine ev_if (fun Q => rn_if_eq (tgt := 37) dL_law_32 (by decide)) (fun c7 => ?_) (fun c8 => ?_)
      · refine ev_s (fun Q k => rn_iconst (v := 0) (by decide) dL_law_37 k) ?_
        refine ev_s (fun Q k => rn_istore_n (j := 2) (ls' := [(2, .inl (0 : Int32)), (1, .inr (.inr 18)), (0, .inr (.inr 17))]) rfl (by decide) rfl dL_law_38 k) ?_
        refine ev_s (fun Q k => rn_sub (ls' := [(0, .inr (.inr 17)), (1, .inr (.inr 18)), (2, .inl (0 : Int32))]) [2, 1, 0] rfl k) ?_
        exact e_L_law_39 l E d sL hsL sX hsX  lim (0 : Int32) D6
      · refine ev_s (fun Q k => rn_iconst (v := 0) (by decide) dL_law_35 k) ?_
        exact ev_ret (fun Q q => rn_ret q .boolean rfl rfl dL_law_36)
    · refine ev_s (fun Q k => rn_iconst (v := 0) (by decide) dL_law_35 k) ?_
      exact ev_ret (fun Q q => rn_ret q .boolean rfl rfl dL_law_36)
  · refine ev_s (fun Q k => rn_iconst (v := 0) (by decide) dL_law_35 k) ?_
    exact ev_ret (fun Q q => rn_ret q .boolean rfl rfl dL_law_36)

