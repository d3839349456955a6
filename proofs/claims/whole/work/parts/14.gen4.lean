def F_X0_workOneHour_104 (B : Nat) (o1 : Nat)  (s0 : Int32) (D : dT) : Option (Int32 × dT) := bd (F_X0_carryHour B (D o1 7) s0 D) (fun (r1 : Int32) (D2 : dT) => if s0 = 0 then if s0 = 0 ∨ s0 = 1 then some (s0, D2) else none else bd (F_X0_endJob B o1 (2 : Int32) (up2 D2 o1 11 (D2 B 7))) (fun (r4 : Int32) (D5 : dT) => if s0 = 0 ∨ s0 = 1 then some (s0, D5) else none))
def F_X0_workOneHour (B : Nat) (o1 : Nat) (D : dT) : Option (Int32 × dT) := if (D o1 9) ≤ 0 then bd (F_X0_strengthOf B (D o1 7) D) (fun (r1 : Int32) (D2 : dT) => if (D2 o1 6) ≤ r1 then if 0 < ((up2 (up2 D2 o1 2 ((D2 o1 2) - (1 : Int32))) B 8 (((up2 D2 o1 2 ((D2 o1 2) - (1 : Int32))) B 8) + (1 : Int32))) o1 2) then F_X0_workOneHour_104 B o1 (0 : Int32) (up2 (up2 D2 o1 2 ((D2 o1 2) - (1 : Int32))) B 8 (((up2 D2 o1 2 ((D2 o1 2) - (1 : Int32))) B 8) + (1 : Int32))) else F_X0_workOneHour_104 B o1 (1 : Int32) (up2 (up2 D2 o1 2 ((D2 o1 2) - (1 : Int32))) B 8 (((up2 D2 o1 2 ((D2 o1 2) - (1 : Int32))) B 8) + (1 : Int32))) else bd (F_X0_restPeople B ((up2 (up2 D2 o1 10 ((D2 o1 10) + (1 : Int32))) B 9 (((up2 D2 o1 10 ((D2 o1 10) + (1 : Int32))) B 9) + (1 : Int32))) o1 7) (up2 (up2 D2 o1 10 ((D2 o1 10) + (1 : Int32))) B 9 (((up2 D2 o1 10 ((D2 o1 10) + (1 : Int32))) B 9) + (1 : Int32)))) (fun (r5 : Int32) (D6 : dT) => some ((0 : Int32), D6))) else bd (F_X0_restPeople B ((up2 D o1 9 ((D o1 9) - (1 : Int32))) o1 7) (up2 D o1 9 ((D o1 9) - (1 : Int32)))) (fun (r9 : Int32) (D10 : dT) => some ((0 : Int32), D10))
set_option maxRecDepth 20000 in
theorem e_X0_workOneHour_104 (l : Launch) (E : eE) (d : Nat) (B : Nat) (hB : isF B) (o1 : Nat) (ho1 : okO o1 2 0)  (s0 : Int32) (D : dT) : ev l E (d + 3) yX0_workOneHour cX0_workOneHour 3 (some .boolean) 104 [(0, .inr (.inr B)), (1, .inr (.inr o1))] [.inl s0] D eI (F_X0_workOneHour_104 B o1 s0 D) := by
  unfold F_X0_workOneHour_104
  refine ev_s (fun Q k => rn_istore_n (j := 2) (ls' := [(2, .inl s0), (0, .inr (.inr B)), (1, .inr (.inr o1))]) rfl (by decide) rfl dX0_workOneHour_104 k) ?_
  refine ev_s (fun Q k => rn_aload_n (j := 0) 1 rfl rfl (okO_0 (oF hB)) dX0_workOneHour_105 k) ?_
  refine ev_s (fun Q k => rn_aload_n (j := 1) 2 rfl rfl (okO_0 ho1) dX0_workOneHour_106 k) ?_
  refine ev_s (fun Q k => rn_geti f_X0_157 ho1.1 ho1.2.1 (okO_1 ho1) rfl dX0_workOneHour_107 k) ?_
  refine ev_s (fun Q k => rn_iload_n (j := 2) 0 rfl rfl dX0_workOneHour_110 k) ?_
  refine ev_bindU (as := [.inr (.inr B), .inl (D o1 7), .inl s0]) (fun Q Q1 => rn_callV (as := [.inl (D o1 7), .inl s0]) (rest := []) (o := B) m_X0_203 dX0_workOneHour_111 (rcv_own (oF hB).1 (oF hB).2.1 (by decide) (okO_1 (oF hB))) rfl rfl (Nat.le_of_ble_eq_true rfl)) pl_X0_carryHour (Nat.le_of_ble_eq_true rfl) rfl (e_X0_carryHour l E d B hB (D o1 7) s0 D) (fun r1 D2 => ?_)
  refine ev_s (fun Q k => rn_iload_n (j := 2) 0 rfl rfl dX0_workOneHour_114 k) ?_
  refine ev_if (fun Q => rn_if_eq (tgt := 132) dX0_workOneHour_115 (by decide)) (fun c7 => ?_) (fun c8 => ?_)
  · refine ev_s (fun Q k => rn_iload_n (j := 2) 0 rfl rfl dX0_workOneHour_132 k) ?_
    refine ev_gd (fun g3 => ?_)
    exact ev_ret (fun Q q => rn_ret q .boolean rfl (nz_b g3) dX0_workOneHour_133)
  · refine ev_s (fun Q k => rn_aload_n (j := 1) 2 rfl rfl (okO_0 ho1) dX0_workOneHour_118 k) ?_
    refine ev_s (fun Q k => rn_aload_n (j := 0) 1 rfl rfl (okO_0 (oF hB)) dX0_workOneHour_119 k) ?_
    refine ev_s (fun Q k => rn_geti f_X0_48 (oF hB).1 (oF hB).2.1 (okO_1 (oF hB)) rfl dX0_workOneHour_120 k) ?_
    refine ev_s (fun Q k => rn_puti f_X0_207 ho1.1 ho1.2.1 (okO_1 ho1) rfl rfl rfl rfl dX0_workOneHour_123 k) ?_
    refine ev_s (fun Q k => rn_aload_n (j := 0) 1 rfl rfl (okO_0 (oF hB)) dX0_workOneHour_126 k) ?_
    refine ev_s (fun Q k => rn_aload_n (j := 1) 2 rfl rfl (okO_0 ho1) dX0_workOneHour_127 k) ?_
    refine ev_s (fun Q k => rn_iconst (v := 2) (by decide) dX0_workOneHour_128 k) ?_
    refine ev_bindU (as := [.inr (.inr B), .inr (.inr o1), .inl (2 : Int32)]) (fun Q Q1 => rn_callV (as := [.inr (.inr o1), .inl (2 : Int32)]) (rest := []) (o := B) m_X0_186 dX0_workOneHour_129 (rcv_own (oF hB).1 (oF hB).2.1 (by decide) (okO_1 (oF hB))) rfl rfl (Nat.le_of_ble_eq_true rfl)) pl_X0_endJob (Nat.le_of_ble_eq_true rfl) rfl (e_X0_endJob l E d B hB o1 ho1 (2 : Int32) (up2 D2 o1 11 (D2 B 7))) (fun r4 D5 => ?_)
    refine ev_s (fun Q k => rn_iload_n (j := 2) 0 rfl rfl dX0_workOneHour_132 k) ?_
    refine ev_gd (fun g6 => ?_)
    exact ev_ret (fun Q q => rn_ret q .boolean rfl (nz_b g6) dX0_workOneHour_133)

set_option maxRecDepth 20000 in
theorem e_X0_workOneHour (l : Launch) (E : eE) (d : Nat) (B : Nat) (hB : isF B) (o1 : Nat) (ho1 : okO o1 2 0) (D : dT) : ev l E (d + 3) yX0_workOneHour cX0_workOneHour 3 (some .boolean) 0 [(0, .inr (.inr B)), (1, .inr (.inr o1))] [] D eI (F_X0_workOneHour B o1 D) := by
  unfold F_X0_workOneHour
  refine ev_s (fun Q k => rn_aload_n (j := 1) 1 rfl rfl (okO_0 ho1) dX0_workOneHour_0 k) ?_
  refine ev_s (fun Q k => rn_geti f_X0_183 ho1.1 ho1.2.1 (okO_1 ho1) rfl dX0_workOneHour_1 k) ?_
  refine ev_if (fun Q => rn_if_le (tgt := 27) dX0_workOneHour_4 (by decide)) (fun c11 => ?_) (fun c12 => ?_)
  · refine ev_s (fun Q k => rn_aload_n (j := 0) 0 rfl rfl (okO_0 (oF hB)) dX0_workOneHour_27 k) ?_
    refine ev_s (fun Q k => rn_aload_n (j := 1) 1 rfl rfl (okO_0 ho1) dX0_workOneHour_28 k) ?_
    refine ev_s (fun Q k => rn_geti f_X0_157 ho1.1 ho1.2.1 (okO_1 ho1) rfl dX0_workOneHour_29 k) ?_
    refine ev_bindI (as := [.inr (.inr B), .inl (D o1 7)]) (fun Q Q1 => rn_callV (as := [.inl (D o1 7)]) (rest := []) (o := B) m_X0_134 dX0_workOneHour_32 (rcv_own (oF hB).1 (oF hB).2.1 (by decide) (okO_1 (oF hB))) rfl rfl (Nat.le_of_ble_eq_true rfl)) pl_X0_strengthOf (Nat.le_of_ble_eq_true rfl) rfl (e_X0_strengthOf l E (d + 1) B hB (D o1 7) D) (fun r1 D2 => ?_)
    refine ev_s (fun Q k => rn_aload_n (j := 1) 1 rfl rfl (okO_0 ho1) dX0_workOneHour_35 k) ?_
    refine ev_s (fun Q k => rn_geti f_X0_154 ho1.1 ho1.2.1 (okO_1 ho1) rfl dX0_workOneHour_36 k) ?_
    refine ev_if (fun Q => rn_icmp_ge (tgt := 72) dX0_workOneHour_39 (by decide)) (fun c7 => ?_) (fun c8 => ?_)
    · refine ev_s (fun Q k => rn_aload_n (j := 1) 1 rfl rfl (okO_0 ho1) dX0_workOneHour_72 k) ?_
      refine ev_s (fun Q k => rn_dup rfl dX0_workOneHour_73 k) ?_
      refine ev_s (fun Q k => rn_geti f_X0_200 ho1.1 ho1.2.1 (okO_1 ho1) rfl dX0_workOneHour_74 k) ?_
      refine ev_s (fun Q k => rn_iconst (v := 1) (by decide) dX0_workOneHour_77 k) ?_
      refine ev_s (fun Q k => rn_isub dX0_workOneHour_78 k) ?_
      refine ev_s (fun Q k => rn_puti f_X0_200 ho1.1 ho1.2.1 (okO_1 ho1) rfl rfl rfl rfl dX0_workOneHour_79 k) ?_
      refine ev_s (fun Q k => rn_aload_n (j := 0) 0 rfl rfl (okO_0 (oF hB)) dX0_workOneHour_82 k) ?_
      refine ev_s (fun Q k => rn_dup rfl dX0_workOneHour_83 k) ?_
      refine ev_s (fun Q k => rn_geti f_X0_51 (oF hB).1 (oF hB).2.1 (okO_1 (oF hB)) rfl dX0_workOneHour_84 k) ?_
      refine ev_s (fun Q k => rn_iconst (v := 1) (by decide) dX0_workOneHour_87 k) ?_
      refine ev_s (fun Q k => rn_iadd dX0_workOneHour_88 k) ?_
      refine ev_s (fun Q k => rn_puti f_X0_51 (oF hB).1 (oF hB).2.1 (okO_1 (oF hB)) rfl rfl rfl rfl dX0_workOneHour_89 k) ?_
      refine ev_s (fun Q k => rn_aload_n (j := 1) 1 rfl rfl (okO_0 ho1) dX0_workOneHour_92 k) ?_
      refine ev_s (fun Q k => rn_geti f_X0_200 ho1.1 ho1.2.1 (okO_1 ho1) rfl dX0_workOneHour_93 k) ?_
      refine ev_if (fun Q => rn_if_gt (tgt := 103) dX0_workOneHour_96 (by decide)) (fun c3 => ?_) (fun c4 => ?_)
      · refine ev_s (fun Q k => rn_iconst (v := 0) (by decide) dX0_workOneHour_103 k) ?_
        exact e_X0_workOneHour_104 l E d B hB o1 ho1   (0 : Int32) (up2 (up2 D2 o1 2 ((D2 o1 2) - (1 : Int32))) B 8 (((up2 D2 o1 2 ((D2 o1 2) - (1 : Int32))) B 8) + (1 : Int32)))
      · refine ev_s (fun Q k => rn_iconst (v := 1) (by decide) dX0_workOneHour_99 k) ?_
        refine ev_s (fun Q k => rn_goto (tgt := 104) dX0_workOneHour_100 (by decide) k) ?_
        exact e_X0_workOneHour_104 l E d B hB o1 ho1   (1 : Int32) (up2 (up2 D2 o1 2 ((D2 o1 2) - (1 : Int32))) B 8 (((up2 D2 o1 2 ((D2 o1 2) - (1 : Int32))) B 8) + (1 : Int32)))
    · refine ev_s (fun Q k => rn_aload_n (j := 1) 1 rfl rfl (okO_0 ho1) dX0_workOneHour_42 k) ?_
      refine ev_s (fun Q k => rn_dup rfl dX0_workOneHour_43 k) ?_
      refine ev_s (fun Q k => rn_geti f_X0_199 ho1.1 ho1.2.1 (okO_1 ho1) rfl dX0_workOneHour_44 k) ?_
      refine ev_s (fun Q k => rn_iconst (v := 1) (by decide) dX0_workOneHour_47 k) ?_
      refine ev_s (fun Q k => rn_iadd dX0_workOneHour_48 k) ?_
      refine ev_s (fun Q k => rn_puti f_X0_199 ho1.1 ho1.2.1 (okO_1 ho1) rfl rfl rfl rfl dX0_workOneHour_49 k) ?_
      refine ev_s (fun Q k => rn_aload_n (j := 0) 0 rfl rfl (okO_0 (oF hB)) dX0_workOneHour_52 k) ?_
      refine ev_s (fun Q k => rn_dup rfl dX0_workOneHour_53 k) ?_
      refine ev_s (fun Q k => rn_geti f_X0_54 (oF hB).1 (oF hB).2.1 (okO_1 (oF hB)) rfl dX0_workOneHour_54 k) ?_
      refine ev_s (fun Q k => rn_iconst (v := 1) (by decide) dX0_workOneHour_57 k) ?_
      refine ev_s (fun Q k => rn_iadd dX0_workOneHour_58 k) ?_
      refine ev_s (fun Q k => rn_puti f_X0_54 (oF hB).1 (oF hB).2.1 (okO_1 (oF hB)) rfl rfl rfl rfl dX0_workOneHour_59 k) ?_
      refine ev_s (fun Q k => rn_aload_n (j := 0) 0 rfl rfl (okO_0 (oF hB)) dX0_workOneHour_62 k) ?_
      refine ev_s (fun Q k => rn_aload_n (j := 1) 1 rfl rfl (okO_0 ho1) dX0_workOneHour_63 k) ?_
      refine ev_s (fun Q k => rn_geti f_X0_157 ho1.1 ho1.2.1 (okO_1 ho1) rfl dX0_workOneHour_64 k) ?_
      refine ev_bindU (as := [.inr (.inr B), .inl ((up2 (up2 D2 o1 10 ((D2 o1 10) + (1 : Int32))) B 9 (((up2 D2 o1 10 ((D2 o1 10) + (1 : Int32))) B 9) + (1 : Int32))) o1 7)]) (fun Q Q1 => rn_callV (as := [.inl ((up2 (up2 D2 o1 10 ((D2 o1 10) + (1 : Int32))) B 9 (((up2 D2 o1 10 ((D2 o1 10) + (1 : Int32))) B 9) + (1 : Int32))) o1 7)]) (rest := []) (o := B) m_X0_196 dX0_workOneHour_67 (rcv_own (oF hB).1 (oF hB).2.1 (by decide) (okO_1 (oF hB))) rfl rfl (Nat.le_of_ble_eq_true rfl)) pl_X0_restPeople (Nat.le_of_ble_eq_true rfl) rfl (e_X0_restPeople l E d B hB ((up2 (up2 D2 o1 10 ((D2 o1 10) + (1 : Int32))) B 9 (((up2 D2 o1 10 ((D2 o1 10) + (1 : Int32))) B 9) + (1 : Int32))) o1 7) (up2 (up2 D2 o1 10 ((D2 o1 10) + (1 : Int32))) B 9 (((up2 D2 o1 10 ((D2 o1 10) + (1 : Int32))) B 9) + (1 : Int32)))) (fun r5 D6 => ?_)
      refine ev_s (fun Q k => rn_iconst (v := 0) (by decide) dX0_workOneHour_70 k) ?_
      exact ev_ret (fun Q q => rn_ret q .boolean rfl rfl dX0_workOneHour_71)
  · refine ev_s (fun Q k => rn_aload_n (j := 1) 1 rfl rfl (okO_0 ho1) dX0_workOneHour_7 k) ?_
    refine ev_s (fun Q k => rn_dup rfl dX0_workOneHour_8 k) ?_
    refine ev_s (fun Q k => rn_geti f_X0_183 ho1.1 ho1.2.1 (okO_1 ho1) rfl dX0_workOneHour_9 k) ?_
    refine ev_s (fun Q k => rn_iconst (v := 1) (by decide) dX0_workOneHour_12 k) ?_
    refine ev_s (fun Q k => rn_isub dX0_workOneHour_13 k) ?_
    refine ev_s (fun Q k => rn_puti f_X0_183 ho1.1 ho1.2.1 (okO_1 ho1) rfl rfl rfl rfl dX0_workOneHour_14 k) ?_
    refine ev_s (fun Q k => rn_aload_n (j := 0) 0 rfl rfl (okO_0 (oF hB)) dX0_workOneHour_17 k) ?_
    refine ev_s (fun Q k => rn_aload_n (j := 1) 1 rfl rfl (okO_0 ho1) dX0_workOneHour_18 k) ?_
    refine ev_s (fun Q k => rn_geti f_X0_157 ho1.1 ho1.2.1 (okO_1 ho1) rfl dX0_workOneHour_19 k) ?_
    refine ev_bindU (as := [.inr (.inr B), .inl ((up2 D o1 9 ((D o1 9) - (1 : Int32))) o1 7)]) (fun Q Q1 => rn_callV (as := [.inl ((up2 D o1 9 ((D o1 9) - (1 : Int32))) o1 7)]) (rest := []) (o := B) m_X0_196 dX0_workOneHour_22 (rcv_own (oF hB).1 (oF hB).2.1 (by decide) (okO_1 (oF hB))) rfl rfl (Nat.le_of_ble_eq_true rfl)) pl_X0_restPeople (Nat.le_of_ble_eq_true rfl) rfl (e_X0_restPeople l E d B hB ((up2 D o1 9 ((D o1 9) - (1 : Int32))) o1 7) (up2 D o1 9 ((D o1 9) - (1 : Int32)))) (fun r9 D10 => ?_)
    refine ev_s (fun Q k => rn_iconst (v := 0) (by decide) dX0_workOneHour_25 k) ?_
    exact ev_ret (fun Q q => rn_ret q .boolean rfl rfl dX0_workOneHour_26)

def F_X0_passOneHour_9 (fuel : Nat) (B : Nat)  (v1 : Int32) (v2 : Int32) (v3 : Int32) (D : dT) : Option (Int32 × dT) := match fuel with
  | 0 => none
  | fu + 1 => if (D B 6) ≤ v3 then bd (F_X0_restPeople B (v2 ^^^ (-1 : Int32)) D) (fun (r1 : Int32) (D2 : dT) => some (v1, (up2 D2 B 7 ((D2 B 7) + (1 : Int32))))) else if inR v3 16 then if (D (B + 16 + v3.toNatClampNeg) 5) = (1 : Int32) then if inR v3 16 then bd (F_X0_workOneHour B (B + 16 + v3.toNatClampNeg) D) (fun (r5 : Int32) (D6 : dT) => if r5 = 0 then F_X0_passOneHour_9 fu B v1 v2 (v3 + (1 : Int32)) D6 else F_X0_passOneHour_9 fu B (v1 + (1 : Int32)) v2 (v3 + (1 : Int32)) D6) else none else F_X0_passOneHour_9 fu B v1 v2 (v3 + (1 : Int32)) D else none
def F_X0_passOneHour (B : Nat) (D : dT) : Option (Int32 × dT) := bd (F_X0_busyPeople B D) (fun (r1 : Int32) (D2 : dT) => F_X0_passOneHour_9 lim B (0 : Int32) r1 (0 : Int32) D2)
set_option maxRecDepth 20000 in
theorem e_X0_passOneHour_9 (l : Launch) (E : eE) (d : Nat) (B : Nat) (hB : isF B)  (fuel : Nat) : ∀ (v1 : Int32) (v2 : Int32) (v3 : Int32) (D : dT), ev l E (d + 4) yX0_passOneHour cX0_passOneHour 4 (some .int) 9 [(0, .inr (.inr B)), (1, .inl v1), (2, .inl v2), (3, .inl v3)] [] D eI (F_X0_passOneHour_9 fuel B v1 v2 v3 D) := by
  induction fuel with
  | zero =>
    intro v1 v2 v3 D
    exact ev_none
  | succ fu ih =>
    intro v1 v2 v3 D
    rw [F_X0_passOneHour_9]
    refine ev_s (fun Q k => rn_iload_n (j := 3) 3 rfl rfl dX0_passOneHour_9 k) ?_
    refine ev_s (fun Q k => rn_aload_n (j := 0) 0 rfl rfl (okO_0 (oF hB)) dX0_passOneHour_10 k) ?_
    refine ev_s (fun Q k => rn_geti f_X0_45 (oF hB).1 (oF hB).2.1 (okO_1 (oF hB)) rfl dX0_passOneHour_11 k) ?_
    refine ev_if (fun Q => rn_icmp_ge (tgt := 52) dX0_passOneHour_14 (by decide)) (fun c11 => ?_) (fun c12 => ?_)
    · refine ev_s (fun Q k => rn_aload_n (j := 0) 0 rfl rfl (okO_0 (oF hB)) dX0_passOneHour_52 k) ?_
      refine ev_s (fun Q k => rn_iload_n (j := 2) 2 rfl rfl dX0_passOneHour_53 k) ?_
      refine ev_s (fun Q k => rn_iconst (v := -1) (by decide) dX0_passOneHour_54 k) ?_
      refine ev_s (fun Q k => rn_ixor dX0_passOneHour_55 k) ?_
      refine ev_bindU (as := [.inr (.inr B), .inl (v2 ^^^ (-1 : Int32))]) (fun Q Q1 => rn_callV (as := [.inl (v2 ^^^ (-1 : Int32))]) (rest := []) (o := B) m_X0_196 dX0_passOneHour_56 (rcv_own (oF hB).1 (oF hB).2.1 (by decide) (okO_1 (oF hB))) rfl rfl (Nat.le_of_ble_eq_true rfl)) pl_X0_restPeople (Nat.le_of_ble_eq_true rfl) rfl (e_X0_restPeople l E (d + 1) B hB (v2 ^^^ (-1 : Int32)) D) (fun r1 D2 => ?_)
      refine ev_s (fun Q k => rn_aload_n (j := 0) 0 rfl rfl (okO_0 (oF hB)) dX0_passOneHour_59 k) ?_
      refine ev_s (fun Q k => rn_dup rfl dX0_passOneHour_60 k) ?_
      refine ev_s (fun Q k => rn_geti f_X0_48 (oF hB).1 (oF hB).2.1 (okO_1 (oF hB)) rfl dX0_passOneHour_61 k) ?_
      refine ev_s (fun Q k => rn_iconst (v := 1) (by decide) dX0_passOneHour_64 k) ?_
      refine ev_s (fun Q k => rn_iadd dX0_passOneHour_65 k) ?_
      refine ev_s (fun Q k => rn_puti f_X0_48 (oF hB).1 (oF hB).2.1 (okO_1 (oF hB)) rfl rfl rfl rfl dX0_passOneHour_66 k) ?_
      refine ev_s (fun Q k => rn_iload_n (j := 1) 1 rfl rfl dX0_passOneHour_69 k) ?_
      exact ev_ret (fun Q q => rn_ret q .int rfl rfl dX0_passOneHour_70)
    · refine ev_s (fun Q k => rn_aload_n (j := 0) 0 rfl rfl (okO_0 (oF hB)) dX0_passOneHour_17 k) ?_
      refine ev_s (fun Q k => rn_getr (q := (B + 5)) f_X0_29 (oF hB).1 (oF hB).2.1 (okO_1 (oF hB)) rfl (rF4 hB) dX0_passOneHour_18 k) ?_
      refine ev_s (fun Q k => rn_iload_n (j := 3) 3 rfl rfl dX0_passOneHour_21 k) ?_
      refine ev_gd (fun g3 => ?_)
      refine ev_s (fun Q k => rn_aald (q := (B + 16 + v3.toNatClampNeg)) (oF5 hB).1 (oF5 hB).2.1 (by decide) (by decide) (oF5 hB).2.2 (inR_vp g3) (rJ hB g3.2) dX0_passOneHour_22 k) ?_
      refine ev_s (fun Q k => rn_geti f_X0_120 (oJ hB g3.2).1 (oJ hB g3.2).2.1 (okO_1 (oJ hB g3.2)) rfl dX0_passOneHour_23 k) ?_
      refine ev_s (fun Q k => rn_iconst (v := 1) (by decide) dX0_passOneHour_26 k) ?_
      refine ev_if (fun Q => rn_icmp_ne (tgt := 46) dX0_passOneHour_27 (by decide)) (fun c9 => ?_) (fun c10 => ?_)
      · refine ev_s (fun Q k => rn_aload_n (j := 0) 0 rfl rfl (okO_0 (oF hB)) dX0_passOneHour_30 k) ?_
        refine ev_s (fun Q k => rn_aload_n (j := 0) 0 rfl rfl (okO_0 (oF hB)) dX0_passOneHour_31 k) ?_
        refine ev_s (fun Q k => rn_getr (q := (B + 5)) f_X0_29 (oF hB).1 (oF hB).2.1 (okO_1 (oF hB)) rfl (rF4 hB) dX0_passOneHour_32 k) ?_
        refine ev_s (fun Q k => rn_iload_n (j := 3) 3 rfl rfl dX0_passOneHour_35 k) ?_
        refine ev_gd (fun g4 => ?_)
        refine ev_s (fun Q k => rn_aald (q := (B + 16 + v3.toNatClampNeg)) (oF5 hB).1 (oF5 hB).2.1 (by decide) (by decide) (oF5 hB).2.2 (inR_vp g4) (rJ hB g4.2) dX0_passOneHour_36 k) ?_
        refine ev_bindI (as := [.inr (.inr B), .inr (.inr (B + 16 + v3.toNatClampNeg))]) (fun Q Q1 => rn_callV (as := [.inr (.inr (B + 16 + v3.toNatClampNeg))]) (rest := []) (o := B) m_X0_193 dX0_passOneHour_37 (rcv_own (oF hB).1 (oF hB).2.1 (by decide) (okO_1 (oF hB))) rfl rfl (Nat.le_of_ble_eq_true rfl)) pl_X0_workOneHour (Nat.le_of_ble_eq_true rfl) rfl (e_X0_workOneHour l E d B hB (B + 16 + v3.toNatClampNeg) (oJ hB g4.2) D) (fun r5 D6 => ?_)
        refine ev_if (fun Q => rn_if_eq (tgt := 46) dX0_passOneHour_40 (by decide)) (fun c7 => ?_) (fun c8 => ?_)
        · refine ev_s (fun Q k => rn_iinc (v := (v3 + (1 : Int32))) (ls' := [(3, .inl (v3 + (1 : Int32))), (0, .inr (.inr B)), (1, .inl v1), (2, .inl v2)]) 3 rfl rfl (by decide) rfl dX0_passOneHour_46 k) ?_
          refine ev_s (fun Q k => rn_goto (tgt := 9) dX0_passOneHour_49 (by decide) k) ?_
          refine ev_s (fun Q k => rn_sub (ls' := [(0, .inr (.inr B)), (1, .inl v1), (2, .inl v2), (3, .inl (v3 + (1 : Int32)))]) [1, 2, 3, 0] rfl k) ?_
          exact ih v1 v2 (v3 + (1 : Int32)) D6
        · refine ev_s (fun Q k => rn_iinc (v := (v1 + (1 : Int32))) (ls' := [(1, .inl (v1 + (1 : Int32))), (0, .inr (.inr B)), (2, .inl v2), (3, .inl v3)]) 1 rfl rfl (by decide) rfl dX0_passOneHour_43 k) ?_
          refine ev_s (fun Q k => rn_iinc (v := (v3 + (1 : Int32))) (ls' := [(3, .inl (v3 + (1 : Int32))), (1, .inl (v1 + (1 : Int32))), (0, .inr (.inr B)), (2, .inl v2)]) 3 rfl rfl (by decide) rfl dX0_passOneHour_46 k) ?_
          refine ev_s (fun Q k => rn_goto (tgt := 9) dX0_passOneHour_49 (by decide) k) ?_
          refine ev_s (fun Q k => rn_sub (ls' := [(0, .inr (.inr B)), (1, .inl (v1 + (1 : Int32))), (2, .inl v2), (3, .inl (v3 + (1 : Int32)))]) [2, 1, 3, 0] rfl k) ?_
          exact ih (v1 + (1 : Int32)) v2 (v3 + (1 : Int32)) D6
      · refine ev_s (fun Q k => rn_iinc (v := (v3 + (1 : Int32))) (ls' := [(3, .inl (v3 + (1 : Int32))), (0, .inr (.inr B)), (1, .inl v1), (2, .inl v2)]) 3 rfl rfl (by decide) rfl dX0_passOneHour_46 k) ?_
        refine ev_s (fun Q k => rn_goto (tgt := 9) dX0_passOneHour_49 (by decide) k) ?_
        refine ev_s (fun Q k => rn_sub (ls' := [(0, .inr (.inr B)), (1, .inl v1), (2, .inl v2), (3, .inl (v3 + (1 : Int32)))]) [1, 2, 3, 0] rfl k) ?_
        exact ih v1 v2 (v3 + (1 : Int32)) D

set_option maxRecDepth 20000 in
theorem e_X0_passOneHour (l : Launch) (E : eE) (d : Nat) (B : Nat) (hB : isF B) (D : dT) : ev l E (d + 4) yX0_passOneHour cX0_passOneHour 4 (some .int) 0 [(0, .inr (.inr B))] [] D eI (F_X0_passOneHour B D) := by
  unfold F_X0_passOneHour
  refine ev_s (fun Q k => rn_iconst (v := 0) (by decide) dX0_passOneHour_0 k) ?_
  refine ev_s (fun Q k => rn_istore_n (j := 1) (ls' := [(1, .inl (0 : Int32)), (0, .inr (.inr B))]) rfl (by decide) rfl dX0_passOneHour_1 k) ?_
  refine ev_s (fun Q k => rn_aload_n (j := 0) 1 rfl rfl (okO_0 (oF hB)) dX0_passOneHour_2 k) ?_
  refine ev_bindI (as := [.inr (.inr B)]) (fun Q Q1 => rn_callV (as := []) (rest := []) (o := B) m_X0_126 dX0_passOneHour_3 (rcv_own (oF hB).1 (oF hB).2.1 (by decide) (okO_1 (oF hB))) rfl rfl (Nat.le_of_ble_eq_true rfl)) pl_X0_busyPeople (Nat.le_of_ble_eq_true rfl) rfl (e_X0_busyPeople l E (d + 3) B hB D) (fun r1 D2 => ?_)
  refine ev_s (fun Q k => rn_istore_n (j := 2) (ls' := [(2, .inl r1), (1, .inl (0 : Int32)), (0, .inr (.inr B))]) rfl (by decide) rfl dX0_passOneHour_6 k) ?_
  refine ev_s (fun Q k => rn_iconst (v := 0) (by decide) dX0_passOneHour_7 k) ?_
  refine ev_s (fun Q k => rn_istore_n (j := 3) (ls' := [(3, .inl (0 : Int32)), (2, .inl r1), (1, .inl (0 : Int32)), (0, .inr (.inr B))]) rfl (by decide) rfl dX0_passOneHour_8 k) ?_
  refine ev_s (fun Q k => rn_sub (ls' := [(0, .inr (.inr B)), (1, .inl (0 : Int32)), (2, .inl r1), (3, .inl (0 : Int32))]) [3, 2, 1, 0] rfl k) ?_
  exact e_X0_passOneHour_9 l E d B hB  lim (0 : Int32) r1 (0 : Int32) D2

def F_X0_passHours_32 (fuel : Nat) (B : Nat) (x1 : Int32)  (v2 : Int32) (v3 : Int32) (D : dT) : Option (Int32 × dT) := match fuel with
  | 0 => none
  | fu + 1 => if x1 ≤ v3 then some (v2, D) else bd (F_X0_passOneHour B D) (fun (r1 : Int32) (D2 : dT) => F_X0_passHours_32 fu B x1 (v2 + r1) (v3 + (1 : Int32)) D2)
def F_X0_passHours (B : Nat) (x1 : Int32) (D : dT) : Option (Int32 × dT) := bd (F_X5_isWithin x1 (1 : Int32) (99 : Int32) D) (fun (r1 : Int32) (D2 : dT) => if r1 = 0 then some ((-2 : Int32), D2) else if ((D2 B 7) + x1) ≤ (9999 : Int32) then F_X0_passHours_32 lim B x1 (0 : Int32) (0 : Int32) D2 else some ((-5 : Int32), D2))
set_option maxRecDepth 20000 in
theorem e_X0_passHours_32 (l : Launch) (E : eE) (d : Nat) (B : Nat) (hB : isF B) (x1 : Int32)  (fuel : Nat) : ∀ (v2 : Int32) (v3 : Int32) (D : dT), ev l E (d + 5) yX0_passHours cX0_passHours 4 (some .int) 32 [(0, .inr (.inr B)), (1, .inl x1), (2, .inl v2), (3, .inl v3)] [] D eI (F_X0_passHours_32 fuel B x1 v2 v3 D) := by
  induction fuel with
  | zero =>
    intro v2 v3 D
    exact ev_none
  | succ fu ih =>
    intro v2 v3 D
    rw [F_X0_passHours_32]
    refine ev_s (fun Q k => rn_iload_n (j := 3) 3 rfl rfl dX0_passHours_32 k) ?_
    refine ev_s (fun Q k => rn_iload_n (j := 1) 1 rfl rfl dX0_passHours_33 k) ?_
    refine ev_if (fun Q => rn_icmp_ge (tgt := 50) dX0_passHours_34 (by decide)) (fun c3 => ?_) (fun c4 => ?_)
    · refine ev_s (fun Q k => rn_iload_n (j := 2) 2 rfl rfl dX0_passHours_50 k) ?_
      exact ev_ret (fun Q q => rn_ret q .int rfl rfl dX0_passHours_51)
    · refine ev_s (fun Q k => rn_iload_n (j := 2) 2 rfl rfl dX0_passHours_37 k) ?_
      refine ev_s (fun Q k => rn_aload_n (j := 0) 0 rfl rfl (okO_0 (oF hB)) dX0_passHours_38 k) ?_
      refine ev_bindI (as := [.inr (.inr B)]) (fun Q Q1 => rn_callV (as := []) (rest := [.inl v2]) (o := B) m_X0_190 dX0_passHours_39 (rcv_own (oF hB).1 (oF hB).2.1 (by decide) (okO_1 (oF hB))) rfl rfl (Nat.le_of_ble_eq_true rfl)) pl_X0_passOneHour (Nat.le_of_ble_eq_true rfl) rfl (e_X0_passOneHour l E d B hB D) (fun r1 D2 => ?_)
      refine ev_s (fun Q k => rn_iadd dX0_passHours_42 k) ?_
      refine ev_s (fun Q k => rn_istore_n (j := 2) (ls' := [(2, .inl (v2 + r1)), (0, .inr (.inr B)), (1, .inl x1), (3, .inl v3)]) rfl (by decide) rfl dX0_passHours_43 k) ?_
      refine ev_s (fun Q k => rn_iinc (v := (v3 + (1 : Int32))) (ls' := [(3, .inl (v3 + (1 : Int32))), (2, .inl (v2 + r1)), (0, .inr (.inr B)), (1, .inl x1)]) 3 rfl rfl (by decide) rfl dX0_passHours_44 k) ?_
      refine ev_s (fun Q k => rn_goto (tgt := 32) dX0_passHours_47 (by decide) k) ?_
      refine ev_s (fun Q k => rn_sub (ls' := [(0, .inr (.inr B)), (1, .inl x1), (2, .inl (v2 + r1)), (3, .inl (v3 + (1 : Int32)))]) [2, 3, 1, 0] rfl k) ?_
      exact ih (v2 + r1) (v3 + (1 : Int32)) D2

set_option maxRecDepth 20000 in
theorem e_X0_passHours (l : Launch) (E : eE) (d : Nat) (B : Nat) (hB : isF B) (x1 : Int32) (D : dT) : ev l E (d + 5) yX0_passHours cX0_passHours 4 (some .int) 0 [(0, .inr (.inr B)), (1, .inl x1)] [] D eI (F_X0_passHours B x1 D) := by
  unfold F_X0_passHours
  refine ev_s (fun Q k => rn_iload_n (j := 1) 1 rfl rfl dX0_passHours_0 k) ?_
  refine ev_s (fun Q k => rn_iconst (v := 1) (by decide) dX0_passHours_1 k) ?_
  refine ev_s (fun Q k => rn_bipush (v := 99) (by decide) dX0_passHours_2 k) ?_
  refine ev_bindI (as := [.inl x1, .inl (1 : Int32), .inl (99 : Int32)]) (fun Q Q1 => rn_callSN (as := [.inl x1, .inl (1 : Int32), .inl (99 : Int32)]) (rest := []) m_X0_64 dX0_passHours_4 rfl rfl (Nat.le_of_ble_eq_true rfl)) pl_X5_isWithin (Nat.le_of_ble_eq_true rfl) rfl (e_X5_isWithin l E (d + 4) x1 (1 : Int32) (99 : Int32) D) (fun r1 D2 => ?_)
  refine ev_if (fun Q => rn_if_ne (tgt := 13) dX0_passHours_7 (by decide)) (fun c5 => ?_) (fun c6 => ?_)
  · refine ev_s (fun Q k => rn_bipush (v := -2) (by decide) dX0_passHours_10 k) ?_
    exact ev_ret (fun Q q => rn_ret q .int rfl rfl dX0_passHours_12)
  · refine ev_s (fun Q k => rn_aload_n (j := 0) 0 rfl rfl (okO_0 (oF hB)) dX0_passHours_13 k) ?_
    refine ev_s (fun Q k => rn_geti f_X0_48 (oF hB).1 (oF hB).2.1 (okO_1 (oF hB)) rfl dX0_passHours_14 k) ?_
    refine ev_s (fun Q k => rn_iload_n (j := 1) 1 rfl rfl dX0_passHours_17 k) ?_
    refine ev_s (fun Q k => rn_iadd dX0_passHours_18 k) ?_
    refine ev_s (fun Q k => rn_sipush (v := 9999) (by decide) dX0_passHours_19 k) ?_
    refine ev_if (fun Q => rn_icmp_le (tgt := 28) dX0_passHours_22 (by decide)) (fun c3 => ?_) (fun c4 => ?_)
    · refine ev_s (fun Q k => rn_iconst (v := 0) (by decide) dX0_passHours_28 k) ?_
      refine ev_s (fun Q k => rn_istore_n (j := 2) (ls' := [(2, .inl (0 : Int32)), (0, .inr (.inr B)), (1, .inl x1)]) rfl (by decide) rfl dX0_passHours_29 k) ?_
      refine ev_s (fun Q k => rn_iconst (v := 0) (by decide) dX0_passHours_30 k) ?_
      refine ev_s (fun Q k => rn_istore_n (j := 3) (ls' := [(3, .inl (0 : Int32)), (2, .inl (0 : Int32)), (0, .inr (.inr B)), (1, .inl x1)]) rfl (by decide) rfl dX0_passHours_31 k) ?_
      refine ev_s (fun Q k => rn_sub (ls' := [(0, .inr (.inr B)), (1, .inl x1), (2, .inl (0 : Int32)), (3, .inl (0 : Int32))]) [2, 3, 1, 0] rfl k) ?_
      exact e_X0_passHours_32 l E d B hB x1  lim (0 : Int32) (0 : Int32) D2
    · refine ev_s (fun Q k => rn_bipush (v := -5) (by decide) dX0_passHours_25 k) ?_
      exact ev_ret (fun Q q => rn_ret q .int rfl rfl dX0_passHours_27)

def F_X5_pass (x1 : Int32) (D : dT) : Option (Int32 × dT) := bd (F_X1_note 19 D) (fun (r1 : Int32) (D2 : dT) => bd (F_X0_passHours 19 x1 D2) (fun (r3 : Int32) (D4 : dT) => bd (F_X1_keepUnlessError r3 D4) (fun (r5 : Int32) (D6 : dT) => some (r5, D6))))
set_option maxRecDepth 20000 in
theorem e_X5_pass (l : Launch) (E : eE) (d : Nat) (x1 : Int32) (D : dT) : ev l E (d + 6) yX5_pass cX5_pass 2 (some .int) 0 [(0, .inr (.inr 18)), (1, .inl x1)] [] D eI (F_X5_pass x1 D) := by
  unfold F_X5_pass
  refine ev_s (fun Q k => rn_aload_n (j := 0) 0 rfl rfl (okO_0 ok_18) dX5_pass_0 k) ?_
  refine ev_s (fun Q k => rn_getr (q := 85) f_X5_30 ok_18.1 ok_18.2.1 (okO_1 ok_18) rfl rfl dX5_pass_1 k) ?_
  refine ev_s (fun Q k => rn_aload_n (j := 0) 0 rfl rfl (okO_0 ok_18) dX5_pass_4 k) ?_
  refine ev_s (fun Q k => rn_getr (q := 19) f_X5_10 ok_18.1 ok_18.2.1 (okO_1 ok_18) rfl rfl dX5_pass_5 k) ?_
  refine ev_bindU (as := [.inr (.inr 85), .inr (.inr 19)]) (fun Q Q1 => rn_callV (as := [.inr (.inr 19)]) (rest := []) (o := 85) m_X5_41 dX5_pass_8 (rcv_own ok_85.1 ok_85.2.1 (by decide) (okO_1 ok_85)) rfl rfl (Nat.le_of_ble_eq_true rfl)) pl_X1_note (Nat.le_of_ble_eq_true rfl) rfl (e_X1_note l E (d + 3) 19 isF_19 D) (fun r1 D2 => ?_)
  refine ev_s (fun Q k => rn_aload_n (j := 0) 0 rfl rfl (okO_0 ok_18) dX5_pass_11 k) ?_
  refine ev_s (fun Q k => rn_getr (q := 85) f_X5_30 ok_18.1 ok_18.2.1 (okO_1 ok_18) rfl rfl dX5_pass_12 k) ?_
  refine ev_s (fun Q k => rn_aload_n (j := 0) 0 rfl rfl (okO_0 ok_18) dX5_pass_15 k) ?_
  refine ev_s (fun Q k => rn_getr (q := 19) f_X5_10 ok_18.1 ok_18.2.1 (okO_1 ok_18) rfl rfl dX5_pass_16 k) ?_
  refine ev_s (fun Q k => rn_iload_n (j := 1) 1 rfl rfl dX5_pass_19 k) ?_
  refine ev_bindI (as := [.inr (.inr 19), .inl x1]) (fun Q Q1 => rn_callV (as := [.inl x1]) (rest := [.inr (.inr 85)]) (o := 19) m_X5_77 dX5_pass_20 (rcv_own (oF isF_19).1 (oF isF_19).2.1 (by decide) (okO_1 (oF isF_19))) rfl rfl (Nat.le_of_ble_eq_true rfl)) pl_X0_passHours (Nat.le_of_ble_eq_true rfl) rfl (e_X0_passHours l E d 19 isF_19 x1 D2) (fun r3 D4 => ?_)
  refine ev_bindI (as := [.inr (.inr 85), .inl r3]) (fun Q Q1 => rn_callV (as := [.inl r3]) (rest := []) (o := 85) m_X5_49 dX5_pass_23 (rcv_own ok_85.1 ok_85.2.1 (by decide) (okO_1 ok_85)) rfl rfl (Nat.le_of_ble_eq_true rfl)) pl_X1_keepUnlessError (Nat.le_of_ble_eq_true rfl) rfl (e_X1_keepUnlessError l E (d + 3) r3 D4) (fun r5 D6 => ?_)
  exact ev_ret (fun Q q => rn_ret q .int rfl rfl dX5_pass_26)

def F_X4_hoursOfRest (o : Nat) (x1 : Int32) (D : dT) : Option (Int32 × dT) := if ¬ (if (1 : Int32) < x1 then x1 else (1 : Int32)) = 0 then some ((((((D o 0) - (D o 1)) + (if (1 : Int32) < x1 then x1 else (1 : Int32))) - (1 : Int32)) / (if (1 : Int32) < x1 then x1 else (1 : Int32))), D) else none
set_option maxRecDepth 20000 in
theorem e_X4_hoursOfRest (l : Launch) (E : eE) (d : Nat) (o : Nat) (ho : okO o 4 0) (x1 : Int32) (D : dT) : ev l E (d + 1) yX4_hoursOfRest cX4_hoursOfRest 3 (some .int) 0 [(0, .inr (.inr o)), (1, .inl x1)] [] D eI (F_X4_hoursOfRest o x1 D) := by
  unfold F_X4_hoursOfRest
  refine ev_s (fun Q k => rn_iconst (v := 1) (by decide) dX4_hoursOfRest_0 k) ?_
  refine ev_s (fun Q k => rn_iload_n (j := 1) 1 rfl rfl dX4_hoursOfRest_1 k) ?_
  refine ev_s (fun Q k => rn_mmax mth_X4_33 (Nat.le_of_ble_eq_true rfl) dX4_hoursOfRest_2 k) ?_
  refine ev_s (fun Q k => rn_istore_n (j := 2) (ls' := [(2, .inl (if (1 : Int32) < x1 then x1 else (1 : Int32))), (0, .inr (.inr o)), (1, .inl x1)]) rfl (by decide) rfl dX4_hoursOfRest_5 k) ?_
  refine ev_s (fun Q k => rn_aload_n (j := 0) 1 rfl rfl (okO_0 ho) dX4_hoursOfRest_6 k) ?_
  refine ev_s (fun Q k => rn_geti f_X4_9 ho.1 ho.2.1 (okO_1 ho) rfl dX4_hoursOfRest_7 k) ?_
  refine ev_s (fun Q k => rn_aload_n (j := 0) 1 rfl rfl (okO_0 ho) dX4_hoursOfRest_10 k) ?_
  refine ev_s (fun Q k => rn_geti f_X4_15 ho.1 ho.2.1 (okO_1 ho) rfl dX4_hoursOfRest_11 k) ?_
  refine ev_s (fun Q k => rn_isub dX4_hoursOfRest_14 k) ?_
  refine ev_s (fun Q k => rn_iload_n (j := 2) 0 rfl rfl dX4_hoursOfRest_15 k) ?_
  refine ev_s (fun Q k => rn_iadd dX4_hoursOfRest_16 k) ?_
  refine ev_s (fun Q k => rn_iconst (v := 1) (by decide) dX4_hoursOfRest_17 k) ?_
  refine ev_s (fun Q k => rn_isub dX4_hoursOfRest_18 k) ?_
  refine ev_s (fun Q k => rn_iload_n (j := 2) 0 rfl rfl dX4_hoursOfRest_19 k) ?_
  refine ev_gd (fun g1 => ?_)
  refine ev_s (fun Q k => rn_idiv g1 dX4_hoursOfRest_20 k) ?_
  exact ev_ret (fun Q q => rn_ret q .int rfl rfl dX4_hoursOfRest_21)

def F_X4_tell (o : Nat) (x1 : Int32) (x2 : Int32) (D : dT) : Option (Int32 × dT) := if x1 = (0 : Int32) then some ((D o 0), D) else if x1 = (1 : Int32) then some ((D o 1), D) else if x1 = (2 : Int32) then some ((D o 2), D) else if x1 = (3 : Int32) then some ((D o 3), D) else if x1 = (4 : Int32) then some ((D o 4), D) else if x1 = (5 : Int32) then bd (F_X4_hoursOfRest o x2 D) (fun (r11 : Int32) (D12 : dT) => some (r11, D12)) else some ((-2 : Int32), D)
set_option maxRecDepth 20000 in
theorem e_X4_tell (l : Launch) (E : eE) (d : Nat) (o : Nat) (ho : okO o 4 0) (x1 : Int32) (x2 : Int32) (D : dT) : ev l E (d + 2) yX4_tell cX4_tell 3 (some .int) 0 [(0, .inr (.inr o)), (1, .inl x1), (2, .inl x2)] [] D eI (F_X4_tell o x1 x2 D) := by
  unfold F_X4_tell
  refine ev_s (fun Q k => rn_iload_n (j := 1) 1 rfl rfl dX4_tell_0 k) ?_
  refine ev_ite (fun c1 => ?_) (fun c2 => ?_)
  · refine ev_s (fun Q k => rn_tswI (off := 39) (tgt := 40) dX4_tell_1 (by rw [c1]; decide) (by rw [c1]; decide) (by rw [c1]; rfl) (by decide) k) ?_
    refine ev_s (fun Q k => rn_aload_n (j := 0) 0 rfl rfl (okO_0 ho) dX4_tell_40 k) ?_
    refine ev_s (fun Q k => rn_geti f_X4_9 ho.1 ho.2.1 (okO_1 ho) rfl dX4_tell_41 k) ?_
    exact ev_ret (fun Q q => rn_ret q .int rfl rfl dX4_tell_44)
  · refine ev_ite (fun c3 => ?_) (fun c4 => ?_)
    · refine ev_s (fun Q k => rn_tswI (off := 44) (tgt := 45) dX4_tell_1 (by rw [c3]; decide) (by rw [c3]; decide) (by rw [c3]; rfl) (by decide) k) ?_
      refine ev_s (fun Q k => rn_aload_n (j := 0) 0 rfl rfl (okO_0 ho) dX4_tell_45 k) ?_
      refine ev_s (fun Q k => rn_geti f_X4_15 ho.1 ho.2.1 (okO_1 ho) rfl dX4_tell_46 k) ?_
      exact ev_ret (fun Q q => rn_ret q .int rfl rfl dX4_tell_49)
    · refine ev_ite (fun c5 => ?_) (fun c6 => ?_)
      · refine ev_s (fun Q k => rn_tswI (off := 49) (tgt := 50) dX4_tell_1 (by rw [c5]; decide) (by rw [c5]; decide) (by rw [c5]; rfl) (by decide) k) ?_
        refine ev_s (fun Q k => rn_aload_n (j := 0) 0 rfl rfl (okO_0 ho) dX4_tell_50 k) ?_
        refine ev_s (fun Q k => rn_geti f_X4_18 ho.1 ho.2.1 (okO_1 ho) rfl dX4_tell_51 k) ?_
        exact ev_ret (fun Q q => rn_ret q .int rfl rfl dX4_tell_54)
      · refine ev_ite (fun c7 => ?_) (fun c8 => ?_)
        · refine ev_s (fun Q k => rn_tswI (off := 54) (tgt := 55) dX4_tell_1 (by rw [c7]; decide) (by rw [c7]; decide) (by rw [c7]; rfl) (by decide) k) ?_
          refine ev_s (fun Q k => rn_aload_n (j := 0) 0 rfl rfl (okO_0 ho) dX4_tell_55 k) ?_
          refine ev_s (fun Q k => rn_geti f_X4_21 ho.1 ho.2.1 (okO_1 ho) rfl dX4_tell_56 k) ?_
          exact ev_ret (fun Q q => rn_ret q .int rfl rfl dX4_tell_59)
        · refine ev_ite (fun c9 => ?_) (fun c10 => ?_)
          · refine ev_s (fun Q k => rn_tswI (off := 59) (tgt := 60) dX4_tell_1 (by rw [c9]; decide) (by rw [c9]; decide) (by rw [c9]; rfl) (by decide) k) ?_
            refine ev_s (fun Q k => rn_aload_n (j := 0) 0 rfl rfl (okO_0 ho) dX4_tell_60 k) ?_
            refine ev_s (fun Q k => rn_geti f_X4_24 ho.1 ho.2.1 (okO_1 ho) rfl dX4_tell_61 k) ?_
            exact ev_ret (fun Q q => rn_ret q .int rfl rfl dX4_tell_64)
          · refine ev_ite (fun c13 => ?_) (fun c14 => ?_)
            · refine ev_s (fun Q k => rn_tswI (off := 64) (tgt := 65) dX4_tell_1 (by rw [c13]; decide) (by rw [c13]; decide) (by rw [c13]; rfl) (by decide) k) ?_
              refine ev_s (fun Q k => rn_aload_n (j := 0) 0 rfl rfl (okO_0 ho) dX4_tell_65 k) ?_
              refine ev_s (fun Q k => rn_iload_n (j := 2) 2 rfl rfl dX4_tell_66 k) ?_
              refine ev_bindI (as := [.inr (.inr o), .inl x2]) (fun Q Q1 => rn_callV (as := [.inl x2]) (rest := []) (o := o) m_X4_36 dX4_tell_67 (rcv_own ho.1 ho.2.1 (by decide) (okO_1 ho)) rfl rfl (Nat.le_of_ble_eq_true rfl)) pl_X4_hoursOfRest (Nat.le_of_ble_eq_true rfl) rfl (e_X4_hoursOfRest l E d o ho x2 D) (fun r11 D12 => ?_)
              exact ev_ret (fun Q q => rn_ret q .int rfl rfl dX4_tell_70)
            · have z0 := lv_neT (k := 0) (a := 0) c2 (by decide)
              have z1 := lv_neT (k := 1) (a := 1) c4 (by decide)
              have z2 := lv_neT (k := 2) (a := 2) c6 (by decide)
              have z3 := lv_neT (k := 3) (a := 3) c8 (by decide)
              have z4 := lv_neT (k := 4) (a := 4) c10 (by decide)
              have z5 := lv_neT (k := 5) (a := 5) c14 (by decide)
              refine ev_s (fun Q k => rn_tswO (tgt := 71) dX4_tell_1 (by omega) (by decide) k) ?_
              refine ev_s (fun Q k => rn_bipush (v := -2) (by decide) dX4_tell_71 k) ?_
              exact ev_ret (fun Q q => rn_ret q .int rfl rfl dX4_tell_73)

def F_X5_of (x1 : Int32) (x2 : Int32) (D : dT) : Option (Int32 × dT) := bd (F_X0_hasPerson 19 x1 D) (fun (r1 : Int32) (D2 : dT) => if r1 = 0 then some ((-1 : Int32), D2) else if inR x1 10 then if inR (1 : Int32) 4 then bd (F_X4_tell (19 + 6 + x1.toNatClampNeg) x2 (D2 (19 + 1) (1 : Int32).toNatClampNeg) D2) (fun (r5 : Int32) (D6 : dT) => some (r5, D6)) else none else none)
set_option maxRecDepth 20000 in
theorem e_X5_of (l : Launch) (E : eE) (d : Nat) (x1 : Int32) (x2 : Int32) (D : dT) : ev l E (d + 3) yX5_of cX5_of 3 (some .int) 0 [(0, .inr (.inr 18)), (1, .inl x1), (2, .inl x2)] [] D eI (F_X5_of x1 x2 D) := by
  unfold F_X5_of
  refine ev_s (fun Q k => rn_aload_n (j := 0) 0 rfl rfl (okO_0 ok_18) dX5_of_0 k) ?_
  refine ev_s (fun Q k => rn_getr (q := 19) f_X5_10 ok_18.1 ok_18.2.1 (okO_1 ok_18) rfl rfl dX5_of_1 k) ?_
  refine ev_s (fun Q k => rn_iload_n (j := 1) 1 rfl rfl dX5_of_4 k) ?_
  refine ev_bindI (as := [.inr (.inr 19), .inl x1]) (fun Q Q1 => rn_callV (as := [.inl x1]) (rest := []) (o := 19) m_X5_80 dX5_of_5 (rcv_own (oF isF_19).1 (oF isF_19).2.1 (by decide) (okO_1 (oF isF_19))) rfl rfl (Nat.le_of_ble_eq_true rfl)) pl_X0_hasPerson (Nat.le_of_ble_eq_true rfl) rfl (e_X0_hasPerson l E (d + 2) 19 isF_19 x1 D) (fun r1 D2 => ?_)
  refine ev_if (fun Q => rn_if_ne (tgt := 13) dX5_of_8 (by decide)) (fun c7 => ?_) (fun c8 => ?_)
  · refine ev_s (fun Q k => rn_iconst (v := -1) (by decide) dX5_of_11 k) ?_
    exact ev_ret (fun Q q => rn_ret q .int rfl rfl dX5_of_12)
  · refine ev_s (fun Q k => rn_aload_n (j := 0) 0 rfl rfl (okO_0 ok_18) dX5_of_13 k) ?_
    refine ev_s (fun Q k => rn_getr (q := 19) f_X5_10 ok_18.1 ok_18.2.1 (okO_1 ok_18) rfl rfl dX5_of_14 k) ?_
    refine ev_s (fun Q k => rn_getr (q := (19 + 4)) f_X5_84 (oF isF_19).1 (oF isF_19).2.1 (okO_1 (oF isF_19)) rfl (rF3 isF_19) dX5_of_17 k) ?_
    refine ev_s (fun Q k => rn_iload_n (j := 1) 1 rfl rfl dX5_of_20 k) ?_
    refine ev_gd (fun g3 => ?_)
    refine ev_s (fun Q k => rn_aald (q := (19 + 6 + x1.toNatClampNeg)) (oF4 isF_19).1 (oF4 isF_19).2.1 (by decide) (by decide) (oF4 isF_19).2.2 (inR_vp g3) (rP isF_19 g3.2) dX5_of_21 k) ?_
    refine ev_s (fun Q k => rn_iload_n (j := 2) 2 rfl rfl dX5_of_22 k) ?_
    refine ev_s (fun Q k => rn_aload_n (j := 0) 0 rfl rfl (okO_0 ok_18) dX5_of_23 k) ?_
    refine ev_s (fun Q k => rn_getr (q := 19) f_X5_10 ok_18.1 ok_18.2.1 (okO_1 ok_18) rfl rfl dX5_of_24 k) ?_
    refine ev_s (fun Q k => rn_getr (q := (19 + 1)) f_X5_88 (oF isF_19).1 (oF isF_19).2.1 (okO_1 (oF isF_19)) rfl (rF0 isF_19) dX5_of_27 k) ?_
    refine ev_s (fun Q k => rn_iconst (v := 1) (by decide) dX5_of_30 k) ?_
    refine ev_gd (fun g4 => ?_)
    refine ev_s (fun Q k => rn_iald (oF1 isF_19).1 (oF1 isF_19).2.1 (oF1 isF_19).2.2 (inR_vp g4) dX5_of_31 k) ?_
    refine ev_bindI (as := [.inr (.inr (19 + 6 + x1.toNatClampNeg)), .inl x2, .inl (D2 (19 + 1) (1 : Int32).toNatClampNeg)]) (fun Q Q1 => rn_callV (as := [.inl x2, .inl (D2 (19 + 1) (1 : Int32).toNatClampNeg)]) (rest := []) (o := (19 + 6 + x1.toNatClampNeg)) m_X5_92 dX5_of_32 (rcv_own (oP isF_19 g3.2).1 (oP isF_19 g3.2).2.1 (by decide) (okO_1 (oP isF_19 g3.2))) rfl rfl (Nat.le_of_ble_eq_true rfl)) pl_X4_tell (Nat.le_of_ble_eq_true rfl) rfl (e_X4_tell l E d (19 + 6 + x1.toNatClampNeg) (oP isF_19 g3.2) x2 (D2 (19 + 1) (1 : Int32).toNatClampNeg) D2) (fun r5 D6 => ?_)
    exact ev_ret (fun Q q => rn_ret q .int rfl rfl dX5_of_35)

def F_X2_wasBegun (o : Nat) (D : dT) : Option (Int32 × dT) := if (D o 7) = 0 then some ((0 : Int32), D) else some ((1 : Int32), D)
set_option maxRecDepth 20000 in
theorem e_X2_wasBegun (l : Launch) (E : eE) (d : Nat) (o : Nat) (ho : okO o 2 0) (D : dT) : ev l E d yX2_wasBegun cX2_wasBegun 1 (some .boolean) 0 [(0, .inr (.inr o))] [] D eI (F_X2_wasBegun o D) := by
  unfold F_X2_wasBegun
  refine ev_s (fun Q k => rn_aload_n (j := 0) 0 rfl rfl (okO_0 ho) dX2_wasBegun_0 k) ?_
  refine ev_s (fun Q k => rn_geti f_X2_33 ho.1 ho.2.1 (okO_1 ho) rfl dX2_wasBegun_1 k) ?_
  refine ev_if (fun Q => rn_if_eq (tgt := 11) dX2_wasBegun_4 (by decide)) (fun c1 => ?_) (fun c2 => ?_)
  · refine ev_s (fun Q k => rn_iconst (v := 0) (by decide) dX2_wasBegun_11 k) ?_
    exact ev_ret (fun Q q => rn_ret q .boolean rfl rfl dX2_wasBegun_12)
  · refine ev_s (fun Q k => rn_iconst (v := 1) (by decide) dX2_wasBegun_7 k) ?_
    refine ev_s (fun Q k => rn_goto (tgt := 12) dX2_wasBegun_8 (by decide) k) ?_
    exact ev_ret (fun Q q => rn_ret q .boolean rfl rfl dX2_wasBegun_12)

def F_X2_isLate (o : Nat) (x1 : Int32) (D : dT) : Option (Int32 × dT) := if (D o 5) = (2 : Int32) then if (D o 11) ≤ (D o 4) then some ((0 : Int32), D) else some ((1 : Int32), D) else if (D o 5) = (3 : Int32) then some ((0 : Int32), D) else if x1 ≤ (D o 4) then some ((0 : Int32), D) else some ((1 : Int32), D)
set_option maxRecDepth 20000 in
theorem e_X2_isLate (l : Launch) (E : eE) (d : Nat) (o : Nat) (ho : okO o 2 0) (x1 : Int32) (D : dT) : ev l E d yX2_isLate cX2_isLate 2 (some .boolean) 0 [(0, .inr (.inr o)), (1, .inl x1)] [] D eI (F_X2_isLate o x1 D) := by
  unfold F_X2_isLate
  refine ev_s (fun Q k => rn_aload_n (j := 0) 0 rfl rfl (okO_0 ho) dX2_isLate_0 k) ?_
  refine ev_s (fun Q k => rn_geti f_X2_27 ho.1 ho.2.1 (okO_1 ho) rfl dX2_isLate_1 k) ?_
  refine ev_ite (fun c3 => ?_) (fun c4 => ?_)
  · refine ev_s (fun Q k => rn_lsw (off := 28) (tgt := 32) dX2_isLate_4 (by decide) (by rw [c3]; rfl) (by decide) k) ?_
    refine ev_s (fun Q k => rn_aload_n (j := 0) 0 rfl rfl (okO_0 ho) dX2_isLate_32 k) ?_
    refine ev_s (fun Q k => rn_geti f_X2_45 ho.1 ho.2.1 (okO_1 ho) rfl dX2_isLate_33 k) ?_
    refine ev_s (fun Q k => rn_aload_n (j := 0) 0 rfl rfl (okO_0 ho) dX2_isLate_36 k) ?_
    refine ev_s (fun Q k => rn_geti f_X2_24 ho.1 ho.2.1 (okO_1 ho) rfl dX2_isLate_37 k) ?_
    refine ev_if (fun Q => rn_icmp_le (tgt := 47) dX2_isLate_40 (by decide)) (fun c1 => ?_) (fun c2 => ?_)
    · refine ev_s (fun Q k => rn_iconst (v := 0) (by decide) dX2_isLate_47 k) ?_
      exact ev_ret (fun Q q => rn_ret q .boolean rfl rfl dX2_isLate_48)
    · refine ev_s (fun Q k => rn_iconst (v := 1) (by decide) dX2_isLate_43 k) ?_
      refine ev_s (fun Q k => rn_goto (tgt := 48) dX2_isLate_44 (by decide) k) ?_
      exact ev_ret (fun Q q => rn_ret q .boolean rfl rfl dX2_isLate_48)
  · refine ev_ite (fun c5 => ?_) (fun c6 => ?_)
    · refine ev_s (fun Q k => rn_lsw (off := 45) (tgt := 49) dX2_isLate_4 (by decide) (by rw [c5]; rfl) (by decide) k) ?_
      refine ev_s (fun Q k => rn_iconst (v := 0) (by decide) dX2_isLate_49 k) ?_
      exact ev_ret (fun Q q => rn_ret q .boolean rfl rfl dX2_isLate_50)
    · refine ev_s (fun Q k => rn_lsw (off := 47) (tgt := 51) dX2_isLate_4 (by decide) ((lv_osw (k := 2) c4 (by decide)).trans ((lv_osw (k := 3) c6 (by decide)).trans rfl)) (by decide) k) ?_
      refine ev_s (fun Q k => rn_iload_n (j := 1) 1 rfl rfl dX2_isLate_51 k) ?_
      refine ev_s (fun Q k => rn_aload_n (j := 0) 0 rfl rfl (okO_0 ho) dX2_isLate_52 k) ?_
      refine ev_s (fun Q k => rn_geti f_X2_24 ho.1 ho.2.1 (okO_1 ho) rfl dX2_isLate_53 k) ?_
      refine ev_if (fun Q => rn_icmp_le (tgt := 63) dX2_isLate_56 (by decide)) (fun c7 => ?_) (fun c8 => ?_)
      · refine ev_s (fun Q k => rn_iconst (v := 0) (by decide) dX2_isLate_63 k) ?_
        exact ev_ret (fun Q q => rn_ret q .boolean rfl rfl dX2_isLate_64)
      · refine ev_s (fun Q k => rn_iconst (v := 1) (by decide) dX2_isLate_59 k) ?_
        refine ev_s (fun Q k => rn_goto (tgt := 64) dX2_isLate_60 (by decide) k) ?_
        exact ev_ret (fun Q q => rn_ret q .boolean rfl rfl dX2_isLate_64)

def F_X0_tellOfJob (B : Nat) (o1 : Nat) (x2 : Int32) (D : dT) : Option (Int32 × dT) := if x2 = (0 : Int32) then some ((D o1 0), D) else if x2 = (1 : Int32) then some ((D o1 1), D) else if x2 = (2 : Int32) then some ((D o1 2), D) else if x2 = (3 : Int32) then some ((D o1 3), D) else if x2 = (4 : Int32) then some ((D o1 4), D) else if x2 = (5 : Int32) then some ((D o1 5), D) else if x2 = (6 : Int32) then bd (F_X2_wasBegun o1 D) (fun (r13 : Int32) (D14 : dT) => if r13 = 0 then bd (F_X0_loadNow B o1 D14) (fun (r15 : Int32) (D16 : dT) => some (r15, D16)) else some ((D14 o1 6), D14)) else if x2 = (7 : Int32) then some ((D o1 7), D) else if x2 = (8 : Int32) then some ((D o1 8), D) else if x2 = (9 : Int32) then some ((D o1 9), D) else if x2 = (10 : Int32) then some ((D o1 10), D) else if x2 = (11 : Int32) then some ((D o1 11), D) else if x2 = (12 : Int32) then bd (F_X2_isLate o1 (D B 7) D) (fun (r31 : Int32) (D32 : dT) => if r31 = 0 then some ((0 : Int32), D32) else some ((1 : Int32), D32)) else some ((-2 : Int32), D)
set_option maxRecDepth 20000 in
theorem e_X0_tellOfJob (l : Launch) (E : eE) (d : Nat) (B : Nat) (hB : isF B) (o1 : Nat) (ho1 : okO o1 2 0) (x2 : Int32) (D : dT) : ev l E (d + 1) yX0_tellOfJob cX0_tellOfJob 3 (some .int) 0 [(0, .inr (.inr B)), (1, .inr (.inr o1)), (2, .inl x2)] [] D eI (F_X0_tellOfJob B o1 x2 D) := by
  unfold F_X0_tellOfJob
  refine ev_s (fun Q k => rn_iload_n (j := 2) 2 rfl rfl dX0_tellOfJob_0 k) ?_
  refine ev_ite (fun c1 => ?_) (fun c2 => ?_)
  · refine ev_s (fun Q k => rn_tswI (off := 67) (tgt := 68) dX0_tellOfJob_1 (by rw [c1]; decide) (by rw [c1]; decide) (by rw [c1]; rfl) (by decide) k) ?_
    refine ev_s (fun Q k => rn_aload_n (j := 1) 1 rfl rfl (okO_0 ho1) dX0_tellOfJob_68 k) ?_
    refine ev_s (fun Q k => rn_geti f_X0_85 ho1.1 ho1.2.1 (okO_1 ho1) rfl dX0_tellOfJob_69 k) ?_
    exact ev_ret (fun Q q => rn_ret q .int rfl rfl dX0_tellOfJob_72)
  · refine ev_ite (fun c3 => ?_) (fun c4 => ?_)
    · refine ev_s (fun Q k => rn_tswI (off := 72) (tgt := 73) dX0_tellOfJob_1 (by rw [c3]; decide) (by rw [c3]; decide) (by rw [c3]; rfl) (by decide) k) ?_
      refine ev_s (fun Q k => rn_aload_n (j := 1) 1 rfl rfl (okO_0 ho1) dX0_tellOfJob_73 k) ?_
      refine ev_s (fun Q k => rn_geti f_X0_88 ho1.1 ho1.2.1 (okO_1 ho1) rfl dX0_tellOfJob_74 k) ?_
      exact ev_ret (fun Q q => rn_ret q .int rfl rfl dX0_tellOfJob_77)
    · refine ev_ite (fun c5 => ?_) (fun c6 => ?_)
      · refine ev_s (fun Q k => rn_tswI (off := 77) (tgt := 78) dX0_tellOfJob_1 (by rw [c5]; decide) (by rw [c5]; decide) (by rw [c5]; rfl) (by decide) k) ?_
        refine ev_s (fun Q k => rn_aload_n (j := 1) 1 rfl rfl (okO_0 ho1) dX0_tellOfJob_78 k) ?_
        refine ev_s (fun Q k => rn_geti f_X0_200 ho1.1 ho1.2.1 (okO_1 ho1) rfl dX0_tellOfJob_79 k) ?_
        exact ev_ret (fun Q q => rn_ret q .int rfl rfl dX0_tellOfJob_82)
      · refine ev_ite (fun c7 => ?_) (fun c8 => ?_)
        · refine ev_s (fun Q k => rn_tswI (off := 82) (tgt := 83) dX0_tellOfJob_1 (by rw [c7]; decide) (by rw [c7]; decide) (by rw [c7]; rfl) (by decide) k) ?_
          refine ev_s (fun Q k => rn_aload_n (j := 1) 1 rfl rfl (okO_0 ho1) dX0_tellOfJob_83 k) ?_
          refine ev_s (fun Q k => rn_geti f_X0_219 ho1.1 ho1.2.1 (okO_1 ho1) rfl dX0_tellOfJob_84 k) ?_
          exact ev_ret (fun Q q => rn_ret q .int rfl rfl dX0_tellOfJob_87)
        · refine ev_ite (fun c9 => ?_) (fun c10 => ?_)
          · refine ev_s (fun Q k => rn_tswI (off := 87) (tgt := 88) dX0_tellOfJob_1 (by rw [c9]; decide) (by rw [c9]; decide) (by rw [c9]; rfl) (by decide) k) ?_
            refine ev_s (fun Q k => rn_aload_n (j := 1) 1 rfl rfl (okO_0 ho1) dX0_tellOfJob_88 k) ?_
            refine ev_s (fun Q k => rn_geti f_X0_222 ho1.1 ho1.2.1 (okO_1 ho1) rfl dX0_tellOfJob_89 k) ?_
            exact ev_ret (fun Q q => rn_ret q .int rfl rfl dX0_tellOfJob_92)
          · refine ev_ite (fun c11 => ?_) (fun c12 => ?_)
            · refine ev_s (fun Q k => rn_tswI (off := 92) (tgt := 93) dX0_tellOfJob_1 (by rw [c11]; decide) (by rw [c11]; decide) (by rw [c11]; rfl) (by decide) k) ?_
              refine ev_s (fun Q k => rn_aload_n (j := 1) 1 rfl rfl (okO_0 ho1) dX0_tellOfJob_93 k) ?_
              refine ev_s (fun Q k => rn_geti f_X0_120 ho1.1 ho1.2.1 (okO_1 ho1) rfl dX0_tellOfJob_94 k) ?_
              exact ev_ret (fun Q q => rn_ret q .int rfl rfl dX0_tellOfJob_97)
            · refine ev_ite (fun c19 => ?_) (fun c20 => ?_)
              · refine ev_s (fun Q k => rn_tswI (off := 97) (tgt := 98) dX0_tellOfJob_1 (by rw [c19]; decide) (by rw [c19]; decide) (by rw [c19]; rfl) (by decide) k) ?_
                refine ev_s (fun Q k => rn_aload_n (j := 1) 1 rfl rfl (okO_0 ho1) dX0_tellOfJob_98 k) ?_
                refine ev_bindI (as := [.inr (.inr o1)]) (fun Q Q1 => rn_callV (as := []) (rest := []) (o := o1) m_X0_225 dX0_tellOfJob_99 (rcv_own ho1.1 ho1.2.1 (by decide) (okO_1 ho1)) rfl rfl (Nat.le_of_ble_eq_true rfl)) pl_X2_wasBegun (Nat.le_of_ble_eq_true rfl) rfl (e_X2_wasBegun l E d o1 ho1 D) (fun r13 D14 => ?_)
                refine ev_if (fun Q => rn_if_eq (tgt := 112) dX0_tellOfJob_102 (by decide)) (fun c17 => ?_) (fun c18 => ?_)
                · refine ev_s (fun Q k => rn_aload_n (j := 0) 0 rfl rfl (okO_0 (oF hB)) dX0_tellOfJob_112 k) ?_
                  refine ev_s (fun Q k => rn_aload_n (j := 1) 1 rfl rfl (okO_0 ho1) dX0_tellOfJob_113 k) ?_
                  refine ev_bindI (as := [.inr (.inr B), .inr (.inr o1)]) (fun Q Q1 => rn_callV (as := [.inr (.inr o1)]) (rest := []) (o := B) m_X0_94 dX0_tellOfJob_114 (rcv_own (oF hB).1 (oF hB).2.1 (by decide) (okO_1 (oF hB))) rfl rfl (Nat.le_of_ble_eq_true rfl)) pl_X0_loadNow (Nat.le_of_ble_eq_true rfl) rfl (e_X0_loadNow l E d B hB o1 ho1 D14) (fun r15 D16 => ?_)
                  exact ev_ret (fun Q q => rn_ret q .int rfl rfl dX0_tellOfJob_117)
                · refine ev_s (fun Q k => rn_aload_n (j := 1) 1 rfl rfl (okO_0 ho1) dX0_tellOfJob_105 k) ?_
                  refine ev_s (fun Q k => rn_geti f_X0_154 ho1.1 ho1.2.1 (okO_1 ho1) rfl dX0_tellOfJob_106 k) ?_
                  refine ev_s (fun Q k => rn_goto (tgt := 117) dX0_tellOfJob_109 (by decide) k) ?_
                  exact ev_ret (fun Q q => rn_ret q .int rfl rfl dX0_tellOfJob_117)
              · refine ev_ite (fun c21 => ?_) (fun c22 => ?_)
                · refine ev_s (fun Q k => rn_tswI (off := 117) (tgt := 118) dX0_tellOfJob_1 (by rw [c21]; decide) (by rw [c21]; decide) (by rw [c21]; rfl) (by decide) k) ?_
                  refine ev_s (fun Q k => rn_aload_n (j := 1) 1 rfl rfl (okO_0 ho1) dX0_tellOfJob_118 k) ?_
                  refine ev_s (fun Q k => rn_geti f_X0_157 ho1.1 ho1.2.1 (okO_1 ho1) rfl dX0_tellOfJob_119 k) ?_
                  exact ev_ret (fun Q q => rn_ret q .int rfl rfl dX0_tellOfJob_122)
                · refine ev_ite (fun c23 => ?_) (fun c24 => ?_)
                  · refine ev_s (fun Q k => rn_tswI (off := 122) (tgt := 123) dX0_tellOfJob_1 (by rw [c23]; decide) (by rw [c23]; decide) (by rw [c23]; rfl) (by decide) k) ?_
                    refine ev_s (fun Q k => rn_aload_n (j := 1) 1 rfl rfl (okO_0 ho1) dX0_tellOfJob_123 k) ?_
                    refine ev_s (fun Q k => rn_geti f_X0_160 ho1.1 ho1.2.1 (okO_1 ho1) rfl dX0_tellOfJob_124 k) ?_
                    exact ev_ret (fun Q q => rn_ret q .int rfl rfl dX0_tellOfJob_127)
                  · refine ev_ite (fun c25 => ?_) (fun c26 => ?_)
                    · refine ev_s (fun Q k => rn_tswI (off := 127) (tgt := 128) dX0_tellOfJob_1 (by rw [c25]; decide) (by rw [c25]; decide) (by rw [c25]; rfl) (by decide) k) ?_
                      refine ev_s (fun Q k => rn_aload_n (j := 1) 1 rfl rfl (okO_0 ho1) dX0_tellOfJob_128 k) ?_
                      refine ev_s (fun Q k => rn_geti f_X0_183 ho1.1 ho1.2.1 (okO_1 ho1) rfl dX0_tellOfJob_129 k) ?_
                      exact ev_ret (fun Q q => rn_ret q .int rfl rfl dX0_tellOfJob_132)
                    · refine ev_ite (fun c27 => ?_) (fun c28 => ?_)
                      · refine ev_s (fun Q k => rn_tswI (off := 132) (tgt := 133) dX0_tellOfJob_1 (by rw [c27]; decide) (by rw [c27]; decide) (by rw [c27]; rfl) (by decide) k) ?_
                        refine ev_s (fun Q k => rn_aload_n (j := 1) 1 rfl rfl (okO_0 ho1) dX0_tellOfJob_133 k) ?_
                        refine ev_s (fun Q k => rn_geti f_X0_199 ho1.1 ho1.2.1 (okO_1 ho1) rfl dX0_tellOfJob_134 k) ?_
                        exact ev_ret (fun Q q => rn_ret q .int rfl rfl dX0_tellOfJob_137)
                      · refine ev_ite (fun c29 => ?_) (fun c30 => ?_)
                        · refine ev_s (fun Q k => rn_tswI (off := 137) (tgt := 138) dX0_tellOfJob_1 (by rw [c29]; decide) (by rw [c29]; decide) (by rw [c29]; rfl) (by decide) k) ?_
                          refine ev_s (fun Q k => rn_aload_n (j := 1) 1 rfl rfl (okO_0 ho1) dX0_tellOfJob_138 k) ?_
                          refine ev_s (fun Q k => rn_geti f_X0_207 ho1.1 ho1.2.1 (okO_1 ho1) rfl dX0_tellOfJob_139 k) ?_
                          exact ev_ret (fun Q q => rn_ret q .int rfl rfl dX0_tellOfJob_142)
                        · refine ev_ite (fun c35 => ?_) (fun c36 => ?_)
                          · refine ev_s (fun Q k => rn_tswI (off := 142) (tgt := 143) dX0_tellOfJob_1 (by rw [c35]; decide) (by rw [c35]; decide) (by rw [c35]; rfl) (by decide) k) ?_
                            refine ev_s (fun Q k => rn_aload_n (j := 1) 1 rfl rfl (okO_0 ho1) dX0_tellOfJob_143 k) ?_
                            refine ev_s (fun Q k => rn_aload_n (j := 0) 0 rfl rfl (okO_0 (oF hB)) dX0_tellOfJob_144 k) ?_
                            refine ev_s (fun Q k => rn_geti f_X0_48 (oF hB).1 (oF hB).2.1 (okO_1 (oF hB)) rfl dX0_tellOfJob_145 k) ?_
                            refine ev_bindI (as := [.inr (.inr o1), .inl (D B 7)]) (fun Q Q1 => rn_callV (as := [.inl (D B 7)]) (rest := []) (o := o1) m_X0_229 dX0_tellOfJob_148 (rcv_own ho1.1 ho1.2.1 (by decide) (okO_1 ho1)) rfl rfl (Nat.le_of_ble_eq_true rfl)) pl_X2_isLate (Nat.le_of_ble_eq_true rfl) rfl (e_X2_isLate l E d o1 ho1 (D B 7) D) (fun r31 D32 => ?_)
                            refine ev_if (fun Q => rn_if_eq (tgt := 158) dX0_tellOfJob_151 (by decide)) (fun c33 => ?_) (fun c34 => ?_)
                            · refine ev_s (fun Q k => rn_iconst (v := 0) (by decide) dX0_tellOfJob_158 k) ?_
                              exact ev_ret (fun Q q => rn_ret q .int rfl rfl dX0_tellOfJob_159)
                            · refine ev_s (fun Q k => rn_iconst (v := 1) (by decide) dX0_tellOfJob_154 k) ?_
                              refine ev_s (fun Q k => rn_goto (tgt := 159) dX0_tellOfJob_155 (by decide) k) ?_
                              exact ev_ret (fun Q q => rn_ret q .int rfl rfl dX0_tellOfJob_159)
                          · have z0 := lv_neT (k := 0) (a := 0) c2 (by decide)
                            have z1 := lv_neT (k := 1) (a := 1) c4 (by decide)
                            have z2 := lv_neT (k := 2) (a := 2) c6 (by decide)
                            have z3 := lv_neT (k := 3) (a := 3) c8 (by decide)
                            have z4 := lv_neT (k := 4) (a := 4) c10 (by decide)
                            have z5 := lv_neT (k := 5) (a := 5) c12 (by decide)
                            have z6 := lv_neT (k := 6) (a := 6) c20 (by decide)
                            have z7 := lv_neT (k := 7) (a := 7) c22 (by decide)
                            have z8 := lv_neT (k := 8) (a := 8) c24 (by decide)
                            have z9 := lv_neT (k := 9) (a := 9) c26 (by decide)
                            have z10 := lv_neT (k := 10) (a := 10) c28 (by decide)
                            have z11 := lv_neT (k := 11) (a := 11) c30 (by decide)
                            have z12 := lv_neT (k := 12) (a := 12) c36 (by decide)
                            refine ev_s (fun Q k => rn_tswO (tgt := 160) dX0_tellOfJob_1 (by omega) (by decide) k) ?_
                            refine ev_s (fun Q k => rn_bipush (v := -2) (by decide) dX0_tellOfJob_160 k) ?_
                            exact ev_ret (fun Q q => rn_ret q .int rfl rfl dX0_tellOfJob_162)

def F_X5_ofJob (x1 : Int32) (x2 : Int32) (D : dT) : Option (Int32 × dT) := bd (F_X0_hasJob 19 x1 D) (fun (r1 : Int32) (D2 : dT) => if r1 = 0 then some ((-1 : Int32), D2) else if inR x1 16 then bd (F_X0_tellOfJob 19 (19 + 16 + x1.toNatClampNeg) x2 D2) (fun (r4 : Int32) (D5 : dT) => some (r4, D5)) else none)
set_option maxRecDepth 20000 in
theorem e_X5_ofJob (l : Launch) (E : eE) (d : Nat) (x1 : Int32) (x2 : Int32) (D : dT) : ev l E (d + 2) yX5_ofJob cX5_ofJob 3 (some .int) 0 [(0, .inr (.inr 18)), (1, .inl x1), (2, .inl x2)] [] D eI (F_X5_ofJob x1 x2 D) := by
  unfold F_X5_ofJob
  refine ev_s (fun Q k => rn_aload_n (j := 0) 0 rfl rfl (okO_0 ok_18) dX5_ofJob_0 k) ?_
  refine ev_s (fun Q k => rn_getr (q := 19) f_X5_10 ok_18.1 ok_18.2.1 (okO_1 ok_18) rfl rfl dX5_ofJob_1 k) ?_
  refine ev_s (fun Q k => rn_iload_n (j := 1) 1 rfl rfl dX5_ofJob_4 k) ?_
  refine ev_bindI (as := [.inr (.inr 19), .inl x1]) (fun Q Q1 => rn_callV (as := [.inl x1]) (rest := []) (o := 19) m_X5_97 dX5_ofJob_5 (rcv_own (oF isF_19).1 (oF isF_19).2.1 (by decide) (okO_1 (oF isF_19))) rfl rfl (Nat.le_of_ble_eq_true rfl)) pl_X0_hasJob (Nat.le_of_ble_eq_true rfl) rfl (e_X0_hasJob l E (d + 1) 19 isF_19 x1 D) (fun r1 D2 => ?_)
  refine ev_if (fun Q => rn_if_ne (tgt := 13) dX5_ofJob_8 (by decide)) (fun c6 => ?_) (fun c7 => ?_)
  · refine ev_s (fun Q k => rn_iconst (v := -1) (by decide) dX5_ofJob_11 k) ?_
    exact ev_ret (fun Q q => rn_ret q .int rfl rfl dX5_ofJob_12)
  · refine ev_s (fun Q k => rn_aload_n (j := 0) 0 rfl rfl (okO_0 ok_18) dX5_ofJob_13 k) ?_
    refine ev_s (fun Q k => rn_getr (q := 19) f_X5_10 ok_18.1 ok_18.2.1 (okO_1 ok_18) rfl rfl dX5_ofJob_14 k) ?_
    refine ev_s (fun Q k => rn_aload_n (j := 0) 0 rfl rfl (okO_0 ok_18) dX5_ofJob_17 k) ?_
    refine ev_s (fun Q k => rn_getr (q := 19) f_X5_10 ok_18.1 ok_18.2.1 (okO_1 ok_18) rfl rfl dX5_ofJob_18 k) ?_
    refine ev_s (fun Q k => rn_getr (q := (19 + 5)) f_X5_100 (oF isF_19).1 (oF isF_19).2.1 (okO_1 (oF isF_19)) rfl (rF4 isF_19) dX5_ofJob_21 k) ?_
    refine ev_s (fun Q k => rn_iload_n (j := 1) 1 rfl rfl dX5_ofJob_24 k) ?_
    refine ev_gd (fun g3 => ?_)
    refine ev_s (fun Q k => rn_aald (q := (19 + 16 + x1.toNatClampNeg)) (oF5 isF_19).1 (oF5 isF_19).2.1 (by decide) (by decide) (oF5 isF_19).2.2 (inR_vp g3) (rJ isF_19 g3.2) dX5_ofJob_25 k) ?_
    refine ev_s (fun Q k => rn_iload_n (j := 2) 2 rfl rfl dX5_ofJob_26 k) ?_
    refine ev_bindI (as := [.inr (.inr 19), .inr (.inr (19 + 16 + x1.toNatClampNeg)), .inl x2]) (fun Q Q1 => rn_callV (as := [.inr (.inr (19 + 16 + x1.toNatClampNeg)), .inl x2]) (rest := []) (o := 19) m_X5_104 dX5_ofJob_27 (rcv_own (oF isF_19).1 (oF isF_19).2.1 (by decide) (okO_1 (oF isF_19))) rfl rfl (Nat.le_of_ble_eq_true rfl)) pl_X0_tellOfJob (Nat.le_of_ble_eq_true rfl) rfl (e_X0_tellOfJob l E d 19 isF_19 (19 + 16 + x1.toNatClampNeg) (oJ isF_19 g3.2) x2 D2) (fun r4 D5 => ?_)
    exact ev_ret (fun Q q => rn_ret q .int rfl rfl dX5_ofJob_30)

def F_X0_waitingAt_18 (fuel : Nat) (B : Nat) (x1 : Int32)  (v2 : Int32) (v3 : Int32) (D : dT) : Option (Int32 × dT) := match fuel with
  | 0 => none
  | fu + 1 => if x1 ≤ v3 then some (v2, D) else bd (F_X0_hasJob B v2 D) (fun (r1 : Int32) (D2 : dT) => if r1 = 0 then some (v2, D2) else bd (F_X0_nextWaiting B v2 D2) (fun (r3 : Int32) (D4 : dT) => F_X0_waitingAt_18 fu B x1 r3 (v3 + (1 : Int32)) D4))
def F_X0_waitingAt (B : Nat) (x1 : Int32) (D : dT) : Option (Int32 × dT) := bd (F_X0_hasJob B x1 D) (fun (r1 : Int32) (D2 : dT) => if r1 = 0 then some ((-1 : Int32), D2) else bd (F_X0_nextWaiting B (-1 : Int32) D2) (fun (r3 : Int32) (D4 : dT) => F_X0_waitingAt_18 lim B x1 r3 (0 : Int32) D4))
set_option maxRecDepth 20000 in
theorem e_X0_waitingAt_18 (l : Launch) (E : eE) (d : Nat) (B : Nat) (hB : isF B) (x1 : Int32)  (fuel : Nat) : ∀ (v2 : Int32) (v3 : Int32) (D : dT), ev l E (d + 3) yX0_waitingAt cX0_waitingAt 4 (some .int) 18 [(0, .inr (.inr B)), (1, .inl x1), (2, .inl v2), (3, .inl v3)] [] D eI (F_X0_waitingAt_18 fuel B x1 v2 v3 D) := by
  induction fuel with
  | zero =>
    intro v2 v3 D
    exact ev_none
  | succ fu ih =>
    intro v2 v3 D
    rw [F_X0_waitingAt_18]
    refine ev_s (fun Q k => rn_iload_n (j := 3) 3 rfl rfl dX0_waitingAt_18 k) ?_
    refine ev_s (fun Q k => rn_iload_n (j := 1) 1 rfl rfl dX0_waitingAt_19 k) ?_
    refine ev_if (fun Q => rn_icmp_ge (tgt := 43) dX0_waitingAt_20 (by decide)) (fun c7 => ?_) (fun c8 => ?_)
    · refine ev_s (fun Q k => rn_iload_n (j := 2) 2 rfl rfl dX0_waitingAt_43 k) ?_
      exact ev_ret (fun Q q => rn_ret q .int rfl rfl dX0_waitingAt_44)
    · refine ev_s (fun Q k => rn_aload_n (j := 0) 0 rfl rfl (okO_0 (oF hB)) dX0_waitingAt_23 k) ?_
      refine ev_s (fun Q k => rn_iload_n (j := 2) 2 rfl rfl dX0_waitingAt_24 k) ?_
      refine ev_bindI (as := [.inr (.inr B), .inl v2]) (fun Q Q1 => rn_callV (as := [.inl v2]) (rest := []) (o := B) m_X0_114 dX0_waitingAt_25 (rcv_own (oF hB).1 (oF hB).2.1 (by decide) (okO_1 (oF hB))) rfl rfl (Nat.le_of_ble_eq_true rfl)) pl_X0_hasJob (Nat.le_of_ble_eq_true rfl) rfl (e_X0_hasJob l E (d + 2) B hB v2 D) (fun r1 D2 => ?_)
      refine ev_if (fun Q => rn_if_eq (tgt := 43) dX0_waitingAt_28 (by decide)) (fun c5 => ?_) (fun c6 => ?_)
      · refine ev_s (fun Q k => rn_iload_n (j := 2) 2 rfl rfl dX0_waitingAt_43 k) ?_
        exact ev_ret (fun Q q => rn_ret q .int rfl rfl dX0_waitingAt_44)
      · refine ev_s (fun Q k => rn_aload_n (j := 0) 0 rfl rfl (okO_0 (oF hB)) dX0_waitingAt_31 k) ?_
        refine ev_s (fun Q k => rn_iload_n (j := 2) 2 rfl rfl dX0_waitingAt_32 k) ?_
        refine ev_bindI (as := [.inr (.inr B), .inl v2]) (fun Q Q1 => rn_callV (as := [.inl v2]) (rest := []) (o := B) m_X0_167 dX0_waitingAt_33 (rcv_own (oF hB).1 (oF hB).2.1 (by decide) (okO_1 (oF hB))) rfl rfl (Nat.le_of_ble_eq_true rfl)) pl_X0_nextWaiting (Nat.le_of_ble_eq_true rfl) rfl (e_X0_nextWaiting l E d B hB v2 D2) (fun r3 D4 => ?_)
        refine ev_s (fun Q k => rn_istore_n (j := 2) (ls' := [(2, .inl r3), (0, .inr (.inr B)), (1, .inl x1), (3, .inl v3)]) rfl (by decide) rfl dX0_waitingAt_36 k) ?_
        refine ev_s (fun Q k => rn_iinc (v := (v3 + (1 : Int32))) (ls' := [(3, .inl (v3 + (1 : Int32))), (2, .inl r3), (0, .inr (.inr B)), (1, .inl x1)]) 3 rfl rfl (by decide) rfl dX0_waitingAt_37 k) ?_
        refine ev_s (fun Q k => rn_goto (tgt := 18) dX0_waitingAt_40 (by decide) k) ?_
        refine ev_s (fun Q k => rn_sub (ls' := [(0, .inr (.inr B)), (1, .inl x1), (2, .inl r3), (3, .inl (v3 + (1 : Int32)))]) [2, 3, 1, 0] rfl k) ?_
        exact ih r3 (v3 + (1 : Int32)) D4

set_option maxRecDepth 20000 in
theorem e_X0_waitingAt (l : Launch) (E : eE) (d : Nat) (B : Nat) (hB : isF B) (x1 : Int32) (D : dT) : ev l E (d + 3) yX0_waitingAt cX0_waitingAt 4 (some .int) 0 [(0, .inr (.inr B)), (1, .inl x1)] [] D eI (F_X0_waitingAt B x1 D) := by
  unfold F_X0_waitingAt
  refine ev_s (fun Q k => rn_aload_n (j := 0) 0 rfl rfl (okO_0 (oF hB)) dX0_waitingAt_0 k) ?_
  refine ev_s (fun Q k => rn_iload_n (j := 1) 1 rfl rfl dX0_waitingAt_1 k) ?_
  refine ev_bindI (as := [.inr (.inr B), .inl x1]) (fun Q Q1 => rn_callV (as := [.inl x1]) (rest := []) (o := B) m_X0_114 dX0_waitingAt_2 (rcv_own (oF hB).1 (oF hB).2.1 (by decide) (okO_1 (oF hB))) rfl rfl (Nat.le_of_ble_eq_true rfl)) pl_X0_hasJob (Nat.le_of_ble_eq_true rfl) rfl (e_X0_hasJob l E (d + 2) B hB x1 D) (fun r1 D2 => ?_)
  refine ev_if (fun Q => rn_if_ne (tgt := 10) dX0_waitingAt_5 (by decide)) (fun c5 => ?_) (fun c6 => ?_)
  · refine ev_s (fun Q k => rn_iconst (v := -1) (by decide) dX0_waitingAt_8 k) ?_
    exact ev_ret (fun Q q => rn_ret q .int rfl rfl dX0_waitingAt_9)
  · refine ev_s (fun Q k => rn_aload_n (j := 0) 0 rfl rfl (okO_0 (oF hB)) dX0_waitingAt_10 k) ?_
    refine ev_s (fun Q k => rn_iconst (v := -1) (by decide) dX0_waitingAt_11 k) ?_
    refine ev_bindI (as := [.inr (.inr B), .inl (-1 : Int32)]) (fun Q Q1 => rn_callV (as := [.inl (-1 : Int32)]) (rest := []) (o := B) m_X0_167 dX0_waitingAt_12 (rcv_own (oF hB).1 (oF hB).2.1 (by decide) (okO_1 (oF hB))) rfl rfl (Nat.le_of_ble_eq_true rfl)) pl_X0_nextWaiting (Nat.le_of_ble_eq_true rfl) rfl (e_X0_nextWaiting l E d B hB (-1 : Int32) D2) (fun r3 D4 => ?_)
    refine ev_s (fun Q k => rn_istore_n (j := 2) (ls' := [(2, .inl r3), (0, .inr (.inr B)), (1, .inl x1)]) rfl (by decide) rfl dX0_waitingAt_15 k) ?_
    refine ev_s (fun Q k => rn_iconst (v := 0) (by decide) dX0_waitingAt_16 k) ?_
    refine ev_s (fun Q k => rn_istore_n (j := 3) (ls' := [(3, .inl (0 : Int32)), (2, .inl r3), (0, .inr (.inr B)), (1, .inl x1)]) rfl (by decide) rfl dX0_waitingAt_17 k) ?_
    refine ev_s (fun Q k => rn_sub (ls' := [(0, .inr (.inr B)), (1, .inl x1), (2, .inl r3), (3, .inl (0 : Int32))]) [2, 3, 1, 0] rfl k) ?_
    exact e_X0_waitingAt_18 l E d B hB x1  lim r3 (0 : Int32) D4

def F_X5_waiting (x1 : Int32) (D : dT) : Option (Int32 × dT) := bd (F_X0_waitingAt 19 x1 D) (fun (r1 : Int32) (D2 : dT) => some (r1, D2))
set_option maxRecDepth 20000 in
theorem e_X5_waiting (l : Launch) (E : eE) (d : Nat) (x1 : Int32) (D : dT) : ev l E (d + 4) yX5_waiting cX5_waiting 2 (some .int) 0 [(0, .inr (.inr 18)), (1, .inl x1)] [] D eI (F_X5_waiting x1 D) := by
  unfold F_X5_waiting
  refine ev_s (fun Q k => rn_aload_n (j := 0) 0 rfl rfl (okO_0 ok_18) dX5_waiting_0 k) ?_
  refine ev_s (fun Q k => rn_getr (q := 19) f_X5_10 ok_18.1 ok_18.2.1 (okO_1 ok_18) rfl rfl dX5_waiting_1 k) ?_
  refine ev_s (fun Q k => rn_iload_n (j := 1) 1 rfl rfl dX5_waiting_4 k) ?_
  refine ev_bindI (as := [.inr (.inr 19), .inl x1]) (fun Q Q1 => rn_callV (as := [.inl x1]) (rest := []) (o := 19) m_X5_108 dX5_waiting_5 (rcv_own (oF isF_19).1 (oF isF_19).2.1 (by decide) (okO_1 (oF isF_19))) rfl rfl (Nat.le_of_ble_eq_true rfl)) pl_X0_waitingAt (Nat.le_of_ble_eq_true rfl) rfl (e_X0_waitingAt l E d 19 isF_19 x1 D) (fun r1 D2 => ?_)
  exact ev_ret (fun Q q => rn_ret q .int rfl rfl dX5_waiting_8)

def F_X5_straps (x1 : Int32) (x2 : Int32) (D : dT) : Option (Int32 × dT) := bd (F_X5_isKind x1 D) (fun (r1 : Int32) (D2 : dT) => if r1 = 0 then some ((-1 : Int32), D2) else if x2 = (0 : Int32) then if inR x1 3 then some ((D2 (19 + 2) x1.toNatClampNeg), D2) else none else if x2 = (1 : Int32) then if inR x1 3 then some ((D2 (19 + 3) x1.toNatClampNeg), D2) else none else some ((-2 : Int32), D2))
set_option maxRecDepth 20000 in
theorem e_X5_straps (l : Launch) (E : eE) (d : Nat) (x1 : Int32) (x2 : Int32) (D : dT) : ev l E (d + 1) yX5_straps cX5_straps 3 (some .int) 0 [(0, .inr (.inr 18)), (1, .inl x1), (2, .inl x2)] [] D eI (F_X5_straps x1 x2 D) := by
  unfold F_X5_straps
  refine ev_s (fun Q k => rn_iload_n (j := 1) 1 rfl rfl dX5_straps_0 k) ?_
  refine ev_bindI (as := [.inl x1]) (fun Q Q1 => rn_callS (as := [.inl x1]) (rest := []) m_X5_111 dX5_straps_1 rfl rfl (Nat.le_of_ble_eq_true rfl)) pl_X5_isKind (Nat.le_of_ble_eq_true rfl) rfl (e_X5_isKind l E d x1 D) (fun r1 D2 => ?_)
  refine ev_if (fun Q => rn_if_ne (tgt := 9) dX5_straps_4 (by decide)) (fun c9 => ?_) (fun c10 => ?_)
  · refine ev_s (fun Q k => rn_iconst (v := -1) (by decide) dX5_straps_7 k) ?_
    exact ev_ret (fun Q q => rn_ret q .int rfl rfl dX5_straps_8)
  · refine ev_s (fun Q k => rn_iload_n (j := 2) 2 rfl rfl dX5_straps_9 k) ?_
    refine ev_ite (fun c4 => ?_) (fun c5 => ?_)
    · refine ev_s (fun Q k => rn_lsw (off := 26) (tgt := 36) dX5_straps_10 (by decide) (by rw [c4]; rfl) (by decide) k) ?_
      refine ev_s (fun Q k => rn_aload_n (j := 0) 0 rfl rfl (okO_0 ok_18) dX5_straps_36 k) ?_
      refine ev_s (fun Q k => rn_getr (q := 19) f_X5_10 ok_18.1 ok_18.2.1 (okO_1 ok_18) rfl rfl dX5_straps_37 k) ?_
      refine ev_s (fun Q k => rn_getr (q := (19 + 2)) f_X5_114 (oF isF_19).1 (oF isF_19).2.1 (okO_1 (oF isF_19)) rfl (rF1 isF_19) dX5_straps_40 k) ?_
      refine ev_s (fun Q k => rn_iload_n (j := 1) 1 rfl rfl dX5_straps_43 k) ?_
      refine ev_gd (fun g3 => ?_)
      refine ev_s (fun Q k => rn_iald (oF2 isF_19).1 (oF2 isF_19).2.1 (oF2 isF_19).2.2 (inR_vp g3) dX5_straps_44 k) ?_
      exact ev_ret (fun Q q => rn_ret q .int rfl rfl dX5_straps_45)
    · refine ev_ite (fun c7 => ?_) (fun c8 => ?_)
      · refine ev_s (fun Q k => rn_lsw (off := 36) (tgt := 46) dX5_straps_10 (by decide) (by rw [c7]; rfl) (by decide) k) ?_
        refine ev_s (fun Q k => rn_aload_n (j := 0) 0 rfl rfl (okO_0 ok_18) dX5_straps_46 k) ?_
        refine ev_s (fun Q k => rn_getr (q := 19) f_X5_10 ok_18.1 ok_18.2.1 (okO_1 ok_18) rfl rfl dX5_straps_47 k) ?_
        refine ev_s (fun Q k => rn_getr (q := (19 + 3)) f_X5_117 (oF isF_19).1 (oF isF_19).2.1 (okO_1 (oF isF_19)) rfl (rF2 isF_19) dX5_straps_50 k) ?_
        refine ev_s (fun Q k => rn_iload_n (j := 1) 1 rfl rfl dX5_straps_53 k) ?_
        refine ev_gd (fun g6 => ?_)
        refine ev_s (fun Q k => rn_iald (oF3 isF_19).1 (oF3 isF_19).2.1 (oF3 isF_19).2.2 (inR_vp g6) dX5_straps_54 k) ?_
        exact ev_ret (fun Q q => rn_ret q .int rfl rfl dX5_straps_55)
      · refine ev_s (fun Q k => rn_lsw (off := 46) (tgt := 56) dX5_straps_10 (by decide) ((lv_osw (k := 0) c5 (by decide)).trans ((lv_osw (k := 1) c8 (by decide)).trans rfl)) (by decide) k) ?_
        refine ev_s (fun Q k => rn_bipush (v := -2) (by decide) dX5_straps_56 k) ?_
        exact ev_ret (fun Q q => rn_ret q .int rfl rfl dX5_straps_58)

def F_X0_jobsInState_4 (fuel : Nat) (B : Nat) (x1 : Int32)  (v2 : Int32) (v3 : Int32) (D : dT) : Option (Int32 × dT) := match fuel with
  | 0 => none
  | fu + 1 => if (D B 6) ≤ v3 then some (v2, D) else if inR v3 16 then if (D (B + 16 + v3.toNatClampNeg) 5) = x1 then F_X0_jobsInState_4 fu B x1 (v2 ||| ((1 : Int32) <<< (v3 &&& 31))) (v3 + (1 : Int32)) D else F_X0_jobsInState_4 fu B x1 v2 (v3 + (1 : Int32)) D else none
def F_X0_jobsInState (B : Nat) (x1 : Int32) (D : dT) : Option (Int32 × dT) := F_X0_jobsInState_4 lim B x1 (0 : Int32) (0 : Int32) D
set_option maxRecDepth 20000 in
theorem e_X0_jobsInState_4 (l : Launch) (E : eE) (d : Nat) (B : Nat) (hB : isF B) (x1 : Int32)  (fuel : Nat) : ∀ (v2 : Int32) (v3 : Int32) (D : dT), ev l E d yX0_jobsInState cX0_jobsInState 4 (some .int) 4 [(0, .inr (.inr B)), (1, .inl x1), (2, .inl v2), (3, .inl v3)] [] D eI (F_X0_jobsInState_4 fuel B x1 v2 v3 D) := by
  induction fuel with
  | zero =>
    intro v2 v3 D
    exact ev_none
  | succ fu ih =>
    intro v2 v3 D
    rw [F_X0_jobsInState_4]
    refine ev_s (fun Q k => rn_iload_n (j := 3) 3 rfl rfl dX0_jobsInState_4 k) ?_
    refine ev_s (fun Q k => rn_aload_n (j := 0) 0 rfl rfl (okO_0 (oF hB)) dX0_jobsInState_5 k) ?_
    refine ev_s (fun Q k => rn_geti f_X0_45 (oF hB).1 (oF hB).2.1 (okO_1 (oF hB)) rfl dX0_jobsInState_6 k) ?_
    refine ev_if (fun Q => rn_icmp_ge (tgt := 37) dX0_jobsInState_9 (by decide)) (fun c4 => ?_) (fun c5 => ?_)
    · refine ev_s (fun Q k => rn_iload_n (j := 2) 2 rfl rfl dX0_jobsInState_37 k) ?_
      exact ev_ret (fun Q q => rn_ret q .int rfl rfl dX0_jobsInState_38)
    · refine ev_s (fun Q k => rn_aload_n (j := 0) 0 rfl rfl (okO_0 (oF hB)) dX0_jobsInState_12 k) ?_
      refine ev_s (fun Q k => rn_getr (q := (B + 5)) f_X0_29 (oF hB).1 (oF hB).2.1 (okO_1 (oF hB)) rfl (rF4 hB) dX0_jobsInState_13 k) ?_
      refine ev_s (fun Q k => rn_iload_n (j := 3) 3 rfl rfl dX0_jobsInState_16 k) ?_
      refine ev_gd (fun g1 => ?_)
      refine ev_s (fun Q k => rn_aald (q := (B + 16 + v3.toNatClampNeg)) (oF5 hB).1 (oF5 hB).2.1 (by decide) (by decide) (oF5 hB).2.2 (inR_vp g1) (rJ hB g1.2) dX0_jobsInState_17 k) ?_
      refine ev_s (fun Q k => rn_geti f_X0_120 (oJ hB g1.2).1 (oJ hB g1.2).2.1 (okO_1 (oJ hB g1.2)) rfl dX0_jobsInState_18 k) ?_
      refine ev_s (fun Q k => rn_iload_n (j := 1) 1 rfl rfl dX0_jobsInState_21 k) ?_
      refine ev_if (fun Q => rn_icmp_ne (tgt := 31) dX0_jobsInState_22 (by decide)) (fun c2 => ?_) (fun c3 => ?_)
      · refine ev_s (fun Q k => rn_iload_n (j := 2) 2 rfl rfl dX0_jobsInState_25 k) ?_
        refine ev_s (fun Q k => rn_iconst (v := 1) (by decide) dX0_jobsInState_26 k) ?_
        refine ev_s (fun Q k => rn_iload_n (j := 3) 3 rfl rfl dX0_jobsInState_27 k) ?_
        refine ev_s (fun Q k => rn_ishl dX0_jobsInState_28 k) ?_
        refine ev_s (fun Q k => rn_ior dX0_jobsInState_29 k) ?_
        refine ev_s (fun Q k => rn_istore_n (j := 2) (ls' := [(2, .inl (v2 ||| ((1 : Int32) <<< (v3 &&& 31)))), (0, .inr (.inr B)), (1, .inl x1), (3, .inl v3)]) rfl (by decide) rfl dX0_jobsInState_30 k) ?_
        refine ev_s (fun Q k => rn_iinc (v := (v3 + (1 : Int32))) (ls' := [(3, .inl (v3 + (1 : Int32))), (2, .inl (v2 ||| ((1 : Int32) <<< (v3 &&& 31)))), (0, .inr (.inr B)), (1, .inl x1)]) 3 rfl rfl (by decide) rfl dX0_jobsInState_31 k) ?_
        refine ev_s (fun Q k => rn_goto (tgt := 4) dX0_jobsInState_34 (by decide) k) ?_
        refine ev_s (fun Q k => rn_sub (ls' := [(0, .inr (.inr B)), (1, .inl x1), (2, .inl (v2 ||| ((1 : Int32) <<< (v3 &&& 31)))), (3, .inl (v3 + (1 : Int32)))]) [2, 3, 1, 0] rfl k) ?_
        exact ih (v2 ||| ((1 : Int32) <<< (v3 &&& 31))) (v3 + (1 : Int32)) D
      · refine ev_s (fun Q k => rn_iinc (v := (v3 + (1 : Int32))) (ls' := [(3, .inl (v3 + (1 : Int32))), (0, .inr (.inr B)), (1, .inl x1), (2, .inl v2)]) 3 rfl rfl (by decide) rfl dX0_jobsInState_31 k) ?_
        refine ev_s (fun Q k => rn_goto (tgt := 4) dX0_jobsInState_34 (by decide) k) ?_
        refine ev_s (fun Q k => rn_sub (ls' := [(0, .inr (.inr B)), (1, .inl x1), (2, .inl v2), (3, .inl (v3 + (1 : Int32)))]) [1, 2, 3, 0] rfl k) ?_
        exact ih v2 (v3 + (1 : Int32)) D

set_option maxRecDepth 20000 in
theorem e_X0_jobsInState (l : Launch) (E : eE) (d : Nat) (B : Nat) (hB : isF B) (x1 : Int32) (D : dT) : ev l E d yX0_jobsInState cX0_jobsInState 4 (some .int) 0 [(0, .inr (.inr B)), (1, .inl x1)] [] D eI (F_X0_jobsInState B x1 D) := by
  unfold F_X0_jobsInState
  refine ev_s (fun Q k => rn_iconst (v := 0) (by decide) dX0_jobsInState_0 k) ?_
  refine ev_s (fun Q k => rn_istore_n (j := 2) (ls' := [(2, .inl (0 : Int32)), (0, .inr (.inr B)), (1, .inl x1)]) rfl (by decide) rfl dX0_jobsInState_1 k) ?_
  refine ev_s (fun Q k => rn_iconst (v := 0) (by decide) dX0_jobsInState_2 k) ?_
  refine ev_s (fun Q k => rn_istore_n (j := 3) (ls' := [(3, .inl (0 : Int32)), (2, .inl (0 : Int32)), (0, .inr (.inr B)), (1, .inl x1)]) rfl (by decide) rfl dX0_jobsInState_3 k) ?_
  refine ev_s (fun Q k => rn_sub (ls' := [(0, .inr (.inr B)), (1, .inl x1), (2, .inl (0 : Int32)), (3, .inl (0 : Int32))]) [2, 3, 1, 0] rfl k) ?_
  exact e_X0_jobsInState_4 l E d B hB x1  lim (0 : Int32) (0 : Int32) D

def F_X0_lateJobs_4 (fuel : Nat) (B : Nat)  (v1 : Int32) (v2 : Int32) (D : dT) : Option (Int32 × dT) := match fuel with
  | 0 => none
  | fu + 1 => if (D B 6) ≤ v2 then some (v1, D) else if inR v2 16 then bd (F_X2_isLate (B + 16 + v2.toNatClampNeg) (D B 7) D) (fun (r2 : Int32) (D3 : dT) => if r2 = 0 then F_X0_lateJobs_4 fu B v1 (v2 + (1 : Int32)) D3 else F_X0_lateJobs_4 fu B (v1 ||| ((1 : Int32) <<< (v2 &&& 31))) (v2 + (1 : Int32)) D3) else none
def F_X0_lateJobs (B : Nat) (D : dT) : Option (Int32 × dT) := F_X0_lateJobs_4 lim B (0 : Int32) (0 : Int32) D
set_option maxRecDepth 20000 in
theorem e_X0_lateJobs_4 (l : Launch) (E : eE) (d : Nat) (B : Nat) (hB : isF B)  (fuel : Nat) : ∀ (v1 : Int32) (v2 : Int32) (D : dT), ev l E (d + 1) yX0_lateJobs cX0_lateJobs 3 (some .int) 4 [(0, .inr (.inr B)), (1, .inl v1), (2, .inl v2)] [] D eI (F_X0_lateJobs_4 fuel B v1 v2 D) := by
  induction fuel with
  | zero =>
    intro v1 v2 D
    exact ev_none
  | succ fu ih =>
    intro v1 v2 D
    rw [F_X0_lateJobs_4]
    refine ev_s (fun Q k => rn_iload_n (j := 2) 2 rfl rfl dX0_lateJobs_4 k) ?_
    refine ev_s (fun Q k => rn_aload_n (j := 0) 0 rfl rfl (okO_0 (oF hB)) dX0_lateJobs_5 k) ?_
    refine ev_s (fun Q k => rn_geti f_X0_45 (oF hB).1 (oF hB).2.1 (okO_1 (oF hB)) rfl dX0_lateJobs_6 k) ?_
    refine ev_if (fun Q => rn_icmp_ge (tgt := 40) dX0_lateJobs_9 (by decide)) (fun c6 => ?_) (fun c7 => ?_)
    · refine ev_s (fun Q k => rn_iload_n (j := 1) 1 rfl rfl dX0_lateJobs_40 k) ?_
      exact ev_ret (fun Q q => rn_ret q .int rfl rfl dX0_lateJobs_41)
    · refine ev_s (fun Q k => rn_aload_n (j := 0) 0 rfl rfl (okO_0 (oF hB)) dX0_lateJobs_12 k) ?_
      refine ev_s (fun Q k => rn_getr (q := (B + 5)) f_X0_29 (oF hB).1 (oF hB).2.1 (okO_1 (oF hB)) rfl (rF4 hB) dX0_lateJobs_13 k) ?_
      refine ev_s (fun Q k => rn_iload_n (j := 2) 2 rfl rfl dX0_lateJobs_16 k) ?_
      refine ev_gd (fun g1 => ?_)
      refine ev_s (fun Q k => rn_aald (q := (B + 16 + v2.toNatClampNeg)) (oF5 hB).1 (oF5 hB).2.1 (by decide) (by decide) (oF5 hB).2.2 (inR_vp g1) (rJ hB g1.2) dX0_lateJobs_17 k) ?_
      refine ev_s (fun Q k => rn_aload_n (j := 0) 0 rfl rfl (okO_0 (oF hB)) dX0_lateJobs_18 k) ?_
      refine ev_s (fun Q k => rn_geti f_X0_48 (oF hB).1 (oF hB).2.1 (okO_1 (oF hB)) rfl dX0_lateJobs_19 k) ?_
      refine ev_bindI (as := [.inr (.inr (B + 16 + v2.toNatClampNeg)), .inl (D B 7)]) (fun Q Q1 => rn_callV (as := [.inl (D B 7)]) (rest := []) (o := (B + 16 + v2.toNatClampNeg)) m_X0_229 dX0_lateJobs_22 (rcv_own (oJ hB g1.2).1 (oJ hB g1.2).2.1 (by decide) (okO_1 (oJ hB g1.2))) rfl rfl (Nat.le_of_ble_eq_true rfl)) pl_X2_isLate (Nat.le_of_ble_eq_true rfl) rfl (e_X2_isLate l E d (B + 16 + v2.toNatClampNeg) (oJ hB g1.2) (D B 7) D) (fun r2 D3 => ?_)
      refine ev_if (fun Q => rn_if_eq (tgt := 34) dX0_lateJobs_25 (by decide)) (fun c4 => ?_) (fun c5 => ?_)
      · refine ev_s (fun Q k => rn_iinc (v := (v2 + (1 : Int32))) (ls' := [(2, .inl (v2 + (1 : Int32))), (0, .inr (.inr B)), (1, .inl v1)]) 2 rfl rfl (by decide) rfl dX0_lateJobs_34 k) ?_
        refine ev_s (fun Q k => rn_goto (tgt := 4) dX0_lateJobs_37 (by decide) k) ?_
        refine ev_s (fun Q k => rn_sub (ls' := [(0, .inr (.inr B)), (1, .inl v1), (2, .inl (v2 + (1 : Int32)))]) [1, 2, 0] rfl k) ?_
        exact ih v1 (v2 + (1 : Int32)) D3
      · refine ev_s (fun Q k => rn_iload_n (j := 1) 1 rfl rfl dX0_lateJobs_28 k) ?_
        refine ev_s (fun Q k => rn_iconst (v := 1) (by decide) dX0_lateJobs_29 k) ?_
        refine ev_s (fun Q k => rn_iload_n (j := 2) 2 rfl rfl dX0_lateJobs_30 k) ?_
        refine ev_s (fun Q k => rn_ishl dX0_lateJobs_31 k) ?_
        refine ev_s (fun Q k => rn_ior dX0_lateJobs_32 k) ?_
        refine ev_s (fun Q k => rn_istore_n (j := 1) (ls' := [(1, .inl (v1 ||| ((1 : Int32) <<< (v2 &&& 31)))), (0, .inr (.inr B)), (2, .inl v2)]) rfl (by decide) rfl dX0_lateJobs_33 k) ?_
        refine ev_s (fun Q k => rn_iinc (v := (v2 + (1 : Int32))) (ls' := [(2, .inl (v2 + (1 : Int32))), (1, .inl (v1 ||| ((1 : Int32) <<< (v2 &&& 31)))), (0, .inr (.inr B))]) 2 rfl rfl (by decide) rfl dX0_lateJobs_34 k) ?_
        refine ev_s (fun Q k => rn_goto (tgt := 4) dX0_lateJobs_37 (by decide) k) ?_
        refine ev_s (fun Q k => rn_sub (ls' := [(0, .inr (.inr B)), (1, .inl (v1 ||| ((1 : Int32) <<< (v2 &&& 31)))), (2, .inl (v2 + (1 : Int32)))]) [2, 1, 0] rfl k) ?_
        exact ih (v1 ||| ((1 : Int32) <<< (v2 &&& 31))) (v2 + (1 : Int32)) D3

set_option maxRecDepth 20000 in
theorem e_X0_lateJobs (l : Launch) (E : eE) (d : Nat) (B : Nat) (hB : isF B) (D : dT) : ev l E (d + 1) yX0_lateJobs cX0_lateJobs 3 (some .int) 0 [(0, .inr (.inr B))] [] D eI (F_X0_lateJobs B D) := by
  unfold F_X0_lateJobs
  refine ev_s (fun Q k => rn_iconst (v := 0) (by decide) dX0_lateJobs_0 k) ?_
  refine ev_s (fun Q k => rn_istore_n (j := 1) (ls' := [(1, .inl (0 : Int32)), (0, .inr (.inr B))]) rfl (by decide) rfl dX0_lateJobs_1 k) ?_
  refine ev_s (fun Q k => rn_iconst (v := 0) (by decide) dX0_lateJobs_2 k) ?_
  refine ev_s (fun Q k => rn_istore_n (j := 2) (ls' := [(2, .inl (0 : Int32)), (1, .inl (0 : Int32)), (0, .inr (.inr B))]) rfl (by decide) rfl dX0_lateJobs_3 k) ?_
  refine ev_s (fun Q k => rn_sub (ls' := [(0, .inr (.inr B)), (1, .inl (0 : Int32)), (2, .inl (0 : Int32))]) [2, 1, 0] rfl k) ?_
  exact e_X0_lateJobs_4 l E d B hB  lim (0 : Int32) (0 : Int32) D

