def F_X6_ends_22 (fuel : Nat) (x1 : Int32)  (v2 : Int32) (D : dT) : Option (Int32 × dT) := match fuel with
  | 0 => none
  | fu + 1 => if inR (5 : Int32) 244 then if (D 379 (5 : Int32).toNatClampNeg) ≤ v2 then some ((0 : Int32), D) else bd (F_X6_ofPerson v2 (3 : Int32) D) (fun (r2 : Int32) (D3 : dT) => bd (F_X6_ofJobs x1 (7 : Int32) D3) (fun (r4 : Int32) (D5 : dT) => bd (F_X6_layPerson v2 (3 : Int32) (r2 + ((r4 >>> (v2 &&& 31)) &&& (1 : Int32))) D5) (fun (r6 : Int32) (D7 : dT) => F_X6_ends_22 fu x1 (v2 + (1 : Int32)) D7))) else none
def F_X6_ends (x1 : Int32) (D : dT) : Option (Int32 × dT) := bd (F_X6_lay x1 (5 : Int32) (2 : Int32) D) (fun (r1 : Int32) (D2 : dT) => if inR (4 : Int32) 244 then bd (F_X6_lay x1 (11 : Int32) (D2 379 (4 : Int32).toNatClampNeg) D2) (fun (r4 : Int32) (D5 : dT) => F_X6_ends_22 lim x1 (0 : Int32) D5) else none)
set_option maxRecDepth 20000 in
theorem e_X6_ends_22 (l : Launch) (E : eE) (d : Nat) (x1 : Int32)  (fuel : Nat) : ∀ (v2 : Int32) (D : dT), ev l E (d + 1) yX6_ends cX6_ends 3 none 22 [(0, .inr (.inr 378)), (1, .inl x1), (2, .inl v2)] [] D eU (F_X6_ends_22 fuel x1 v2 D) := by
  induction fuel with
  | zero =>
    intro v2 D
    exact ev_none
  | succ fu ih =>
    intro v2 D
    rw [F_X6_ends_22]
    refine ev_s (fun Q k => rn_iload_n (j := 2) 2 rfl rfl dX6_ends_22 k) ?_
    refine ev_s (fun Q k => rn_aload_n (j := 0) 0 rfl rfl (okO_0 ok_378) dX6_ends_23 k) ?_
    refine ev_s (fun Q k => rn_getr (q := 379) f_X6_7 ok_378.1 ok_378.2.1 (okO_1 ok_378) rfl rfl dX6_ends_24 k) ?_
    refine ev_s (fun Q k => rn_iconst (v := 5) (by decide) dX6_ends_27 k) ?_
    refine ev_gd (fun g1 => ?_)
    refine ev_s (fun Q k => rn_iald ok_379.1 ok_379.2.1 ok_379.2.2 (inR_vp g1) dX6_ends_28 k) ?_
    refine ev_if (fun Q => rn_icmp_ge (tgt := 62) dX6_ends_29 (by decide)) (fun c8 => ?_) (fun c9 => ?_)
    · exact ev_ret (fun Q q => rn_retv q rfl dX6_ends_62)
    · refine ev_s (fun Q k => rn_aload_n (j := 0) 0 rfl rfl (okO_0 ok_378) dX6_ends_32 k) ?_
      refine ev_s (fun Q k => rn_iload_n (j := 2) 2 rfl rfl dX6_ends_33 k) ?_
      refine ev_s (fun Q k => rn_iconst (v := 3) (by decide) dX6_ends_34 k) ?_
      refine ev_s (fun Q k => rn_aload_n (j := 0) 0 rfl rfl (okO_0 ok_378) dX6_ends_35 k) ?_
      refine ev_s (fun Q k => rn_iload_n (j := 2) 2 rfl rfl dX6_ends_36 k) ?_
      refine ev_s (fun Q k => rn_iconst (v := 3) (by decide) dX6_ends_37 k) ?_
      refine ev_bindI (as := [.inr (.inr 378), .inl v2, .inl (3 : Int32)]) (fun Q Q1 => rn_callV (as := [.inl v2, .inl (3 : Int32)]) (rest := [.inl (3 : Int32), .inl v2, .inr (.inr 378)]) (o := 378) m_X6_47 dX6_ends_38 (rcv_own ok_378.1 ok_378.2.1 (by decide) (okO_1 ok_378)) rfl rfl (Nat.le_of_ble_eq_true rfl)) pl_X6_ofPerson (Nat.le_of_ble_eq_true rfl) rfl (e_X6_ofPerson l E d v2 (3 : Int32) D) (fun r2 D3 => ?_)
      refine ev_s (fun Q k => rn_aload_n (j := 0) 0 rfl rfl (okO_0 ok_378) dX6_ends_41 k) ?_
      refine ev_s (fun Q k => rn_iload_n (j := 1) 1 rfl rfl dX6_ends_42 k) ?_
      refine ev_s (fun Q k => rn_bipush (v := 7) (by decide) dX6_ends_43 k) ?_
      refine ev_bindI (as := [.inr (.inr 378), .inl x1, .inl (7 : Int32)]) (fun Q Q1 => rn_callV (as := [.inl x1, .inl (7 : Int32)]) (rest := [.inl r2, .inl (3 : Int32), .inl v2, .inr (.inr 378)]) (o := 378) m_X6_43 dX6_ends_45 (rcv_own ok_378.1 ok_378.2.1 (by decide) (okO_1 ok_378)) rfl rfl (Nat.le_of_ble_eq_true rfl)) pl_X6_ofJobs (Nat.le_of_ble_eq_true rfl) rfl (e_X6_ofJobs l E d x1 (7 : Int32) D3) (fun r4 D5 => ?_)
      refine ev_s (fun Q k => rn_iload_n (j := 2) 2 rfl rfl dX6_ends_48 k) ?_
      refine ev_s (fun Q k => rn_ishr dX6_ends_49 k) ?_
      refine ev_s (fun Q k => rn_iconst (v := 1) (by decide) dX6_ends_50 k) ?_
      refine ev_s (fun Q k => rn_iand dX6_ends_51 k) ?_
      refine ev_s (fun Q k => rn_iadd dX6_ends_52 k) ?_
      refine ev_bindU (as := [.inr (.inr 378), .inl v2, .inl (3 : Int32), .inl (r2 + ((r4 >>> (v2 &&& 31)) &&& (1 : Int32)))]) (fun Q Q1 => rn_callV (as := [.inl v2, .inl (3 : Int32), .inl (r2 + ((r4 >>> (v2 &&& 31)) &&& (1 : Int32)))]) (rest := []) (o := 378) m_X6_94 dX6_ends_53 (rcv_own ok_378.1 ok_378.2.1 (by decide) (okO_1 ok_378)) rfl rfl (Nat.le_of_ble_eq_true rfl)) pl_X6_layPerson (Nat.le_of_ble_eq_true rfl) rfl (e_X6_layPerson l E d v2 (3 : Int32) (r2 + ((r4 >>> (v2 &&& 31)) &&& (1 : Int32))) D5) (fun r6 D7 => ?_)
      refine ev_s (fun Q k => rn_iinc (v := (v2 + (1 : Int32))) (ls' := [(2, .inl (v2 + (1 : Int32))), (0, .inr (.inr 378)), (1, .inl x1)]) 2 rfl rfl (by decide) rfl dX6_ends_56 k) ?_
      refine ev_s (fun Q k => rn_goto (tgt := 22) dX6_ends_59 (by decide) k) ?_
      refine ev_s (fun Q k => rn_sub (ls' := [(0, .inr (.inr 378)), (1, .inl x1), (2, .inl (v2 + (1 : Int32)))]) [1, 2, 0] rfl k) ?_
      exact ih (v2 + (1 : Int32)) D7

set_option maxRecDepth 20000 in
theorem e_X6_ends (l : Launch) (E : eE) (d : Nat) (x1 : Int32) (D : dT) : ev l E (d + 1) yX6_ends cX6_ends 3 none 0 [(0, .inr (.inr 378)), (1, .inl x1)] [] D eU (F_X6_ends x1 D) := by
  unfold F_X6_ends
  refine ev_s (fun Q k => rn_aload_n (j := 0) 0 rfl rfl (okO_0 ok_378) dX6_ends_0 k) ?_
  refine ev_s (fun Q k => rn_iload_n (j := 1) 1 rfl rfl dX6_ends_1 k) ?_
  refine ev_s (fun Q k => rn_iconst (v := 5) (by decide) dX6_ends_2 k) ?_
  refine ev_s (fun Q k => rn_iconst (v := 2) (by decide) dX6_ends_3 k) ?_
  refine ev_bindU (as := [.inr (.inr 378), .inl x1, .inl (5 : Int32), .inl (2 : Int32)]) (fun Q Q1 => rn_callV (as := [.inl x1, .inl (5 : Int32), .inl (2 : Int32)]) (rest := []) (o := 378) m_X6_77 dX6_ends_4 (rcv_own ok_378.1 ok_378.2.1 (by decide) (okO_1 ok_378)) rfl rfl (Nat.le_of_ble_eq_true rfl)) pl_X6_lay (Nat.le_of_ble_eq_true rfl) rfl (e_X6_lay l E d x1 (5 : Int32) (2 : Int32) D) (fun r1 D2 => ?_)
  refine ev_s (fun Q k => rn_aload_n (j := 0) 0 rfl rfl (okO_0 ok_378) dX6_ends_7 k) ?_
  refine ev_s (fun Q k => rn_iload_n (j := 1) 1 rfl rfl dX6_ends_8 k) ?_
  refine ev_s (fun Q k => rn_bipush (v := 11) (by decide) dX6_ends_9 k) ?_
  refine ev_s (fun Q k => rn_aload_n (j := 0) 0 rfl rfl (okO_0 ok_378) dX6_ends_11 k) ?_
  refine ev_s (fun Q k => rn_getr (q := 379) f_X6_7 ok_378.1 ok_378.2.1 (okO_1 ok_378) rfl rfl dX6_ends_12 k) ?_
  refine ev_s (fun Q k => rn_iconst (v := 4) (by decide) dX6_ends_15 k) ?_
  refine ev_gd (fun g3 => ?_)
  refine ev_s (fun Q k => rn_iald ok_379.1 ok_379.2.1 ok_379.2.2 (inR_vp g3) dX6_ends_16 k) ?_
  refine ev_bindU (as := [.inr (.inr 378), .inl x1, .inl (11 : Int32), .inl (D2 379 (4 : Int32).toNatClampNeg)]) (fun Q Q1 => rn_callV (as := [.inl x1, .inl (11 : Int32), .inl (D2 379 (4 : Int32).toNatClampNeg)]) (rest := []) (o := 378) m_X6_77 dX6_ends_17 (rcv_own ok_378.1 ok_378.2.1 (by decide) (okO_1 ok_378)) rfl rfl (Nat.le_of_ble_eq_true rfl)) pl_X6_lay (Nat.le_of_ble_eq_true rfl) rfl (e_X6_lay l E d x1 (11 : Int32) (D2 379 (4 : Int32).toNatClampNeg) D2) (fun r4 D5 => ?_)
  refine ev_s (fun Q k => rn_iconst (v := 0) (by decide) dX6_ends_20 k) ?_
  refine ev_s (fun Q k => rn_istore_n (j := 2) (ls' := [(2, .inl (0 : Int32)), (0, .inr (.inr 378)), (1, .inl x1)]) rfl (by decide) rfl dX6_ends_21 k) ?_
  refine ev_s (fun Q k => rn_sub (ls' := [(0, .inr (.inr 378)), (1, .inl x1), (2, .inl (0 : Int32))]) [1, 2, 0] rfl k) ?_
  exact e_X6_ends_22 l E d x1  lim (0 : Int32) D5

def F_X6_works_134 (x1 : Int32)   (D : dT) : Option (Int32 × dT) := bd (F_X6_ofJobs x1 (2 : Int32) D) (fun (r1 : Int32) (D2 : dT) => if r1 = 0 then some ((1 : Int32), D2) else some ((0 : Int32), D2))
def F_X6_works (x1 : Int32) (D : dT) : Option (Int32 × dT) := bd (F_X6_ofJobs x1 (7 : Int32) D) (fun (r1 : Int32) (D2 : dT) => bd (F_X6_ofJobs x1 (9 : Int32) D2) (fun (r3 : Int32) (D4 : dT) => if r3 ≤ 0 then bd (F_X6_strength r1 D4) (fun (r5 : Int32) (D6 : dT) => bd (F_X6_ofJobs x1 (6 : Int32) D6) (fun (r7 : Int32) (D8 : dT) => if r7 ≤ r5 then bd (F_X6_ofJobs x1 (2 : Int32) D8) (fun (r9 : Int32) (D10 : dT) => bd (F_X6_lay x1 (2 : Int32) (r9 - (1 : Int32)) D10) (fun (r11 : Int32) (D12 : dT) => if inR (7 : Int32) 244 then if inR (7 : Int32) 244 then bd (F_X6_carry r1 (up2 D12 379 (7 : Int32).toNatClampNeg ((D12 379 (7 : Int32).toNatClampNeg) + (1 : Int32)))) (fun (r15 : Int32) (D16 : dT) => bd (F_X6_ofJobs x1 (2 : Int32) D16) (fun (r17 : Int32) (D18 : dT) => if r17 = 0 then bd (F_X6_ends x1 D18) (fun (r19 : Int32) (D20 : dT) => F_X6_works_134 x1 D20) else F_X6_works_134 x1 D18)) else none else none)) else bd (F_X6_ofJobs x1 (10 : Int32) D8) (fun (r23 : Int32) (D24 : dT) => bd (F_X6_lay x1 (10 : Int32) (r23 + (1 : Int32)) D24) (fun (r25 : Int32) (D26 : dT) => if inR (8 : Int32) 244 then if inR (8 : Int32) 244 then bd (F_X6_rest r1 (up2 D26 379 (8 : Int32).toNatClampNeg ((D26 379 (8 : Int32).toNatClampNeg) + (1 : Int32)))) (fun (r29 : Int32) (D30 : dT) => some ((0 : Int32), D30)) else none else none)))) else bd (F_X6_ofJobs x1 (9 : Int32) D4) (fun (r33 : Int32) (D34 : dT) => bd (F_X6_lay x1 (9 : Int32) (r33 - (1 : Int32)) D34) (fun (r35 : Int32) (D36 : dT) => bd (F_X6_rest r1 D36) (fun (r37 : Int32) (D38 : dT) => some ((0 : Int32), D38))))))
set_option maxRecDepth 20000 in
theorem e_X6_works_134 (l : Launch) (E : eE) (d : Nat) (x1 : Int32)   (D : dT) : ev l E (d + 2) yX6_works cX6_works 3 (some .boolean) 134 [(0, .inr (.inr 378)), (1, .inl x1)] [] D eI (F_X6_works_134 x1 D) := by
  unfold F_X6_works_134
  refine ev_s (fun Q k => rn_aload_n (j := 0) 0 rfl rfl (okO_0 ok_378) dX6_works_134 k) ?_
  refine ev_s (fun Q k => rn_iload_n (j := 1) 1 rfl rfl dX6_works_135 k) ?_
  refine ev_s (fun Q k => rn_iconst (v := 2) (by decide) dX6_works_136 k) ?_
  refine ev_bindI (as := [.inr (.inr 378), .inl x1, .inl (2 : Int32)]) (fun Q Q1 => rn_callV (as := [.inl x1, .inl (2 : Int32)]) (rest := []) (o := 378) m_X6_43 dX6_works_137 (rcv_own ok_378.1 ok_378.2.1 (by decide) (okO_1 ok_378)) rfl rfl (Nat.le_of_ble_eq_true rfl)) pl_X6_ofJobs (Nat.le_of_ble_eq_true rfl) rfl (e_X6_ofJobs l E (d + 1) x1 (2 : Int32) D) (fun r1 D2 => ?_)
  refine ev_if (fun Q => rn_if_ne (tgt := 147) dX6_works_140 (by decide)) (fun c3 => ?_) (fun c4 => ?_)
  · refine ev_s (fun Q k => rn_iconst (v := 1) (by decide) dX6_works_143 k) ?_
    refine ev_s (fun Q k => rn_goto (tgt := 148) dX6_works_144 (by decide) k) ?_
    exact ev_ret (fun Q q => rn_ret q .boolean rfl rfl dX6_works_148)
  · refine ev_s (fun Q k => rn_iconst (v := 0) (by decide) dX6_works_147 k) ?_
    exact ev_ret (fun Q q => rn_ret q .boolean rfl rfl dX6_works_148)

set_option maxRecDepth 20000 in
theorem e_X6_works (l : Launch) (E : eE) (d : Nat) (x1 : Int32) (D : dT) : ev l E (d + 2) yX6_works cX6_works 3 (some .boolean) 0 [(0, .inr (.inr 378)), (1, .inl x1)] [] D eI (F_X6_works x1 D) := by
  unfold F_X6_works
  refine ev_s (fun Q k => rn_aload_n (j := 0) 0 rfl rfl (okO_0 ok_378) dX6_works_0 k) ?_
  refine ev_s (fun Q k => rn_iload_n (j := 1) 1 rfl rfl dX6_works_1 k) ?_
  refine ev_s (fun Q k => rn_bipush (v := 7) (by decide) dX6_works_2 k) ?_
  refine ev_bindI (as := [.inr (.inr 378), .inl x1, .inl (7 : Int32)]) (fun Q Q1 => rn_callV (as := [.inl x1, .inl (7 : Int32)]) (rest := []) (o := 378) m_X6_43 dX6_works_4 (rcv_own ok_378.1 ok_378.2.1 (by decide) (okO_1 ok_378)) rfl rfl (Nat.le_of_ble_eq_true rfl)) pl_X6_ofJobs (Nat.le_of_ble_eq_true rfl) rfl (e_X6_ofJobs l E (d + 1) x1 (7 : Int32) D) (fun r1 D2 => ?_)
  refine ev_s (fun Q k => rn_istore_n (j := 2) (ls' := [(2, .inl r1), (0, .inr (.inr 378)), (1, .inl x1)]) rfl (by decide) rfl dX6_works_7 k) ?_
  refine ev_s (fun Q k => rn_aload_n (j := 0) 1 rfl rfl (okO_0 ok_378) dX6_works_8 k) ?_
  refine ev_s (fun Q k => rn_iload_n (j := 1) 2 rfl rfl dX6_works_9 k) ?_
  refine ev_s (fun Q k => rn_bipush (v := 9) (by decide) dX6_works_10 k) ?_
  refine ev_bindI (as := [.inr (.inr 378), .inl x1, .inl (9 : Int32)]) (fun Q Q1 => rn_callV (as := [.inl x1, .inl (9 : Int32)]) (rest := []) (o := 378) m_X6_43 dX6_works_12 (rcv_own ok_378.1 ok_378.2.1 (by decide) (okO_1 ok_378)) rfl rfl (Nat.le_of_ble_eq_true rfl)) pl_X6_ofJobs (Nat.le_of_ble_eq_true rfl) rfl (e_X6_ofJobs l E (d + 1) x1 (9 : Int32) D2) (fun r3 D4 => ?_)
  refine ev_if (fun Q => rn_if_le (tgt := 41) dX6_works_15 (by decide)) (fun c39 => ?_) (fun c40 => ?_)
  · refine ev_s (fun Q k => rn_aload_n (j := 0) 1 rfl rfl (okO_0 ok_378) dX6_works_41 k) ?_
    refine ev_s (fun Q k => rn_iload_n (j := 2) 0 rfl rfl dX6_works_42 k) ?_
    refine ev_bindI (as := [.inr (.inr 378), .inl r1]) (fun Q Q1 => rn_callV (as := [.inl r1]) (rest := []) (o := 378) m_X6_65 dX6_works_43 (rcv_own ok_378.1 ok_378.2.1 (by decide) (okO_1 ok_378)) rfl rfl (Nat.le_of_ble_eq_true rfl)) pl_X6_strength (Nat.le_of_ble_eq_true rfl) rfl (e_X6_strength l E d r1 D4) (fun r5 D6 => ?_)
    refine ev_s (fun Q k => rn_aload_n (j := 0) 1 rfl rfl (okO_0 ok_378) dX6_works_46 k) ?_
    refine ev_s (fun Q k => rn_iload_n (j := 1) 2 rfl rfl dX6_works_47 k) ?_
    refine ev_s (fun Q k => rn_bipush (v := 6) (by decide) dX6_works_48 k) ?_
    refine ev_bindI (as := [.inr (.inr 378), .inl x1, .inl (6 : Int32)]) (fun Q Q1 => rn_callV (as := [.inl x1, .inl (6 : Int32)]) (rest := [.inl r5]) (o := 378) m_X6_43 dX6_works_50 (rcv_own ok_378.1 ok_378.2.1 (by decide) (okO_1 ok_378)) rfl rfl (Nat.le_of_ble_eq_true rfl)) pl_X6_ofJobs (Nat.le_of_ble_eq_true rfl) rfl (e_X6_ofJobs l E (d + 1) x1 (6 : Int32) D6) (fun r7 D8 => ?_)
    refine ev_if (fun Q => rn_icmp_ge (tgt := 90) dX6_works_53 (by decide)) (fun c31 => ?_) (fun c32 => ?_)
    · refine ev_s (fun Q k => rn_aload_n (j := 0) 1 rfl rfl (okO_0 ok_378) dX6_works_90 k) ?_
      refine ev_s (fun Q k => rn_iload_n (j := 1) 2 rfl rfl dX6_works_91 k) ?_
      refine ev_s (fun Q k => rn_iconst (v := 2) (by decide) dX6_works_92 k) ?_
      refine ev_s (fun Q k => rn_aload_n (j := 0) 1 rfl rfl (okO_0 ok_378) dX6_works_93 k) ?_
      refine ev_s (fun Q k => rn_iload_n (j := 1) 2 rfl rfl dX6_works_94 k) ?_
      refine ev_s (fun Q k => rn_iconst (v := 2) (by decide) dX6_works_95 k) ?_
      refine ev_bindI (as := [.inr (.inr 378), .inl x1, .inl (2 : Int32)]) (fun Q Q1 => rn_callV (as := [.inl x1, .inl (2 : Int32)]) (rest := [.inl (2 : Int32), .inl x1, .inr (.inr 378)]) (o := 378) m_X6_43 dX6_works_96 (rcv_own ok_378.1 ok_378.2.1 (by decide) (okO_1 ok_378)) rfl rfl (Nat.le_of_ble_eq_true rfl)) pl_X6_ofJobs (Nat.le_of_ble_eq_true rfl) rfl (e_X6_ofJobs l E (d + 1) x1 (2 : Int32) D8) (fun r9 D10 => ?_)
      refine ev_s (fun Q k => rn_iconst (v := 1) (by decide) dX6_works_99 k) ?_
      refine ev_s (fun Q k => rn_isub dX6_works_100 k) ?_
      refine ev_bindU (as := [.inr (.inr 378), .inl x1, .inl (2 : Int32), .inl (r9 - (1 : Int32))]) (fun Q Q1 => rn_callV (as := [.inl x1, .inl (2 : Int32), .inl (r9 - (1 : Int32))]) (rest := []) (o := 378) m_X6_77 dX6_works_101 (rcv_own ok_378.1 ok_378.2.1 (by decide) (okO_1 ok_378)) rfl rfl (Nat.le_of_ble_eq_true rfl)) pl_X6_lay (Nat.le_of_ble_eq_true rfl) rfl (e_X6_lay l E (d + 1) x1 (2 : Int32) (r9 - (1 : Int32)) D10) (fun r11 D12 => ?_)
      refine ev_s (fun Q k => rn_aload_n (j := 0) 1 rfl rfl (okO_0 ok_378) dX6_works_104 k) ?_
      refine ev_s (fun Q k => rn_getr (q := 379) f_X6_7 ok_378.1 ok_378.2.1 (okO_1 ok_378) rfl rfl dX6_works_105 k) ?_
      refine ev_s (fun Q k => rn_bipush (v := 7) (by decide) dX6_works_108 k) ?_
      refine ev_s (fun Q k => rn_dup2 rfl rfl dX6_works_110 k) ?_
      refine ev_gd (fun g13 => ?_)
      refine ev_s (fun Q k => rn_iald ok_379.1 ok_379.2.1 ok_379.2.2 (inR_vp g13) dX6_works_111 k) ?_
      refine ev_s (fun Q k => rn_iconst (v := 1) (by decide) dX6_works_112 k) ?_
      refine ev_s (fun Q k => rn_iadd dX6_works_113 k) ?_
      refine ev_gd (fun g14 => ?_)
      refine ev_s (fun Q k => rn_iast ok_379.1 ok_379.2.1 ok_379.2.2 (inR_vp g14) dX6_works_114 k) ?_
      refine ev_s (fun Q k => rn_aload_n (j := 0) 1 rfl rfl (okO_0 ok_378) dX6_works_115 k) ?_
      refine ev_s (fun Q k => rn_iload_n (j := 2) 0 rfl rfl dX6_works_116 k) ?_
      refine ev_bindU (as := [.inr (.inr 378), .inl r1]) (fun Q Q1 => rn_callV (as := [.inl r1]) (rest := []) (o := 378) m_X6_101 dX6_works_117 (rcv_own ok_378.1 ok_378.2.1 (by decide) (okO_1 ok_378)) rfl rfl (Nat.le_of_ble_eq_true rfl)) pl_X6_carry (Nat.le_of_ble_eq_true rfl) rfl (e_X6_carry l E d r1 (up2 D12 379 (7 : Int32).toNatClampNeg ((D12 379 (7 : Int32).toNatClampNeg) + (1 : Int32)))) (fun r15 D16 => ?_)
      refine ev_s (fun Q k => rn_aload_n (j := 0) 1 rfl rfl (okO_0 ok_378) dX6_works_120 k) ?_
      refine ev_s (fun Q k => rn_iload_n (j := 1) 2 rfl rfl dX6_works_121 k) ?_
      refine ev_s (fun Q k => rn_iconst (v := 2) (by decide) dX6_works_122 k) ?_
      refine ev_bindI (as := [.inr (.inr 378), .inl x1, .inl (2 : Int32)]) (fun Q Q1 => rn_callV (as := [.inl x1, .inl (2 : Int32)]) (rest := []) (o := 378) m_X6_43 dX6_works_123 (rcv_own ok_378.1 ok_378.2.1 (by decide) (okO_1 ok_378)) rfl rfl (Nat.le_of_ble_eq_true rfl)) pl_X6_ofJobs (Nat.le_of_ble_eq_true rfl) rfl (e_X6_ofJobs l E (d + 1) x1 (2 : Int32) D16) (fun r17 D18 => ?_)
      refine ev_if (fun Q => rn_if_ne (tgt := 134) dX6_works_126 (by decide)) (fun c21 => ?_) (fun c22 => ?_)
      · refine ev_s (fun Q k => rn_aload_n (j := 0) 1 rfl rfl (okO_0 ok_378) dX6_works_129 k) ?_
        refine ev_s (fun Q k => rn_iload_n (j := 1) 2 rfl rfl dX6_works_130 k) ?_
        refine ev_bindU (as := [.inr (.inr 378), .inl x1]) (fun Q Q1 => rn_callV (as := [.inl x1]) (rest := []) (o := 378) m_X6_104 dX6_works_131 (rcv_own ok_378.1 ok_378.2.1 (by decide) (okO_1 ok_378)) rfl rfl (Nat.le_of_ble_eq_true rfl)) pl_X6_ends (Nat.le_of_ble_eq_true rfl) rfl (e_X6_ends l E d x1 D18) (fun r19 D20 => ?_)
        refine ev_s (fun Q k => rn_sub (ls' := [(0, .inr (.inr 378)), (1, .inl x1)]) [1, 2] rfl k) ?_
        exact e_X6_works_134 l E d x1   D20
      · refine ev_s (fun Q k => rn_sub (ls' := [(0, .inr (.inr 378)), (1, .inl x1)]) [1, 2] rfl k) ?_
        exact e_X6_works_134 l E d x1   D18
    · refine ev_s (fun Q k => rn_aload_n (j := 0) 1 rfl rfl (okO_0 ok_378) dX6_works_56 k) ?_
      refine ev_s (fun Q k => rn_iload_n (j := 1) 2 rfl rfl dX6_works_57 k) ?_
      refine ev_s (fun Q k => rn_bipush (v := 10) (by decide) dX6_works_58 k) ?_
      refine ev_s (fun Q k => rn_aload_n (j := 0) 1 rfl rfl (okO_0 ok_378) dX6_works_60 k) ?_
      refine ev_s (fun Q k => rn_iload_n (j := 1) 2 rfl rfl dX6_works_61 k) ?_
      refine ev_s (fun Q k => rn_bipush (v := 10) (by decide) dX6_works_62 k) ?_
      refine ev_bindI (as := [.inr (.inr 378), .inl x1, .inl (10 : Int32)]) (fun Q Q1 => rn_callV (as := [.inl x1, .inl (10 : Int32)]) (rest := [.inl (10 : Int32), .inl x1, .inr (.inr 378)]) (o := 378) m_X6_43 dX6_works_64 (rcv_own ok_378.1 ok_378.2.1 (by decide) (okO_1 ok_378)) rfl rfl (Nat.le_of_ble_eq_true rfl)) pl_X6_ofJobs (Nat.le_of_ble_eq_true rfl) rfl (e_X6_ofJobs l E (d + 1) x1 (10 : Int32) D8) (fun r23 D24 => ?_)
      refine ev_s (fun Q k => rn_iconst (v := 1) (by decide) dX6_works_67 k) ?_
      refine ev_s (fun Q k => rn_iadd dX6_works_68 k) ?_
      refine ev_bindU (as := [.inr (.inr 378), .inl x1, .inl (10 : Int32), .inl (r23 + (1 : Int32))]) (fun Q Q1 => rn_callV (as := [.inl x1, .inl (10 : Int32), .inl (r23 + (1 : Int32))]) (rest := []) (o := 378) m_X6_77 dX6_works_69 (rcv_own ok_378.1 ok_378.2.1 (by decide) (okO_1 ok_378)) rfl rfl (Nat.le_of_ble_eq_true rfl)) pl_X6_lay (Nat.le_of_ble_eq_true rfl) rfl (e_X6_lay l E (d + 1) x1 (10 : Int32) (r23 + (1 : Int32)) D24) (fun r25 D26 => ?_)
      refine ev_s (fun Q k => rn_aload_n (j := 0) 1 rfl rfl (okO_0 ok_378) dX6_works_72 k) ?_
      refine ev_s (fun Q k => rn_getr (q := 379) f_X6_7 ok_378.1 ok_378.2.1 (okO_1 ok_378) rfl rfl dX6_works_73 k) ?_
      refine ev_s (fun Q k => rn_bipush (v := 8) (by decide) dX6_works_76 k) ?_
      refine ev_s (fun Q k => rn_dup2 rfl rfl dX6_works_78 k) ?_
      refine ev_gd (fun g27 => ?_)
      refine ev_s (fun Q k => rn_iald ok_379.1 ok_379.2.1 ok_379.2.2 (inR_vp g27) dX6_works_79 k) ?_
      refine ev_s (fun Q k => rn_iconst (v := 1) (by decide) dX6_works_80 k) ?_
      refine ev_s (fun Q k => rn_iadd dX6_works_81 k) ?_
      refine ev_gd (fun g28 => ?_)
      refine ev_s (fun Q k => rn_iast ok_379.1 ok_379.2.1 ok_379.2.2 (inR_vp g28) dX6_works_82 k) ?_
      refine ev_s (fun Q k => rn_aload_n (j := 0) 1 rfl rfl (okO_0 ok_378) dX6_works_83 k) ?_
      refine ev_s (fun Q k => rn_iload_n (j := 2) 0 rfl rfl dX6_works_84 k) ?_
      refine ev_bindU (as := [.inr (.inr 378), .inl r1]) (fun Q Q1 => rn_callV (as := [.inl r1]) (rest := []) (o := 378) m_X6_97 dX6_works_85 (rcv_own ok_378.1 ok_378.2.1 (by decide) (okO_1 ok_378)) rfl rfl (Nat.le_of_ble_eq_true rfl)) pl_X6_rest (Nat.le_of_ble_eq_true rfl) rfl (e_X6_rest l E d r1 (up2 D26 379 (8 : Int32).toNatClampNeg ((D26 379 (8 : Int32).toNatClampNeg) + (1 : Int32)))) (fun r29 D30 => ?_)
      refine ev_s (fun Q k => rn_iconst (v := 0) (by decide) dX6_works_88 k) ?_
      exact ev_ret (fun Q q => rn_ret q .boolean rfl rfl dX6_works_89)
  · refine ev_s (fun Q k => rn_aload_n (j := 0) 1 rfl rfl (okO_0 ok_378) dX6_works_18 k) ?_
    refine ev_s (fun Q k => rn_iload_n (j := 1) 2 rfl rfl dX6_works_19 k) ?_
    refine ev_s (fun Q k => rn_bipush (v := 9) (by decide) dX6_works_20 k) ?_
    refine ev_s (fun Q k => rn_aload_n (j := 0) 1 rfl rfl (okO_0 ok_378) dX6_works_22 k) ?_
    refine ev_s (fun Q k => rn_iload_n (j := 1) 2 rfl rfl dX6_works_23 k) ?_
    refine ev_s (fun Q k => rn_bipush (v := 9) (by decide) dX6_works_24 k) ?_
    refine ev_bindI (as := [.inr (.inr 378), .inl x1, .inl (9 : Int32)]) (fun Q Q1 => rn_callV (as := [.inl x1, .inl (9 : Int32)]) (rest := [.inl (9 : Int32), .inl x1, .inr (.inr 378)]) (o := 378) m_X6_43 dX6_works_26 (rcv_own ok_378.1 ok_378.2.1 (by decide) (okO_1 ok_378)) rfl rfl (Nat.le_of_ble_eq_true rfl)) pl_X6_ofJobs (Nat.le_of_ble_eq_true rfl) rfl (e_X6_ofJobs l E (d + 1) x1 (9 : Int32) D4) (fun r33 D34 => ?_)
    refine ev_s (fun Q k => rn_iconst (v := 1) (by decide) dX6_works_29 k) ?_
    refine ev_s (fun Q k => rn_isub dX6_works_30 k) ?_
    refine ev_bindU (as := [.inr (.inr 378), .inl x1, .inl (9 : Int32), .inl (r33 - (1 : Int32))]) (fun Q Q1 => rn_callV (as := [.inl x1, .inl (9 : Int32), .inl (r33 - (1 : Int32))]) (rest := []) (o := 378) m_X6_77 dX6_works_31 (rcv_own ok_378.1 ok_378.2.1 (by decide) (okO_1 ok_378)) rfl rfl (Nat.le_of_ble_eq_true rfl)) pl_X6_lay (Nat.le_of_ble_eq_true rfl) rfl (e_X6_lay l E (d + 1) x1 (9 : Int32) (r33 - (1 : Int32)) D34) (fun r35 D36 => ?_)
    refine ev_s (fun Q k => rn_aload_n (j := 0) 1 rfl rfl (okO_0 ok_378) dX6_works_34 k) ?_
    refine ev_s (fun Q k => rn_iload_n (j := 2) 0 rfl rfl dX6_works_35 k) ?_
    refine ev_bindU (as := [.inr (.inr 378), .inl r1]) (fun Q Q1 => rn_callV (as := [.inl r1]) (rest := []) (o := 378) m_X6_97 dX6_works_36 (rcv_own ok_378.1 ok_378.2.1 (by decide) (okO_1 ok_378)) rfl rfl (Nat.le_of_ble_eq_true rfl)) pl_X6_rest (Nat.le_of_ble_eq_true rfl) rfl (e_X6_rest l E d r1 D36) (fun r37 D38 => ?_)
    refine ev_s (fun Q k => rn_iconst (v := 0) (by decide) dX6_works_39 k) ?_
    exact ev_ret (fun Q q => rn_ret q .boolean rfl rfl dX6_works_40)

def F_X6_goesBy_50  (k15 : Int32 → Int32 → Int32 → dT → Option (Int32 × dT)) (v1 : Int32) (v3 : Int32) (s0 : Int32) (s1 : Int32) (D : dT) : Option (Int32 × dT) := k15 v1 (s1 + s0) (v3 + (1 : Int32)) D
def F_X6_goesBy_49  (k15 : Int32 → Int32 → Int32 → dT → Option (Int32 × dT)) (v1 : Int32) (v3 : Int32) (s0 : Int32) (D : dT) : Option (Int32 × dT) := F_X6_goesBy_50 k15 v1 v3 (0 : Int32) s0 D
def F_X6_goesBy_15 (fuel : Nat)   (v1 : Int32) (v2 : Int32) (v3 : Int32) (D : dT) : Option (Int32 × dT) := match fuel with
  | 0 => none
  | fu + 1 => if inR (6 : Int32) 244 then if (D 379 (6 : Int32).toNatClampNeg) ≤ v3 then bd (F_X6_rest v1 D) (fun (r2 : Int32) (D3 : dT) => if inR (4 : Int32) 244 then if inR (4 : Int32) 244 then some (v2, (up2 D3 379 (4 : Int32).toNatClampNeg ((D3 379 (4 : Int32).toNatClampNeg) + (1 : Int32)))) else none else none) else bd (F_X6_ofJobs v3 (5 : Int32) D) (fun (r6 : Int32) (D7 : dT) => if r6 = (1 : Int32) then bd (F_X6_works v3 D7) (fun (r8 : Int32) (D9 : dT) => if r8 = 0 then F_X6_goesBy_49 (fun (v1_ : Int32) (v2_ : Int32) (v3_ : Int32) (D_ : dT) => F_X6_goesBy_15 fu v1_ v2_ v3_ D_) v1 v3 v2 D9 else F_X6_goesBy_50 (fun (v1_ : Int32) (v2_ : Int32) (v3_ : Int32) (D_ : dT) => F_X6_goesBy_15 fu v1_ v2_ v3_ D_) v1 v3 (1 : Int32) v2 D9) else F_X6_goesBy_49 (fun (v1_ : Int32) (v2_ : Int32) (v3_ : Int32) (D_ : dT) => F_X6_goesBy_15 fu v1_ v2_ v3_ D_) v1 v3 v2 D7) else none
def F_X6_goesBy  (D : dT) : Option (Int32 × dT) := bd (F_X6_busy  D) (fun (r1 : Int32) (D2 : dT) => F_X6_goesBy_15 lim ((1023 : Int32) &&& (r1 ^^^ (-1 : Int32))) (0 : Int32) (0 : Int32) D2)
set_option maxRecDepth 20000 in
theorem e_X6_goesBy_50 (l : Launch) (E : eE) (d : Nat)  (k15 : Int32 → Int32 → Int32 → dT → Option (Int32 × dT)) (hk15 : ∀ (v1 : Int32) (v2 : Int32) (v3 : Int32) (D : dT), ev l E (d + 3) yX6_goesBy cX6_goesBy 4 (some .int) 15 [(0, .inr (.inr 378)), (1, .inl v1), (2, .inl v2), (3, .inl v3)] [] D eI (k15 v1 v2 v3 D)) (v1 : Int32) (v3 : Int32) (s0 : Int32) (s1 : Int32) (D : dT) : ev l E (d + 3) yX6_goesBy cX6_goesBy 4 (some .int) 50 [(0, .inr (.inr 378)), (1, .inl v1), (3, .inl v3)] [.inl s0, .inl s1] D eI (F_X6_goesBy_50 k15 v1 v3 s0 s1 D) := by
  unfold F_X6_goesBy_50
  refine ev_s (fun Q k => rn_iadd dX6_goesBy_50 k) ?_
  refine ev_s (fun Q k => rn_istore_n (j := 2) (ls' := [(2, .inl (s1 + s0)), (0, .inr (.inr 378)), (1, .inl v1), (3, .inl v3)]) rfl (by decide) rfl dX6_goesBy_51 k) ?_
  refine ev_s (fun Q k => rn_iinc (v := (v3 + (1 : Int32))) (ls' := [(3, .inl (v3 + (1 : Int32))), (2, .inl (s1 + s0)), (0, .inr (.inr 378)), (1, .inl v1)]) 3 rfl rfl (by decide) rfl dX6_goesBy_52 k) ?_
  refine ev_s (fun Q k => rn_goto (tgt := 15) dX6_goesBy_55 (by decide) k) ?_
  refine ev_s (fun Q k => rn_sub (ls' := [(0, .inr (.inr 378)), (1, .inl v1), (2, .inl (s1 + s0)), (3, .inl (v3 + (1 : Int32)))]) [2, 3, 1, 0] rfl k) ?_
  exact hk15 v1 (s1 + s0) (v3 + (1 : Int32)) D

set_option maxRecDepth 20000 in
theorem e_X6_goesBy_49 (l : Launch) (E : eE) (d : Nat)  (k15 : Int32 → Int32 → Int32 → dT → Option (Int32 × dT)) (hk15 : ∀ (v1 : Int32) (v2 : Int32) (v3 : Int32) (D : dT), ev l E (d + 3) yX6_goesBy cX6_goesBy 4 (some .int) 15 [(0, .inr (.inr 378)), (1, .inl v1), (2, .inl v2), (3, .inl v3)] [] D eI (k15 v1 v2 v3 D)) (v1 : Int32) (v3 : Int32) (s0 : Int32) (D : dT) : ev l E (d + 3) yX6_goesBy cX6_goesBy 4 (some .int) 49 [(0, .inr (.inr 378)), (1, .inl v1), (3, .inl v3)] [.inl s0] D eI (F_X6_goesBy_49 k15 v1 v3 s0 D) := by
  unfold F_X6_goesBy_49
  refine ev_s (fun Q k => rn_iconst (v := 0) (by decide) dX6_goesBy_49 k) ?_
  exact e_X6_goesBy_50 l E d  k15 hk15  v1 v3 (0 : Int32) s0 D

set_option maxRecDepth 20000 in
theorem e_X6_goesBy_15 (l : Launch) (E : eE) (d : Nat)   (fuel : Nat) : ∀ (v1 : Int32) (v2 : Int32) (v3 : Int32) (D : dT), ev l E (d + 3) yX6_goesBy cX6_goesBy 4 (some .int) 15 [(0, .inr (.inr 378)), (1, .inl v1), (2, .inl v2), (3, .inl v3)] [] D eI (F_X6_goesBy_15 fuel v1 v2 v3 D) := by
  induction fuel with
  | zero =>
    intro v1 v2 v3 D
    exact ev_none
  | succ fu ih =>
    intro v1 v2 v3 D
    rw [F_X6_goesBy_15]
    refine ev_s (fun Q k => rn_iload_n (j := 3) 3 rfl rfl dX6_goesBy_15 k) ?_
    refine ev_s (fun Q k => rn_aload_n (j := 0) 0 rfl rfl (okO_0 ok_378) dX6_goesBy_16 k) ?_
    refine ev_s (fun Q k => rn_getr (q := 379) f_X6_7 ok_378.1 ok_378.2.1 (okO_1 ok_378) rfl rfl dX6_goesBy_17 k) ?_
    refine ev_s (fun Q k => rn_bipush (v := 6) (by decide) dX6_goesBy_20 k) ?_
    refine ev_gd (fun g1 => ?_)
    refine ev_s (fun Q k => rn_iald ok_379.1 ok_379.2.1 ok_379.2.2 (inR_vp g1) dX6_goesBy_22 k) ?_
    refine ev_if (fun Q => rn_icmp_ge (tgt := 58) dX6_goesBy_23 (by decide)) (fun c14 => ?_) (fun c15 => ?_)
    · refine ev_s (fun Q k => rn_aload_n (j := 0) 0 rfl rfl (okO_0 ok_378) dX6_goesBy_58 k) ?_
      refine ev_s (fun Q k => rn_iload_n (j := 1) 1 rfl rfl dX6_goesBy_59 k) ?_
      refine ev_bindU (as := [.inr (.inr 378), .inl v1]) (fun Q Q1 => rn_callV (as := [.inl v1]) (rest := []) (o := 378) m_X6_97 dX6_goesBy_60 (rcv_own ok_378.1 ok_378.2.1 (by decide) (okO_1 ok_378)) rfl rfl (Nat.le_of_ble_eq_true rfl)) pl_X6_rest (Nat.le_of_ble_eq_true rfl) rfl (e_X6_rest l E (d + 1) v1 D) (fun r2 D3 => ?_)
      refine ev_s (fun Q k => rn_aload_n (j := 0) 0 rfl rfl (okO_0 ok_378) dX6_goesBy_63 k) ?_
      refine ev_s (fun Q k => rn_getr (q := 379) f_X6_7 ok_378.1 ok_378.2.1 (okO_1 ok_378) rfl rfl dX6_goesBy_64 k) ?_
      refine ev_s (fun Q k => rn_iconst (v := 4) (by decide) dX6_goesBy_67 k) ?_
      refine ev_s (fun Q k => rn_dup2 rfl rfl dX6_goesBy_68 k) ?_
      refine ev_gd (fun g4 => ?_)
      refine ev_s (fun Q k => rn_iald ok_379.1 ok_379.2.1 ok_379.2.2 (inR_vp g4) dX6_goesBy_69 k) ?_
      refine ev_s (fun Q k => rn_iconst (v := 1) (by decide) dX6_goesBy_70 k) ?_
      refine ev_s (fun Q k => rn_iadd dX6_goesBy_71 k) ?_
      refine ev_gd (fun g5 => ?_)
      refine ev_s (fun Q k => rn_iast ok_379.1 ok_379.2.1 ok_379.2.2 (inR_vp g5) dX6_goesBy_72 k) ?_
      refine ev_s (fun Q k => rn_iload_n (j := 2) 2 rfl rfl dX6_goesBy_73 k) ?_
      exact ev_ret (fun Q q => rn_ret q .int rfl rfl dX6_goesBy_74)
    · refine ev_s (fun Q k => rn_iload_n (j := 2) 2 rfl rfl dX6_goesBy_26 k) ?_
      refine ev_s (fun Q k => rn_aload_n (j := 0) 0 rfl rfl (okO_0 ok_378) dX6_goesBy_27 k) ?_
      refine ev_s (fun Q k => rn_iload_n (j := 3) 3 rfl rfl dX6_goesBy_28 k) ?_
      refine ev_s (fun Q k => rn_iconst (v := 5) (by decide) dX6_goesBy_29 k) ?_
      refine ev_bindI (as := [.inr (.inr 378), .inl v3, .inl (5 : Int32)]) (fun Q Q1 => rn_callV (as := [.inl v3, .inl (5 : Int32)]) (rest := [.inl v2]) (o := 378) m_X6_43 dX6_goesBy_30 (rcv_own ok_378.1 ok_378.2.1 (by decide) (okO_1 ok_378)) rfl rfl (Nat.le_of_ble_eq_true rfl)) pl_X6_ofJobs (Nat.le_of_ble_eq_true rfl) rfl (e_X6_ofJobs l E (d + 2) v3 (5 : Int32) D) (fun r6 D7 => ?_)
      refine ev_s (fun Q k => rn_iconst (v := 1) (by decide) dX6_goesBy_33 k) ?_
      refine ev_if (fun Q => rn_icmp_ne (tgt := 49) dX6_goesBy_34 (by decide)) (fun c12 => ?_) (fun c13 => ?_)
      · refine ev_s (fun Q k => rn_aload_n (j := 0) 0 rfl rfl (okO_0 ok_378) dX6_goesBy_37 k) ?_
        refine ev_s (fun Q k => rn_iload_n (j := 3) 3 rfl rfl dX6_goesBy_38 k) ?_
        refine ev_bindI (as := [.inr (.inr 378), .inl v3]) (fun Q Q1 => rn_callV (as := [.inl v3]) (rest := [.inl v2]) (o := 378) m_X6_107 dX6_goesBy_39 (rcv_own ok_378.1 ok_378.2.1 (by decide) (okO_1 ok_378)) rfl rfl (Nat.le_of_ble_eq_true rfl)) pl_X6_works (Nat.le_of_ble_eq_true rfl) rfl (e_X6_works l E d v3 D7) (fun r8 D9 => ?_)
        refine ev_if (fun Q => rn_if_eq (tgt := 49) dX6_goesBy_42 (by decide)) (fun c10 => ?_) (fun c11 => ?_)
        · refine ev_s (fun Q k => rn_sub (ls' := [(0, .inr (.inr 378)), (1, .inl v1), (3, .inl v3)]) [0, 1, 3] rfl k) ?_
          exact e_X6_goesBy_49 l E d  (fun (v1_ : Int32) (v2_ : Int32) (v3_ : Int32) (D_ : dT) => F_X6_goesBy_15 fu v1_ v2_ v3_ D_) (fun v1_ v2_ v3_ D_ => ih v1_ v2_ v3_ D_)  v1 v3 v2 D9
        · refine ev_s (fun Q k => rn_iconst (v := 1) (by decide) dX6_goesBy_45 k) ?_
          refine ev_s (fun Q k => rn_goto (tgt := 50) dX6_goesBy_46 (by decide) k) ?_
          refine ev_s (fun Q k => rn_sub (ls' := [(0, .inr (.inr 378)), (1, .inl v1), (3, .inl v3)]) [0, 1, 3] rfl k) ?_
          exact e_X6_goesBy_50 l E d  (fun (v1_ : Int32) (v2_ : Int32) (v3_ : Int32) (D_ : dT) => F_X6_goesBy_15 fu v1_ v2_ v3_ D_) (fun v1_ v2_ v3_ D_ => ih v1_ v2_ v3_ D_)  v1 v3 (1 : Int32) v2 D9
      · refine ev_s (fun Q k => rn_sub (ls' := [(0, .inr (.inr 378)), (1, .inl v1), (3, .inl v3)]) [0, 1, 3] rfl k) ?_
        exact e_X6_goesBy_49 l E d  (fun (v1_ : Int32) (v2_ : Int32) (v3_ : Int32) (D_ : dT) => F_X6_goesBy_15 fu v1_ v2_ v3_ D_) (fun v1_ v2_ v3_ D_ => ih v1_ v2_ v3_ D_)  v1 v3 v2 D7

set_option maxRecDepth 20000 in
theorem e_X6_goesBy (l : Launch) (E : eE) (d : Nat)  (D : dT) : ev l E (d + 3) yX6_goesBy cX6_goesBy 4 (some .int) 0 [(0, .inr (.inr 378))] [] D eI (F_X6_goesBy D) := by
  unfold F_X6_goesBy
  refine ev_s (fun Q k => rn_sipush (v := 1023) (by decide) dX6_goesBy_0 k) ?_
  refine ev_s (fun Q k => rn_aload_n (j := 0) 0 rfl rfl (okO_0 ok_378) dX6_goesBy_3 k) ?_
  refine ev_bindI (as := [.inr (.inr 378)]) (fun Q Q1 => rn_callV (as := []) (rest := [.inl (1023 : Int32)]) (o := 378) m_X6_57 dX6_goesBy_4 (rcv_own ok_378.1 ok_378.2.1 (by decide) (okO_1 ok_378)) rfl rfl (Nat.le_of_ble_eq_true rfl)) pl_X6_busy (Nat.le_of_ble_eq_true rfl) rfl (e_X6_busy l E (d + 1)  D) (fun r1 D2 => ?_)
  refine ev_s (fun Q k => rn_iconst (v := -1) (by decide) dX6_goesBy_7 k) ?_
  refine ev_s (fun Q k => rn_ixor dX6_goesBy_8 k) ?_
  refine ev_s (fun Q k => rn_iand dX6_goesBy_9 k) ?_
  refine ev_s (fun Q k => rn_istore_n (j := 1) (ls' := [(1, .inl ((1023 : Int32) &&& (r1 ^^^ (-1 : Int32)))), (0, .inr (.inr 378))]) rfl (by decide) rfl dX6_goesBy_10 k) ?_
  refine ev_s (fun Q k => rn_iconst (v := 0) (by decide) dX6_goesBy_11 k) ?_
  refine ev_s (fun Q k => rn_istore_n (j := 2) (ls' := [(2, .inl (0 : Int32)), (1, .inl ((1023 : Int32) &&& (r1 ^^^ (-1 : Int32)))), (0, .inr (.inr 378))]) rfl (by decide) rfl dX6_goesBy_12 k) ?_
  refine ev_s (fun Q k => rn_iconst (v := 0) (by decide) dX6_goesBy_13 k) ?_
  refine ev_s (fun Q k => rn_istore_n (j := 3) (ls' := [(3, .inl (0 : Int32)), (2, .inl (0 : Int32)), (1, .inl ((1023 : Int32) &&& (r1 ^^^ (-1 : Int32)))), (0, .inr (.inr 378))]) rfl (by decide) rfl dX6_goesBy_14 k) ?_
  refine ev_s (fun Q k => rn_sub (ls' := [(0, .inr (.inr 378)), (1, .inl ((1023 : Int32) &&& (r1 ^^^ (-1 : Int32)))), (2, .inl (0 : Int32)), (3, .inl (0 : Int32))]) [3, 2, 1, 0] rfl k) ?_
  exact e_X6_goesBy_15 l E d   lim ((1023 : Int32) &&& (r1 ^^^ (-1 : Int32))) (0 : Int32) (0 : Int32) D2

def F_X6_passes_4 (fuel : Nat) (x1 : Int32)  (v2 : Int32) (v3 : Int32) (D : dT) : Option (Int32 × dT) := match fuel with
  | 0 => none
  | fu + 1 => if x1 ≤ v3 then some (v2, D) else bd (F_X6_goesBy  D) (fun (r1 : Int32) (D2 : dT) => F_X6_passes_4 fu x1 (v2 + r1) (v3 + (1 : Int32)) D2)
def F_X6_passes (x1 : Int32) (D : dT) : Option (Int32 × dT) := F_X6_passes_4 lim x1 (0 : Int32) (0 : Int32) D
set_option maxRecDepth 20000 in
theorem e_X6_passes_4 (l : Launch) (E : eE) (d : Nat) (x1 : Int32)  (fuel : Nat) : ∀ (v2 : Int32) (v3 : Int32) (D : dT), ev l E (d + 4) yX6_passes cX6_passes 4 (some .int) 4 [(0, .inr (.inr 378)), (1, .inl x1), (2, .inl v2), (3, .inl v3)] [] D eI (F_X6_passes_4 fuel x1 v2 v3 D) := by
  induction fuel with
  | zero =>
    intro v2 v3 D
    exact ev_none
  | succ fu ih =>
    intro v2 v3 D
    rw [F_X6_passes_4]
    refine ev_s (fun Q k => rn_iload_n (j := 3) 3 rfl rfl dX6_passes_4 k) ?_
    refine ev_s (fun Q k => rn_iload_n (j := 1) 1 rfl rfl dX6_passes_5 k) ?_
    refine ev_if (fun Q => rn_icmp_ge (tgt := 22) dX6_passes_6 (by decide)) (fun c3 => ?_) (fun c4 => ?_)
    · refine ev_s (fun Q k => rn_iload_n (j := 2) 2 rfl rfl dX6_passes_22 k) ?_
      exact ev_ret (fun Q q => rn_ret q .int rfl rfl dX6_passes_23)
    · refine ev_s (fun Q k => rn_iload_n (j := 2) 2 rfl rfl dX6_passes_9 k) ?_
      refine ev_s (fun Q k => rn_aload_n (j := 0) 0 rfl rfl (okO_0 ok_378) dX6_passes_10 k) ?_
      refine ev_bindI (as := [.inr (.inr 378)]) (fun Q Q1 => rn_callV (as := []) (rest := [.inl v2]) (o := 378) m_X6_160 dX6_passes_11 (rcv_own ok_378.1 ok_378.2.1 (by decide) (okO_1 ok_378)) rfl rfl (Nat.le_of_ble_eq_true rfl)) pl_X6_goesBy (Nat.le_of_ble_eq_true rfl) rfl (e_X6_goesBy l E d  D) (fun r1 D2 => ?_)
      refine ev_s (fun Q k => rn_iadd dX6_passes_14 k) ?_
      refine ev_s (fun Q k => rn_istore_n (j := 2) (ls' := [(2, .inl (v2 + r1)), (0, .inr (.inr 378)), (1, .inl x1), (3, .inl v3)]) rfl (by decide) rfl dX6_passes_15 k) ?_
      refine ev_s (fun Q k => rn_iinc (v := (v3 + (1 : Int32))) (ls' := [(3, .inl (v3 + (1 : Int32))), (2, .inl (v2 + r1)), (0, .inr (.inr 378)), (1, .inl x1)]) 3 rfl rfl (by decide) rfl dX6_passes_16 k) ?_
      refine ev_s (fun Q k => rn_goto (tgt := 4) dX6_passes_19 (by decide) k) ?_
      refine ev_s (fun Q k => rn_sub (ls' := [(0, .inr (.inr 378)), (1, .inl x1), (2, .inl (v2 + r1)), (3, .inl (v3 + (1 : Int32)))]) [2, 3, 1, 0] rfl k) ?_
      exact ih (v2 + r1) (v3 + (1 : Int32)) D2

set_option maxRecDepth 20000 in
theorem e_X6_passes (l : Launch) (E : eE) (d : Nat) (x1 : Int32) (D : dT) : ev l E (d + 4) yX6_passes cX6_passes 4 (some .int) 0 [(0, .inr (.inr 378)), (1, .inl x1)] [] D eI (F_X6_passes x1 D) := by
  unfold F_X6_passes
  refine ev_s (fun Q k => rn_iconst (v := 0) (by decide) dX6_passes_0 k) ?_
  refine ev_s (fun Q k => rn_istore_n (j := 2) (ls' := [(2, .inl (0 : Int32)), (0, .inr (.inr 378)), (1, .inl x1)]) rfl (by decide) rfl dX6_passes_1 k) ?_
  refine ev_s (fun Q k => rn_iconst (v := 0) (by decide) dX6_passes_2 k) ?_
  refine ev_s (fun Q k => rn_istore_n (j := 3) (ls' := [(3, .inl (0 : Int32)), (2, .inl (0 : Int32)), (0, .inr (.inr 378)), (1, .inl x1)]) rfl (by decide) rfl dX6_passes_3 k) ?_
  refine ev_s (fun Q k => rn_sub (ls' := [(0, .inr (.inr 378)), (1, .inl x1), (2, .inl (0 : Int32)), (3, .inl (0 : Int32))]) [2, 3, 1, 0] rfl k) ?_
  exact e_X6_passes_4 l E d x1  lim (0 : Int32) (0 : Int32) D

def F_X6_pass (x1 : Int32) (D : dT) : Option (Int32 × dT) := bd (F_X6_refusesHours x1 (up2 D 378 0 (0 : Int32))) (fun (r1 : Int32) (D2 : dT) => if r1 = 0 then bd (F_X6_records  D2) (fun (r3 : Int32) (D4 : dT) => bd (F_X6_passes x1 D4) (fun (r5 : Int32) (D6 : dT) => some (r5, D6))) else some (r1, D2))
set_option maxRecDepth 20000 in
theorem e_X6_pass (l : Launch) (E : eE) (d : Nat) (x1 : Int32) (D : dT) : ev l E (d + 5) yX6_pass cX6_pass 3 (some .int) 0 [(0, .inr (.inr 378)), (1, .inl x1)] [] D eI (F_X6_pass x1 D) := by
  unfold F_X6_pass
  refine ev_s (fun Q k => rn_aload_n (j := 0) 0 rfl rfl (okO_0 ok_378) dX6_pass_0 k) ?_
  refine ev_s (fun Q k => rn_iconst (v := 0) (by decide) dX6_pass_1 k) ?_
  refine ev_s (fun Q k => rn_puti f_X6_32 ok_378.1 ok_378.2.1 (okO_1 ok_378) rfl rfl rfl rfl dX6_pass_2 k) ?_
  refine ev_s (fun Q k => rn_aload_n (j := 0) 0 rfl rfl (okO_0 ok_378) dX6_pass_5 k) ?_
  refine ev_s (fun Q k => rn_iload_n (j := 1) 1 rfl rfl dX6_pass_6 k) ?_
  refine ev_bindI (as := [.inr (.inr 378), .inl x1]) (fun Q Q1 => rn_callV (as := [.inl x1]) (rest := []) (o := 378) m_X6_163 dX6_pass_7 (rcv_own ok_378.1 ok_378.2.1 (by decide) (okO_1 ok_378)) rfl rfl (Nat.le_of_ble_eq_true rfl)) pl_X6_refusesHours (Nat.le_of_ble_eq_true rfl) rfl (e_X6_refusesHours l E (d + 3) x1 (up2 D 378 0 (0 : Int32))) (fun r1 D2 => ?_)
  refine ev_s (fun Q k => rn_istore_n (j := 2) (ls' := [(2, .inl r1), (0, .inr (.inr 378)), (1, .inl x1)]) rfl (by decide) rfl dX6_pass_10 k) ?_
  refine ev_s (fun Q k => rn_iload_n (j := 2) 0 rfl rfl dX6_pass_11 k) ?_
  refine ev_if (fun Q => rn_if_eq (tgt := 17) dX6_pass_12 (by decide)) (fun c7 => ?_) (fun c8 => ?_)
  · refine ev_s (fun Q k => rn_aload_n (j := 0) 1 rfl rfl (okO_0 ok_378) dX6_pass_17 k) ?_
    refine ev_bindU (as := [.inr (.inr 378)]) (fun Q Q1 => rn_callV (as := []) (rest := []) (o := 378) m_X6_117 dX6_pass_18 (rcv_own ok_378.1 ok_378.2.1 (by decide) (okO_1 ok_378)) rfl rfl (Nat.le_of_ble_eq_true rfl)) pl_X6_records (Nat.le_of_ble_eq_true rfl) rfl (e_X6_records l E (d + 4)  D2) (fun r3 D4 => ?_)
    refine ev_s (fun Q k => rn_aload_n (j := 0) 1 rfl rfl (okO_0 ok_378) dX6_pass_21 k) ?_
    refine ev_s (fun Q k => rn_iload_n (j := 1) 2 rfl rfl dX6_pass_22 k) ?_
    refine ev_bindI (as := [.inr (.inr 378), .inl x1]) (fun Q Q1 => rn_callV (as := [.inl x1]) (rest := []) (o := 378) m_X6_166 dX6_pass_23 (rcv_own ok_378.1 ok_378.2.1 (by decide) (okO_1 ok_378)) rfl rfl (Nat.le_of_ble_eq_true rfl)) pl_X6_passes (Nat.le_of_ble_eq_true rfl) rfl (e_X6_passes l E d x1 D4) (fun r5 D6 => ?_)
    exact ev_ret (fun Q q => rn_ret q .int rfl rfl dX6_pass_26)
  · refine ev_s (fun Q k => rn_iload_n (j := 2) 0 rfl rfl dX6_pass_15 k) ?_
    exact ev_ret (fun Q q => rn_ret q .int rfl rfl dX6_pass_16)

def F_X6_jobOf_46 (x1 : Int32) (k5 : Int32 → Int32 → dT → Option (Int32 × dT)) (v3 : Int32) (s0 : Int32) (D : dT) : Option (Int32 × dT) := k5 s0 (v3 + (1 : Int32)) D
def F_X6_jobOf_45 (x1 : Int32) (k5 : Int32 → Int32 → dT → Option (Int32 × dT)) (v2 : Int32) (v3 : Int32) (D : dT) : Option (Int32 × dT) := F_X6_jobOf_46 x1 k5 v3 v2 D
def F_X6_jobOf_5 (fuel : Nat) (x1 : Int32)  (v2 : Int32) (v3 : Int32) (D : dT) : Option (Int32 × dT) := match fuel with
  | 0 => none
  | fu + 1 => if inR (6 : Int32) 244 then if (D 379 (6 : Int32).toNatClampNeg) ≤ v3 then some (v2, D) else bd (F_X6_ofJobs v3 (5 : Int32) D) (fun (r2 : Int32) (D3 : dT) => if r2 = (1 : Int32) then bd (F_X6_ofJobs v3 (7 : Int32) D3) (fun (r4 : Int32) (D5 : dT) => if ((r4 >>> (x1 &&& 31)) &&& (1 : Int32)) = (1 : Int32) then F_X6_jobOf_46 x1 (fun (v2_ : Int32) (v3_ : Int32) (D_ : dT) => F_X6_jobOf_5 fu x1 v2_ v3_ D_) v3 v3 D5 else F_X6_jobOf_45 x1 (fun (v2_ : Int32) (v3_ : Int32) (D_ : dT) => F_X6_jobOf_5 fu x1 v2_ v3_ D_) v2 v3 D5) else F_X6_jobOf_45 x1 (fun (v2_ : Int32) (v3_ : Int32) (D_ : dT) => F_X6_jobOf_5 fu x1 v2_ v3_ D_) v2 v3 D3) else none
def F_X6_jobOf (x1 : Int32) (D : dT) : Option (Int32 × dT) := F_X6_jobOf_5 lim x1 (-6 : Int32) (0 : Int32) D
set_option maxRecDepth 20000 in
theorem e_X6_jobOf_46 (l : Launch) (E : eE) (d : Nat) (x1 : Int32) (k5 : Int32 → Int32 → dT → Option (Int32 × dT)) (hk5 : ∀ (v2 : Int32) (v3 : Int32) (D : dT), ev l E (d + 1) yX6_jobOf cX6_jobOf 4 (some .int) 5 [(0, .inr (.inr 378)), (1, .inl x1), (2, .inl v2), (3, .inl v3)] [] D eI (k5 v2 v3 D)) (v3 : Int32) (s0 : Int32) (D : dT) : ev l E (d + 1) yX6_jobOf cX6_jobOf 4 (some .int) 46 [(0, .inr (.inr 378)), (1, .inl x1), (3, .inl v3)] [.inl s0] D eI (F_X6_jobOf_46 x1 k5 v3 s0 D) := by
  unfold F_X6_jobOf_46
  refine ev_s (fun Q k => rn_istore_n (j := 2) (ls' := [(2, .inl s0), (0, .inr (.inr 378)), (1, .inl x1), (3, .inl v3)]) rfl (by decide) rfl dX6_jobOf_46 k) ?_
  refine ev_s (fun Q k => rn_iinc (v := (v3 + (1 : Int32))) (ls' := [(3, .inl (v3 + (1 : Int32))), (2, .inl s0), (0, .inr (.inr 378)), (1, .inl x1)]) 3 rfl rfl (by decide) rfl dX6_jobOf_47 k) ?_
  refine ev_s (fun Q k => rn_goto (tgt := 5) dX6_jobOf_50 (by decide) k) ?_
  refine ev_s (fun Q k => rn_sub (ls' := [(0, .inr (.inr 378)), (1, .inl x1), (2, .inl s0), (3, .inl (v3 + (1 : Int32)))]) [2, 3, 1, 0] rfl k) ?_
  exact hk5 s0 (v3 + (1 : Int32)) D

set_option maxRecDepth 20000 in
theorem e_X6_jobOf_45 (l : Launch) (E : eE) (d : Nat) (x1 : Int32) (k5 : Int32 → Int32 → dT → Option (Int32 × dT)) (hk5 : ∀ (v2 : Int32) (v3 : Int32) (D : dT), ev l E (d + 1) yX6_jobOf cX6_jobOf 4 (some .int) 5 [(0, .inr (.inr 378)), (1, .inl x1), (2, .inl v2), (3, .inl v3)] [] D eI (k5 v2 v3 D)) (v2 : Int32) (v3 : Int32) (D : dT) : ev l E (d + 1) yX6_jobOf cX6_jobOf 4 (some .int) 45 [(0, .inr (.inr 378)), (1, .inl x1), (2, .inl v2), (3, .inl v3)] [] D eI (F_X6_jobOf_45 x1 k5 v2 v3 D) := by
  unfold F_X6_jobOf_45
  refine ev_s (fun Q k => rn_iload_n (j := 2) 2 rfl rfl dX6_jobOf_45 k) ?_
  refine ev_s (fun Q k => rn_sub (ls' := [(0, .inr (.inr 378)), (1, .inl x1), (3, .inl v3)]) [0, 1, 3] rfl k) ?_
  exact e_X6_jobOf_46 l E d x1 k5 hk5  v3 v2 D

set_option maxRecDepth 20000 in
theorem e_X6_jobOf_5 (l : Launch) (E : eE) (d : Nat) (x1 : Int32)  (fuel : Nat) : ∀ (v2 : Int32) (v3 : Int32) (D : dT), ev l E (d + 1) yX6_jobOf cX6_jobOf 4 (some .int) 5 [(0, .inr (.inr 378)), (1, .inl x1), (2, .inl v2), (3, .inl v3)] [] D eI (F_X6_jobOf_5 fuel x1 v2 v3 D) := by
  induction fuel with
  | zero =>
    intro v2 v3 D
    exact ev_none
  | succ fu ih =>
    intro v2 v3 D
    rw [F_X6_jobOf_5]
    refine ev_s (fun Q k => rn_iload_n (j := 3) 3 rfl rfl dX6_jobOf_5 k) ?_
    refine ev_s (fun Q k => rn_aload_n (j := 0) 0 rfl rfl (okO_0 ok_378) dX6_jobOf_6 k) ?_
    refine ev_s (fun Q k => rn_getr (q := 379) f_X6_7 ok_378.1 ok_378.2.1 (okO_1 ok_378) rfl rfl dX6_jobOf_7 k) ?_
    refine ev_s (fun Q k => rn_bipush (v := 6) (by decide) dX6_jobOf_10 k) ?_
    refine ev_gd (fun g1 => ?_)
    refine ev_s (fun Q k => rn_iald ok_379.1 ok_379.2.1 ok_379.2.2 (inR_vp g1) dX6_jobOf_12 k) ?_
    refine ev_if (fun Q => rn_icmp_ge (tgt := 53) dX6_jobOf_13 (by decide)) (fun c10 => ?_) (fun c11 => ?_)
    · refine ev_s (fun Q k => rn_iload_n (j := 2) 2 rfl rfl dX6_jobOf_53 k) ?_
      exact ev_ret (fun Q q => rn_ret q .int rfl rfl dX6_jobOf_54)
    · refine ev_s (fun Q k => rn_aload_n (j := 0) 0 rfl rfl (okO_0 ok_378) dX6_jobOf_16 k) ?_
      refine ev_s (fun Q k => rn_iload_n (j := 3) 3 rfl rfl dX6_jobOf_17 k) ?_
      refine ev_s (fun Q k => rn_iconst (v := 5) (by decide) dX6_jobOf_18 k) ?_
      refine ev_bindI (as := [.inr (.inr 378), .inl v3, .inl (5 : Int32)]) (fun Q Q1 => rn_callV (as := [.inl v3, .inl (5 : Int32)]) (rest := []) (o := 378) m_X6_43 dX6_jobOf_19 (rcv_own ok_378.1 ok_378.2.1 (by decide) (okO_1 ok_378)) rfl rfl (Nat.le_of_ble_eq_true rfl)) pl_X6_ofJobs (Nat.le_of_ble_eq_true rfl) rfl (e_X6_ofJobs l E d v3 (5 : Int32) D) (fun r2 D3 => ?_)
      refine ev_s (fun Q k => rn_iconst (v := 1) (by decide) dX6_jobOf_22 k) ?_
      refine ev_if (fun Q => rn_icmp_ne (tgt := 45) dX6_jobOf_23 (by decide)) (fun c8 => ?_) (fun c9 => ?_)
      · refine ev_s (fun Q k => rn_aload_n (j := 0) 0 rfl rfl (okO_0 ok_378) dX6_jobOf_26 k) ?_
        refine ev_s (fun Q k => rn_iload_n (j := 3) 3 rfl rfl dX6_jobOf_27 k) ?_
        refine ev_s (fun Q k => rn_bipush (v := 7) (by decide) dX6_jobOf_28 k) ?_
        refine ev_bindI (as := [.inr (.inr 378), .inl v3, .inl (7 : Int32)]) (fun Q Q1 => rn_callV (as := [.inl v3, .inl (7 : Int32)]) (rest := []) (o := 378) m_X6_43 dX6_jobOf_30 (rcv_own ok_378.1 ok_378.2.1 (by decide) (okO_1 ok_378)) rfl rfl (Nat.le_of_ble_eq_true rfl)) pl_X6_ofJobs (Nat.le_of_ble_eq_true rfl) rfl (e_X6_ofJobs l E d v3 (7 : Int32) D3) (fun r4 D5 => ?_)
        refine ev_s (fun Q k => rn_iload_n (j := 1) 1 rfl rfl dX6_jobOf_33 k) ?_
        refine ev_s (fun Q k => rn_ishr dX6_jobOf_34 k) ?_
        refine ev_s (fun Q k => rn_iconst (v := 1) (by decide) dX6_jobOf_35 k) ?_
        refine ev_s (fun Q k => rn_iand dX6_jobOf_36 k) ?_
        refine ev_s (fun Q k => rn_iconst (v := 1) (by decide) dX6_jobOf_37 k) ?_
        refine ev_if (fun Q => rn_icmp_ne (tgt := 45) dX6_jobOf_38 (by decide)) (fun c6 => ?_) (fun c7 => ?_)
        · refine ev_s (fun Q k => rn_iload_n (j := 3) 3 rfl rfl dX6_jobOf_41 k) ?_
          refine ev_s (fun Q k => rn_goto (tgt := 46) dX6_jobOf_42 (by decide) k) ?_
          refine ev_s (fun Q k => rn_sub (ls' := [(0, .inr (.inr 378)), (1, .inl x1), (3, .inl v3)]) [0, 1, 3] rfl k) ?_
          exact e_X6_jobOf_46 l E d x1 (fun (v2_ : Int32) (v3_ : Int32) (D_ : dT) => F_X6_jobOf_5 fu x1 v2_ v3_ D_) (fun v2_ v3_ D_ => ih v2_ v3_ D_)  v3 v3 D5
        · exact e_X6_jobOf_45 l E d x1 (fun (v2_ : Int32) (v3_ : Int32) (D_ : dT) => F_X6_jobOf_5 fu x1 v2_ v3_ D_) (fun v2_ v3_ D_ => ih v2_ v3_ D_)  v2 v3 D5
      · exact e_X6_jobOf_45 l E d x1 (fun (v2_ : Int32) (v3_ : Int32) (D_ : dT) => F_X6_jobOf_5 fu x1 v2_ v3_ D_) (fun v2_ v3_ D_ => ih v2_ v3_ D_)  v2 v3 D3

set_option maxRecDepth 20000 in
theorem e_X6_jobOf (l : Launch) (E : eE) (d : Nat) (x1 : Int32) (D : dT) : ev l E (d + 1) yX6_jobOf cX6_jobOf 4 (some .int) 0 [(0, .inr (.inr 378)), (1, .inl x1)] [] D eI (F_X6_jobOf x1 D) := by
  unfold F_X6_jobOf
  refine ev_s (fun Q k => rn_bipush (v := -6) (by decide) dX6_jobOf_0 k) ?_
  refine ev_s (fun Q k => rn_istore_n (j := 2) (ls' := [(2, .inl (-6 : Int32)), (0, .inr (.inr 378)), (1, .inl x1)]) rfl (by decide) rfl dX6_jobOf_2 k) ?_
  refine ev_s (fun Q k => rn_iconst (v := 0) (by decide) dX6_jobOf_3 k) ?_
  refine ev_s (fun Q k => rn_istore_n (j := 3) (ls' := [(3, .inl (0 : Int32)), (2, .inl (-6 : Int32)), (0, .inr (.inr 378)), (1, .inl x1)]) rfl (by decide) rfl dX6_jobOf_4 k) ?_
  refine ev_s (fun Q k => rn_sub (ls' := [(0, .inr (.inr 378)), (1, .inl x1), (2, .inl (-6 : Int32)), (3, .inl (0 : Int32))]) [2, 3, 1, 0] rfl k) ?_
  exact e_X6_jobOf_5 l E d x1  lim (-6 : Int32) (0 : Int32) D

def F_X6_of (x1 : Int32) (x2 : Int32) (D : dT) : Option (Int32 × dT) := if inR (5 : Int32) 244 then bd (F_X6_in x1 (0 : Int32) (((up2 D 378 0 (0 : Int32)) 379 (5 : Int32).toNatClampNeg) - (1 : Int32)) (up2 D 378 0 (0 : Int32))) (fun (r2 : Int32) (D3 : dT) => if r2 = 0 then some ((-1 : Int32), D3) else if x2 = (0 : Int32) then bd (F_X6_ofPerson x1 x2 D3) (fun (r4 : Int32) (D5 : dT) => some (r4, D5)) else if x2 = (1 : Int32) then bd (F_X6_ofPerson x1 x2 D3) (fun (r8 : Int32) (D9 : dT) => some (r8, D9)) else if x2 = (2 : Int32) then bd (F_X6_jobOf x1 D3) (fun (r12 : Int32) (D13 : dT) => some (r12, D13)) else if x2 = (3 : Int32) then bd (F_X6_ofPerson x1 (x2 - (1 : Int32)) D3) (fun (r16 : Int32) (D17 : dT) => some (r16, D17)) else if x2 = (4 : Int32) then bd (F_X6_ofPerson x1 (x2 - (1 : Int32)) D3) (fun (r20 : Int32) (D21 : dT) => some (r20, D21)) else if x2 = (5 : Int32) then bd (F_X6_ofPerson x1 (0 : Int32) D3) (fun (r24 : Int32) (D25 : dT) => bd (F_X6_ofPerson x1 (1 : Int32) D25) (fun (r26 : Int32) (D27 : dT) => if inR (1 : Int32) 244 then if inR (1 : Int32) 244 then if ¬ (D27 379 (1 : Int32).toNatClampNeg) = 0 then some (((((r24 - r26) + (D27 379 (1 : Int32).toNatClampNeg)) - (1 : Int32)) / (D27 379 (1 : Int32).toNatClampNeg)), D27) else none else none else none)) else some ((-2 : Int32), D3)) else none
set_option maxRecDepth 20000 in
theorem e_X6_of (l : Launch) (E : eE) (d : Nat) (x1 : Int32) (x2 : Int32) (D : dT) : ev l E (d + 2) yX6_of cX6_of 3 (some .int) 0 [(0, .inr (.inr 378)), (1, .inl x1), (2, .inl x2)] [] D eI (F_X6_of x1 x2 D) := by
  unfold F_X6_of
  refine ev_s (fun Q k => rn_aload_n (j := 0) 0 rfl rfl (okO_0 ok_378) dX6_of_0 k) ?_
  refine ev_s (fun Q k => rn_iconst (v := 0) (by decide) dX6_of_1 k) ?_
  refine ev_s (fun Q k => rn_puti f_X6_32 ok_378.1 ok_378.2.1 (okO_1 ok_378) rfl rfl rfl rfl dX6_of_2 k) ?_
  refine ev_s (fun Q k => rn_iload_n (j := 1) 1 rfl rfl dX6_of_5 k) ?_
  refine ev_s (fun Q k => rn_iconst (v := 0) (by decide) dX6_of_6 k) ?_
  refine ev_s (fun Q k => rn_aload_n (j := 0) 0 rfl rfl (okO_0 ok_378) dX6_of_7 k) ?_
  refine ev_s (fun Q k => rn_getr (q := 379) f_X6_7 ok_378.1 ok_378.2.1 (okO_1 ok_378) rfl rfl dX6_of_8 k) ?_
  refine ev_s (fun Q k => rn_iconst (v := 5) (by decide) dX6_of_11 k) ?_
  refine ev_gd (fun g1 => ?_)
  refine ev_s (fun Q k => rn_iald ok_379.1 ok_379.2.1 ok_379.2.2 (inR_vp g1) dX6_of_12 k) ?_
  refine ev_s (fun Q k => rn_iconst (v := 1) (by decide) dX6_of_13 k) ?_
  refine ev_s (fun Q k => rn_isub dX6_of_14 k) ?_
  refine ev_bindI (as := [.inl x1, .inl (0 : Int32), .inl (((up2 D 378 0 (0 : Int32)) 379 (5 : Int32).toNatClampNeg) - (1 : Int32))]) (fun Q Q1 => rn_callS (as := [.inl x1, .inl (0 : Int32), .inl (((up2 D 378 0 (0 : Int32)) 379 (5 : Int32).toNatClampNeg) - (1 : Int32))]) (rest := []) m_X6_36 dX6_of_15 rfl rfl (Nat.le_of_ble_eq_true rfl)) pl_X6_in (Nat.le_of_ble_eq_true rfl) rfl (e_X6_in l E (d + 1) x1 (0 : Int32) (((up2 D 378 0 (0 : Int32)) 379 (5 : Int32).toNatClampNeg) - (1 : Int32)) (up2 D 378 0 (0 : Int32))) (fun r2 D3 => ?_)
  refine ev_if (fun Q => rn_if_ne (tgt := 23) dX6_of_18 (by decide)) (fun c33 => ?_) (fun c34 => ?_)
  · refine ev_s (fun Q k => rn_iconst (v := -1) (by decide) dX6_of_21 k) ?_
    exact ev_ret (fun Q q => rn_ret q .int rfl rfl dX6_of_22)
  · refine ev_s (fun Q k => rn_iload_n (j := 2) 2 rfl rfl dX6_of_23 k) ?_
    refine ev_ite (fun c6 => ?_) (fun c7 => ?_)
    · refine ev_s (fun Q k => rn_tswI (off := 40) (tgt := 64) dX6_of_24 (by rw [c6]; decide) (by rw [c6]; decide) (by rw [c6]; rfl) (by decide) k) ?_
      refine ev_s (fun Q k => rn_aload_n (j := 0) 0 rfl rfl (okO_0 ok_378) dX6_of_64 k) ?_
      refine ev_s (fun Q k => rn_iload_n (j := 1) 1 rfl rfl dX6_of_65 k) ?_
      refine ev_s (fun Q k => rn_iload_n (j := 2) 2 rfl rfl dX6_of_66 k) ?_
      refine ev_bindI (as := [.inr (.inr 378), .inl x1, .inl x2]) (fun Q Q1 => rn_callV (as := [.inl x1, .inl x2]) (rest := []) (o := 378) m_X6_47 dX6_of_67 (rcv_own ok_378.1 ok_378.2.1 (by decide) (okO_1 ok_378)) rfl rfl (Nat.le_of_ble_eq_true rfl)) pl_X6_ofPerson (Nat.le_of_ble_eq_true rfl) rfl (e_X6_ofPerson l E (d + 1) x1 x2 D3) (fun r4 D5 => ?_)
      exact ev_ret (fun Q q => rn_ret q .int rfl rfl dX6_of_70)
    · refine ev_ite (fun c10 => ?_) (fun c11 => ?_)
      · refine ev_s (fun Q k => rn_tswI (off := 40) (tgt := 64) dX6_of_24 (by rw [c10]; decide) (by rw [c10]; decide) (by rw [c10]; rfl) (by decide) k) ?_
        refine ev_s (fun Q k => rn_aload_n (j := 0) 0 rfl rfl (okO_0 ok_378) dX6_of_64 k) ?_
        refine ev_s (fun Q k => rn_iload_n (j := 1) 1 rfl rfl dX6_of_65 k) ?_
        refine ev_s (fun Q k => rn_iload_n (j := 2) 2 rfl rfl dX6_of_66 k) ?_
        refine ev_bindI (as := [.inr (.inr 378), .inl x1, .inl x2]) (fun Q Q1 => rn_callV (as := [.inl x1, .inl x2]) (rest := []) (o := 378) m_X6_47 dX6_of_67 (rcv_own ok_378.1 ok_378.2.1 (by decide) (okO_1 ok_378)) rfl rfl (Nat.le_of_ble_eq_true rfl)) pl_X6_ofPerson (Nat.le_of_ble_eq_true rfl) rfl (e_X6_ofPerson l E (d + 1) x1 x2 D3) (fun r8 D9 => ?_)
        exact ev_ret (fun Q q => rn_ret q .int rfl rfl dX6_of_70)
      · refine ev_ite (fun c14 => ?_) (fun c15 => ?_)
        · refine ev_s (fun Q k => rn_tswI (off := 47) (tgt := 71) dX6_of_24 (by rw [c14]; decide) (by rw [c14]; decide) (by rw [c14]; rfl) (by decide) k) ?_
          refine ev_s (fun Q k => rn_aload_n (j := 0) 0 rfl rfl (okO_0 ok_378) dX6_of_71 k) ?_
          refine ev_s (fun Q k => rn_iload_n (j := 1) 1 rfl rfl dX6_of_72 k) ?_
          refine ev_bindI (as := [.inr (.inr 378), .inl x1]) (fun Q Q1 => rn_callV (as := [.inl x1]) (rest := []) (o := 378) m_X6_169 dX6_of_73 (rcv_own ok_378.1 ok_378.2.1 (by decide) (okO_1 ok_378)) rfl rfl (Nat.le_of_ble_eq_true rfl)) pl_X6_jobOf (Nat.le_of_ble_eq_true rfl) rfl (e_X6_jobOf l E d x1 D3) (fun r12 D13 => ?_)
          exact ev_ret (fun Q q => rn_ret q .int rfl rfl dX6_of_76)
        · refine ev_ite (fun c18 => ?_) (fun c19 => ?_)
          · refine ev_s (fun Q k => rn_tswI (off := 53) (tgt := 77) dX6_of_24 (by rw [c18]; decide) (by rw [c18]; decide) (by rw [c18]; rfl) (by decide) k) ?_
            refine ev_s (fun Q k => rn_aload_n (j := 0) 0 rfl rfl (okO_0 ok_378) dX6_of_77 k) ?_
            refine ev_s (fun Q k => rn_iload_n (j := 1) 1 rfl rfl dX6_of_78 k) ?_
            refine ev_s (fun Q k => rn_iload_n (j := 2) 2 rfl rfl dX6_of_79 k) ?_
            refine ev_s (fun Q k => rn_iconst (v := 1) (by decide) dX6_of_80 k) ?_
            refine ev_s (fun Q k => rn_isub dX6_of_81 k) ?_
            refine ev_bindI (as := [.inr (.inr 378), .inl x1, .inl (x2 - (1 : Int32))]) (fun Q Q1 => rn_callV (as := [.inl x1, .inl (x2 - (1 : Int32))]) (rest := []) (o := 378) m_X6_47 dX6_of_82 (rcv_own ok_378.1 ok_378.2.1 (by decide) (okO_1 ok_378)) rfl rfl (Nat.le_of_ble_eq_true rfl)) pl_X6_ofPerson (Nat.le_of_ble_eq_true rfl) rfl (e_X6_ofPerson l E (d + 1) x1 (x2 - (1 : Int32)) D3) (fun r16 D17 => ?_)
            exact ev_ret (fun Q q => rn_ret q .int rfl rfl dX6_of_85)
          · refine ev_ite (fun c22 => ?_) (fun c23 => ?_)
            · refine ev_s (fun Q k => rn_tswI (off := 53) (tgt := 77) dX6_of_24 (by rw [c22]; decide) (by rw [c22]; decide) (by rw [c22]; rfl) (by decide) k) ?_
              refine ev_s (fun Q k => rn_aload_n (j := 0) 0 rfl rfl (okO_0 ok_378) dX6_of_77 k) ?_
              refine ev_s (fun Q k => rn_iload_n (j := 1) 1 rfl rfl dX6_of_78 k) ?_
              refine ev_s (fun Q k => rn_iload_n (j := 2) 2 rfl rfl dX6_of_79 k) ?_
              refine ev_s (fun Q k => rn_iconst (v := 1) (by decide) dX6_of_80 k) ?_
              refine ev_s (fun Q k => rn_isub dX6_of_81 k) ?_
              refine ev_bindI (as := [.inr (.inr 378), .inl x1, .inl (x2 - (1 : Int32))]) (fun Q Q1 => rn_callV (as := [.inl x1, .inl (x2 - (1 : Int32))]) (rest := []) (o := 378) m_X6_47 dX6_of_82 (rcv_own ok_378.1 ok_378.2.1 (by decide) (okO_1 ok_378)) rfl rfl (Nat.le_of_ble_eq_true rfl)) pl_X6_ofPerson (Nat.le_of_ble_eq_true rfl) rfl (e_X6_ofPerson l E (d + 1) x1 (x2 - (1 : Int32)) D3) (fun r20 D21 => ?_)
              exact ev_ret (fun Q q => rn_ret q .int rfl rfl dX6_of_85)
            · refine ev_ite (fun c31 => ?_) (fun c32 => ?_)
              · refine ev_s (fun Q k => rn_tswI (off := 62) (tgt := 86) dX6_of_24 (by rw [c31]; decide) (by rw [c31]; decide) (by rw [c31]; rfl) (by decide) k) ?_
                refine ev_s (fun Q k => rn_aload_n (j := 0) 0 rfl rfl (okO_0 ok_378) dX6_of_86 k) ?_
                refine ev_s (fun Q k => rn_iload_n (j := 1) 1 rfl rfl dX6_of_87 k) ?_
                refine ev_s (fun Q k => rn_iconst (v := 0) (by decide) dX6_of_88 k) ?_
                refine ev_bindI (as := [.inr (.inr 378), .inl x1, .inl (0 : Int32)]) (fun Q Q1 => rn_callV (as := [.inl x1, .inl (0 : Int32)]) (rest := []) (o := 378) m_X6_47 dX6_of_89 (rcv_own ok_378.1 ok_378.2.1 (by decide) (okO_1 ok_378)) rfl rfl (Nat.le_of_ble_eq_true rfl)) pl_X6_ofPerson (Nat.le_of_ble_eq_true rfl) rfl (e_X6_ofPerson l E (d + 1) x1 (0 : Int32) D3) (fun r24 D25 => ?_)
                refine ev_s (fun Q k => rn_aload_n (j := 0) 0 rfl rfl (okO_0 ok_378) dX6_of_92 k) ?_
                refine ev_s (fun Q k => rn_iload_n (j := 1) 1 rfl rfl dX6_of_93 k) ?_
                refine ev_s (fun Q k => rn_iconst (v := 1) (by decide) dX6_of_94 k) ?_
                refine ev_bindI (as := [.inr (.inr 378), .inl x1, .inl (1 : Int32)]) (fun Q Q1 => rn_callV (as := [.inl x1, .inl (1 : Int32)]) (rest := [.inl r24]) (o := 378) m_X6_47 dX6_of_95 (rcv_own ok_378.1 ok_378.2.1 (by decide) (okO_1 ok_378)) rfl rfl (Nat.le_of_ble_eq_true rfl)) pl_X6_ofPerson (Nat.le_of_ble_eq_true rfl) rfl (e_X6_ofPerson l E (d + 1) x1 (1 : Int32) D25) (fun r26 D27 => ?_)
                refine ev_s (fun Q k => rn_isub dX6_of_98 k) ?_
                refine ev_s (fun Q k => rn_aload_n (j := 0) 0 rfl rfl (okO_0 ok_378) dX6_of_99 k) ?_
                refine ev_s (fun Q k => rn_getr (q := 379) f_X6_7 ok_378.1 ok_378.2.1 (okO_1 ok_378) rfl rfl dX6_of_100 k) ?_
                refine ev_s (fun Q k => rn_iconst (v := 1) (by decide) dX6_of_103 k) ?_
                refine ev_gd (fun g28 => ?_)
                refine ev_s (fun Q k => rn_iald ok_379.1 ok_379.2.1 ok_379.2.2 (inR_vp g28) dX6_of_104 k) ?_
                refine ev_s (fun Q k => rn_iadd dX6_of_105 k) ?_
                refine ev_s (fun Q k => rn_iconst (v := 1) (by decide) dX6_of_106 k) ?_
                refine ev_s (fun Q k => rn_isub dX6_of_107 k) ?_
                refine ev_s (fun Q k => rn_aload_n (j := 0) 0 rfl rfl (okO_0 ok_378) dX6_of_108 k) ?_
                refine ev_s (fun Q k => rn_getr (q := 379) f_X6_7 ok_378.1 ok_378.2.1 (okO_1 ok_378) rfl rfl dX6_of_109 k) ?_
                refine ev_s (fun Q k => rn_iconst (v := 1) (by decide) dX6_of_112 k) ?_
                refine ev_gd (fun g29 => ?_)
                refine ev_s (fun Q k => rn_iald ok_379.1 ok_379.2.1 ok_379.2.2 (inR_vp g29) dX6_of_113 k) ?_
                refine ev_gd (fun g30 => ?_)
                refine ev_s (fun Q k => rn_idiv g30 dX6_of_114 k) ?_
                exact ev_ret (fun Q q => rn_ret q .int rfl rfl dX6_of_115)
              · have z0 := lv_neT (k := 0) (a := 0) c7 (by decide)
                have z1 := lv_neT (k := 1) (a := 1) c11 (by decide)
                have z2 := lv_neT (k := 2) (a := 2) c15 (by decide)
                have z3 := lv_neT (k := 3) (a := 3) c19 (by decide)
                have z4 := lv_neT (k := 4) (a := 4) c23 (by decide)
                have z5 := lv_neT (k := 5) (a := 5) c32 (by decide)
                refine ev_s (fun Q k => rn_tswO (tgt := 116) dX6_of_24 (by omega) (by decide) k) ?_
                refine ev_s (fun Q k => rn_bipush (v := -2) (by decide) dX6_of_116 k) ?_
                exact ev_ret (fun Q q => rn_ret q .int rfl rfl dX6_of_118)

def F_X6_isLate (x1 : Int32) (D : dT) : Option (Int32 × dT) := bd (F_X6_ofJobs x1 (5 : Int32) D) (fun (r1 : Int32) (D2 : dT) => if r1 = (2 : Int32) then bd (F_X6_ofJobs x1 (11 : Int32) D2) (fun (r3 : Int32) (D4 : dT) => bd (F_X6_ofJobs x1 (4 : Int32) D4) (fun (r5 : Int32) (D6 : dT) => if r3 ≤ r5 then some ((0 : Int32), D6) else some ((1 : Int32), D6))) else if (2 : Int32) ≤ r1 then some ((0 : Int32), D2) else if inR (4 : Int32) 244 then bd (F_X6_ofJobs x1 (4 : Int32) D2) (fun (r10 : Int32) (D11 : dT) => if (D2 379 (4 : Int32).toNatClampNeg) ≤ r10 then some ((0 : Int32), D11) else some ((1 : Int32), D11)) else none)
set_option maxRecDepth 20000 in
theorem e_X6_isLate (l : Launch) (E : eE) (d : Nat) (x1 : Int32) (D : dT) : ev l E (d + 1) yX6_isLate cX6_isLate 3 (some .boolean) 0 [(0, .inr (.inr 378)), (1, .inl x1)] [] D eI (F_X6_isLate x1 D) := by
  unfold F_X6_isLate
  refine ev_s (fun Q k => rn_aload_n (j := 0) 0 rfl rfl (okO_0 ok_378) dX6_isLate_0 k) ?_
  refine ev_s (fun Q k => rn_iload_n (j := 1) 1 rfl rfl dX6_isLate_1 k) ?_
  refine ev_s (fun Q k => rn_iconst (v := 5) (by decide) dX6_isLate_2 k) ?_
  refine ev_bindI (as := [.inr (.inr 378), .inl x1, .inl (5 : Int32)]) (fun Q Q1 => rn_callV (as := [.inl x1, .inl (5 : Int32)]) (rest := []) (o := 378) m_X6_43 dX6_isLate_3 (rcv_own ok_378.1 ok_378.2.1 (by decide) (okO_1 ok_378)) rfl rfl (Nat.le_of_ble_eq_true rfl)) pl_X6_ofJobs (Nat.le_of_ble_eq_true rfl) rfl (e_X6_ofJobs l E d x1 (5 : Int32) D) (fun r1 D2 => ?_)
  refine ev_s (fun Q k => rn_istore_n (j := 2) (ls' := [(2, .inl r1), (0, .inr (.inr 378)), (1, .inl x1)]) rfl (by decide) rfl dX6_isLate_6 k) ?_
  refine ev_s (fun Q k => rn_iload_n (j := 2) 0 rfl rfl dX6_isLate_7 k) ?_
  refine ev_s (fun Q k => rn_iconst (v := 2) (by decide) dX6_isLate_8 k) ?_
  refine ev_if (fun Q => rn_icmp_ne (tgt := 36) dX6_isLate_9 (by decide)) (fun c16 => ?_) (fun c17 => ?_)
  · refine ev_s (fun Q k => rn_aload_n (j := 0) 1 rfl rfl (okO_0 ok_378) dX6_isLate_12 k) ?_
    refine ev_s (fun Q k => rn_iload_n (j := 1) 2 rfl rfl dX6_isLate_13 k) ?_
    refine ev_s (fun Q k => rn_bipush (v := 11) (by decide) dX6_isLate_14 k) ?_
    refine ev_bindI (as := [.inr (.inr 378), .inl x1, .inl (11 : Int32)]) (fun Q Q1 => rn_callV (as := [.inl x1, .inl (11 : Int32)]) (rest := []) (o := 378) m_X6_43 dX6_isLate_16 (rcv_own ok_378.1 ok_378.2.1 (by decide) (okO_1 ok_378)) rfl rfl (Nat.le_of_ble_eq_true rfl)) pl_X6_ofJobs (Nat.le_of_ble_eq_true rfl) rfl (e_X6_ofJobs l E d x1 (11 : Int32) D2) (fun r3 D4 => ?_)
    refine ev_s (fun Q k => rn_aload_n (j := 0) 1 rfl rfl (okO_0 ok_378) dX6_isLate_19 k) ?_
    refine ev_s (fun Q k => rn_iload_n (j := 1) 2 rfl rfl dX6_isLate_20 k) ?_
    refine ev_s (fun Q k => rn_iconst (v := 4) (by decide) dX6_isLate_21 k) ?_
    refine ev_bindI (as := [.inr (.inr 378), .inl x1, .inl (4 : Int32)]) (fun Q Q1 => rn_callV (as := [.inl x1, .inl (4 : Int32)]) (rest := [.inl r3]) (o := 378) m_X6_43 dX6_isLate_22 (rcv_own ok_378.1 ok_378.2.1 (by decide) (okO_1 ok_378)) rfl rfl (Nat.le_of_ble_eq_true rfl)) pl_X6_ofJobs (Nat.le_of_ble_eq_true rfl) rfl (e_X6_ofJobs l E d x1 (4 : Int32) D4) (fun r5 D6 => ?_)
    refine ev_if (fun Q => rn_icmp_le (tgt := 32) dX6_isLate_25 (by decide)) (fun c7 => ?_) (fun c8 => ?_)
    · refine ev_s (fun Q k => rn_iconst (v := 0) (by decide) dX6_isLate_32 k) ?_
      refine ev_s (fun Q k => rn_goto (tgt := 61) dX6_isLate_33 (by decide) k) ?_
      exact ev_ret (fun Q q => rn_ret q .boolean rfl rfl dX6_isLate_61)
    · refine ev_s (fun Q k => rn_iconst (v := 1) (by decide) dX6_isLate_28 k) ?_
      refine ev_s (fun Q k => rn_goto (tgt := 61) dX6_isLate_29 (by decide) k) ?_
      exact ev_ret (fun Q q => rn_ret q .boolean rfl rfl dX6_isLate_61)
  · refine ev_s (fun Q k => rn_iload_n (j := 2) 0 rfl rfl dX6_isLate_36 k) ?_
    refine ev_s (fun Q k => rn_iconst (v := 2) (by decide) dX6_isLate_37 k) ?_
    refine ev_if (fun Q => rn_icmp_ge (tgt := 60) dX6_isLate_38 (by decide)) (fun c14 => ?_) (fun c15 => ?_)
    · refine ev_s (fun Q k => rn_iconst (v := 0) (by decide) dX6_isLate_60 k) ?_
      exact ev_ret (fun Q q => rn_ret q .boolean rfl rfl dX6_isLate_61)
    · refine ev_s (fun Q k => rn_aload_n (j := 0) 1 rfl rfl (okO_0 ok_378) dX6_isLate_41 k) ?_
      refine ev_s (fun Q k => rn_getr (q := 379) f_X6_7 ok_378.1 ok_378.2.1 (okO_1 ok_378) rfl rfl dX6_isLate_42 k) ?_
      refine ev_s (fun Q k => rn_iconst (v := 4) (by decide) dX6_isLate_45 k) ?_
      refine ev_gd (fun g9 => ?_)
      refine ev_s (fun Q k => rn_iald ok_379.1 ok_379.2.1 ok_379.2.2 (inR_vp g9) dX6_isLate_46 k) ?_
      refine ev_s (fun Q k => rn_aload_n (j := 0) 1 rfl rfl (okO_0 ok_378) dX6_isLate_47 k) ?_
      refine ev_s (fun Q k => rn_iload_n (j := 1) 2 rfl rfl dX6_isLate_48 k) ?_
      refine ev_s (fun Q k => rn_iconst (v := 4) (by decide) dX6_isLate_49 k) ?_
      refine ev_bindI (as := [.inr (.inr 378), .inl x1, .inl (4 : Int32)]) (fun Q Q1 => rn_callV (as := [.inl x1, .inl (4 : Int32)]) (rest := [.inl (D2 379 (4 : Int32).toNatClampNeg)]) (o := 378) m_X6_43 dX6_isLate_50 (rcv_own ok_378.1 ok_378.2.1 (by decide) (okO_1 ok_378)) rfl rfl (Nat.le_of_ble_eq_true rfl)) pl_X6_ofJobs (Nat.le_of_ble_eq_true rfl) rfl (e_X6_ofJobs l E d x1 (4 : Int32) D2) (fun r10 D11 => ?_)
      refine ev_if (fun Q => rn_icmp_le (tgt := 60) dX6_isLate_53 (by decide)) (fun c12 => ?_) (fun c13 => ?_)
      · refine ev_s (fun Q k => rn_iconst (v := 0) (by decide) dX6_isLate_60 k) ?_
        exact ev_ret (fun Q q => rn_ret q .boolean rfl rfl dX6_isLate_61)
      · refine ev_s (fun Q k => rn_iconst (v := 1) (by decide) dX6_isLate_56 k) ?_
        refine ev_s (fun Q k => rn_goto (tgt := 61) dX6_isLate_57 (by decide) k) ?_
        exact ev_ret (fun Q q => rn_ret q .boolean rfl rfl dX6_isLate_61)

def F_X6_ofJob (x1 : Int32) (x2 : Int32) (D : dT) : Option (Int32 × dT) := bd (F_X6_isJob x1 (up2 D 378 0 (0 : Int32))) (fun (r1 : Int32) (D2 : dT) => if r1 = 0 then some ((-1 : Int32), D2) else bd (F_X6_in x2 (0 : Int32) (12 : Int32) D2) (fun (r3 : Int32) (D4 : dT) => if r3 = 0 then some ((-2 : Int32), D4) else if x2 = (6 : Int32) then bd (F_X6_ofJobs x1 (7 : Int32) D4) (fun (r5 : Int32) (D6 : dT) => if r5 = 0 then bd (F_X6_loadBy x1 (-6 : Int32) D6) (fun (r7 : Int32) (D8 : dT) => some (r7, D8)) else bd (F_X6_ofJobs x1 (6 : Int32) D6) (fun (r9 : Int32) (D10 : dT) => some (r9, D10))) else if x2 = (12 : Int32) then bd (F_X6_isLate x1 D4) (fun (r13 : Int32) (D14 : dT) => if r13 = 0 then some ((0 : Int32), D14) else some ((1 : Int32), D14)) else bd (F_X6_ofJobs x1 x2 D4) (fun (r17 : Int32) (D18 : dT) => some (r17, D18))))
set_option maxRecDepth 20000 in
theorem e_X6_ofJob (l : Launch) (E : eE) (d : Nat) (x1 : Int32) (x2 : Int32) (D : dT) : ev l E (d + 2) yX6_ofJob cX6_ofJob 3 (some .int) 0 [(0, .inr (.inr 378)), (1, .inl x1), (2, .inl x2)] [] D eI (F_X6_ofJob x1 x2 D) := by
  unfold F_X6_ofJob
  refine ev_s (fun Q k => rn_aload_n (j := 0) 0 rfl rfl (okO_0 ok_378) dX6_ofJob_0 k) ?_
  refine ev_s (fun Q k => rn_iconst (v := 0) (by decide) dX6_ofJob_1 k) ?_
  refine ev_s (fun Q k => rn_puti f_X6_32 ok_378.1 ok_378.2.1 (okO_1 ok_378) rfl rfl rfl rfl dX6_ofJob_2 k) ?_
  refine ev_s (fun Q k => rn_aload_n (j := 0) 0 rfl rfl (okO_0 ok_378) dX6_ofJob_5 k) ?_
  refine ev_s (fun Q k => rn_iload_n (j := 1) 1 rfl rfl dX6_ofJob_6 k) ?_
  refine ev_bindI (as := [.inr (.inr 378), .inl x1]) (fun Q Q1 => rn_callV (as := [.inl x1]) (rest := []) (o := 378) m_X6_133 dX6_ofJob_7 (rcv_own ok_378.1 ok_378.2.1 (by decide) (okO_1 ok_378)) rfl rfl (Nat.le_of_ble_eq_true rfl)) pl_X6_isJob (Nat.le_of_ble_eq_true rfl) rfl (e_X6_isJob l E d x1 (up2 D 378 0 (0 : Int32))) (fun r1 D2 => ?_)
  refine ev_if (fun Q => rn_if_ne (tgt := 15) dX6_ofJob_10 (by decide)) (fun c25 => ?_) (fun c26 => ?_)
  · refine ev_s (fun Q k => rn_iconst (v := -1) (by decide) dX6_ofJob_13 k) ?_
    exact ev_ret (fun Q q => rn_ret q .int rfl rfl dX6_ofJob_14)
  · refine ev_s (fun Q k => rn_iload_n (j := 2) 2 rfl rfl dX6_ofJob_15 k) ?_
    refine ev_s (fun Q k => rn_iconst (v := 0) (by decide) dX6_ofJob_16 k) ?_
    refine ev_s (fun Q k => rn_bipush (v := 12) (by decide) dX6_ofJob_17 k) ?_
    refine ev_bindI (as := [.inl x2, .inl (0 : Int32), .inl (12 : Int32)]) (fun Q Q1 => rn_callS (as := [.inl x2, .inl (0 : Int32), .inl (12 : Int32)]) (rest := []) m_X6_36 dX6_ofJob_19 rfl rfl (Nat.le_of_ble_eq_true rfl)) pl_X6_in (Nat.le_of_ble_eq_true rfl) rfl (e_X6_in l E (d + 1) x2 (0 : Int32) (12 : Int32) D2) (fun r3 D4 => ?_)
    refine ev_if (fun Q => rn_if_ne (tgt := 28) dX6_ofJob_22 (by decide)) (fun c23 => ?_) (fun c24 => ?_)
    · refine ev_s (fun Q k => rn_bipush (v := -2) (by decide) dX6_ofJob_25 k) ?_
      exact ev_ret (fun Q q => rn_ret q .int rfl rfl dX6_ofJob_27)
    · refine ev_s (fun Q k => rn_iload_n (j := 2) 2 rfl rfl dX6_ofJob_28 k) ?_
      refine ev_s (fun Q k => rn_bipush (v := 6) (by decide) dX6_ofJob_29 k) ?_
      refine ev_if (fun Q => rn_icmp_ne (tgt := 62) dX6_ofJob_31 (by decide)) (fun c21 => ?_) (fun c22 => ?_)
      · refine ev_s (fun Q k => rn_aload_n (j := 0) 0 rfl rfl (okO_0 ok_378) dX6_ofJob_34 k) ?_
        refine ev_s (fun Q k => rn_iload_n (j := 1) 1 rfl rfl dX6_ofJob_35 k) ?_
        refine ev_s (fun Q k => rn_bipush (v := 7) (by decide) dX6_ofJob_36 k) ?_
        refine ev_bindI (as := [.inr (.inr 378), .inl x1, .inl (7 : Int32)]) (fun Q Q1 => rn_callV (as := [.inl x1, .inl (7 : Int32)]) (rest := []) (o := 378) m_X6_43 dX6_ofJob_38 (rcv_own ok_378.1 ok_378.2.1 (by decide) (okO_1 ok_378)) rfl rfl (Nat.le_of_ble_eq_true rfl)) pl_X6_ofJobs (Nat.le_of_ble_eq_true rfl) rfl (e_X6_ofJobs l E (d + 1) x1 (7 : Int32) D4) (fun r5 D6 => ?_)
        refine ev_if (fun Q => rn_if_ne (tgt := 54) dX6_ofJob_41 (by decide)) (fun c11 => ?_) (fun c12 => ?_)
        · refine ev_s (fun Q k => rn_aload_n (j := 0) 0 rfl rfl (okO_0 ok_378) dX6_ofJob_44 k) ?_
          refine ev_s (fun Q k => rn_iload_n (j := 1) 1 rfl rfl dX6_ofJob_45 k) ?_
          refine ev_s (fun Q k => rn_bipush (v := -6) (by decide) dX6_ofJob_46 k) ?_
          refine ev_bindI (as := [.inr (.inr 378), .inl x1, .inl (-6 : Int32)]) (fun Q Q1 => rn_callV (as := [.inl x1, .inl (-6 : Int32)]) (rest := []) (o := 378) m_X6_68 dX6_ofJob_48 (rcv_own ok_378.1 ok_378.2.1 (by decide) (okO_1 ok_378)) rfl rfl (Nat.le_of_ble_eq_true rfl)) pl_X6_loadBy (Nat.le_of_ble_eq_true rfl) rfl (e_X6_loadBy l E d x1 (-6 : Int32) D6) (fun r7 D8 => ?_)
          refine ev_s (fun Q k => rn_goto (tgt := 61) dX6_ofJob_51 (by decide) k) ?_
          exact ev_ret (fun Q q => rn_ret q .int rfl rfl dX6_ofJob_61)
        · refine ev_s (fun Q k => rn_aload_n (j := 0) 0 rfl rfl (okO_0 ok_378) dX6_ofJob_54 k) ?_
          refine ev_s (fun Q k => rn_iload_n (j := 1) 1 rfl rfl dX6_ofJob_55 k) ?_
          refine ev_s (fun Q k => rn_bipush (v := 6) (by decide) dX6_ofJob_56 k) ?_
          refine ev_bindI (as := [.inr (.inr 378), .inl x1, .inl (6 : Int32)]) (fun Q Q1 => rn_callV (as := [.inl x1, .inl (6 : Int32)]) (rest := []) (o := 378) m_X6_43 dX6_ofJob_58 (rcv_own ok_378.1 ok_378.2.1 (by decide) (okO_1 ok_378)) rfl rfl (Nat.le_of_ble_eq_true rfl)) pl_X6_ofJobs (Nat.le_of_ble_eq_true rfl) rfl (e_X6_ofJobs l E (d + 1) x1 (6 : Int32) D6) (fun r9 D10 => ?_)
          exact ev_ret (fun Q q => rn_ret q .int rfl rfl dX6_ofJob_61)
      · refine ev_s (fun Q k => rn_iload_n (j := 2) 2 rfl rfl dX6_ofJob_62 k) ?_
        refine ev_s (fun Q k => rn_bipush (v := 12) (by decide) dX6_ofJob_63 k) ?_
        refine ev_if (fun Q => rn_icmp_ne (tgt := 84) dX6_ofJob_65 (by decide)) (fun c19 => ?_) (fun c20 => ?_)
        · refine ev_s (fun Q k => rn_aload_n (j := 0) 0 rfl rfl (okO_0 ok_378) dX6_ofJob_68 k) ?_
          refine ev_s (fun Q k => rn_iload_n (j := 1) 1 rfl rfl dX6_ofJob_69 k) ?_
          refine ev_bindI (as := [.inr (.inr 378), .inl x1]) (fun Q Q1 => rn_callV (as := [.inl x1]) (rest := []) (o := 378) m_X6_172 dX6_ofJob_70 (rcv_own ok_378.1 ok_378.2.1 (by decide) (okO_1 ok_378)) rfl rfl (Nat.le_of_ble_eq_true rfl)) pl_X6_isLate (Nat.le_of_ble_eq_true rfl) rfl (e_X6_isLate l E d x1 D4) (fun r13 D14 => ?_)
          refine ev_if (fun Q => rn_if_eq (tgt := 80) dX6_ofJob_73 (by decide)) (fun c15 => ?_) (fun c16 => ?_)
          · refine ev_s (fun Q k => rn_iconst (v := 0) (by decide) dX6_ofJob_80 k) ?_
            refine ev_s (fun Q k => rn_goto (tgt := 90) dX6_ofJob_81 (by decide) k) ?_
            exact ev_ret (fun Q q => rn_ret q .int rfl rfl dX6_ofJob_90)
          · refine ev_s (fun Q k => rn_iconst (v := 1) (by decide) dX6_ofJob_76 k) ?_
            refine ev_s (fun Q k => rn_goto (tgt := 90) dX6_ofJob_77 (by decide) k) ?_
            exact ev_ret (fun Q q => rn_ret q .int rfl rfl dX6_ofJob_90)
        · refine ev_s (fun Q k => rn_aload_n (j := 0) 0 rfl rfl (okO_0 ok_378) dX6_ofJob_84 k) ?_
          refine ev_s (fun Q k => rn_iload_n (j := 1) 1 rfl rfl dX6_ofJob_85 k) ?_
          refine ev_s (fun Q k => rn_iload_n (j := 2) 2 rfl rfl dX6_ofJob_86 k) ?_
          refine ev_bindI (as := [.inr (.inr 378), .inl x1, .inl x2]) (fun Q Q1 => rn_callV (as := [.inl x1, .inl x2]) (rest := []) (o := 378) m_X6_43 dX6_ofJob_87 (rcv_own ok_378.1 ok_378.2.1 (by decide) (okO_1 ok_378)) rfl rfl (Nat.le_of_ble_eq_true rfl)) pl_X6_ofJobs (Nat.le_of_ble_eq_true rfl) rfl (e_X6_ofJobs l E (d + 1) x1 x2 D4) (fun r17 D18 => ?_)
          exact ev_ret (fun Q q => rn_ret q .int rfl rfl dX6_ofJob_90)

def F_X6_waiting_20 (x1 : Int32)  (s0 : Int32) (D : dT) : Option (Int32 × dT) := if s0 = (-6 : Int32) then some ((-1 : Int32), D) else some (s0, D)
def F_X6_waiting (x1 : Int32) (D : dT) : Option (Int32 × dT) := if 0 ≤ x1 then bd (F_X6_waitingAt x1 (0 : Int32) (up2 D 378 0 (0 : Int32))) (fun (r1 : Int32) (D2 : dT) => F_X6_waiting_20 x1 r1 D2) else F_X6_waiting_20 x1 (-6 : Int32) (up2 D 378 0 (0 : Int32))
set_option maxRecDepth 20000 in
theorem e_X6_waiting_20 (l : Launch) (E : eE) (d : Nat) (x1 : Int32)  (s0 : Int32) (D : dT) : ev l E (d + 3) yX6_waiting cX6_waiting 3 (some .int) 20 [] [.inl s0] D eI (F_X6_waiting_20 x1 s0 D) := by
  unfold F_X6_waiting_20
  refine ev_s (fun Q k => rn_istore_n (j := 2) (ls' := [(2, .inl s0)]) rfl (by decide) rfl dX6_waiting_20 k) ?_
  refine ev_s (fun Q k => rn_iload_n (j := 2) 0 rfl rfl dX6_waiting_21 k) ?_
  refine ev_s (fun Q k => rn_bipush (v := -6) (by decide) dX6_waiting_22 k) ?_
  refine ev_if (fun Q => rn_icmp_ne (tgt := 31) dX6_waiting_24 (by decide)) (fun c1 => ?_) (fun c2 => ?_)
  · refine ev_s (fun Q k => rn_iconst (v := -1) (by decide) dX6_waiting_27 k) ?_
    refine ev_s (fun Q k => rn_goto (tgt := 32) dX6_waiting_28 (by decide) k) ?_
    exact ev_ret (fun Q q => rn_ret q .int rfl rfl dX6_waiting_32)
  · refine ev_s (fun Q k => rn_iload_n (j := 2) 0 rfl rfl dX6_waiting_31 k) ?_
    exact ev_ret (fun Q q => rn_ret q .int rfl rfl dX6_waiting_32)

set_option maxRecDepth 20000 in
theorem e_X6_waiting (l : Launch) (E : eE) (d : Nat) (x1 : Int32) (D : dT) : ev l E (d + 3) yX6_waiting cX6_waiting 3 (some .int) 0 [(0, .inr (.inr 378)), (1, .inl x1)] [] D eI (F_X6_waiting x1 D) := by
  unfold F_X6_waiting
  refine ev_s (fun Q k => rn_aload_n (j := 0) 0 rfl rfl (okO_0 ok_378) dX6_waiting_0 k) ?_
  refine ev_s (fun Q k => rn_iconst (v := 0) (by decide) dX6_waiting_1 k) ?_
  refine ev_s (fun Q k => rn_puti f_X6_32 ok_378.1 ok_378.2.1 (okO_1 ok_378) rfl rfl rfl rfl dX6_waiting_2 k) ?_
  refine ev_s (fun Q k => rn_iload_n (j := 1) 1 rfl rfl dX6_waiting_5 k) ?_
  refine ev_if (fun Q => rn_if_ge (tgt := 14) dX6_waiting_6 (by decide)) (fun c3 => ?_) (fun c4 => ?_)
  · refine ev_s (fun Q k => rn_aload_n (j := 0) 0 rfl rfl (okO_0 ok_378) dX6_waiting_14 k) ?_
    refine ev_s (fun Q k => rn_iload_n (j := 1) 1 rfl rfl dX6_waiting_15 k) ?_
    refine ev_s (fun Q k => rn_iconst (v := 0) (by decide) dX6_waiting_16 k) ?_
    refine ev_bindI (as := [.inr (.inr 378), .inl x1, .inl (0 : Int32)]) (fun Q Q1 => rn_callV (as := [.inl x1, .inl (0 : Int32)]) (rest := []) (o := 378) m_X6_84 dX6_waiting_17 (rcv_own ok_378.1 ok_378.2.1 (by decide) (okO_1 ok_378)) rfl rfl (Nat.le_of_ble_eq_true rfl)) pl_X6_waitingAt (Nat.le_of_ble_eq_true rfl) rfl (e_X6_waitingAt l E d x1 (0 : Int32) (up2 D 378 0 (0 : Int32))) (fun r1 D2 => ?_)
    refine ev_s (fun Q k => rn_sub (ls' := []) [] rfl k) ?_
    exact e_X6_waiting_20 l E d x1   r1 D2
  · refine ev_s (fun Q k => rn_bipush (v := -6) (by decide) dX6_waiting_9 k) ?_
    refine ev_s (fun Q k => rn_goto (tgt := 20) dX6_waiting_11 (by decide) k) ?_
    refine ev_s (fun Q k => rn_sub (ls' := []) [] rfl k) ?_
    exact e_X6_waiting_20 l E d x1   (-6 : Int32) (up2 D 378 0 (0 : Int32))

def F_X6_straps (x1 : Int32) (x2 : Int32) (D : dT) : Option (Int32 × dT) := bd (F_X6_in x1 (0 : Int32) (2 : Int32) (up2 D 378 0 (0 : Int32))) (fun (r1 : Int32) (D2 : dT) => if r1 = 0 then some ((-1 : Int32), D2) else bd (F_X6_in x2 (0 : Int32) (1 : Int32) D2) (fun (r3 : Int32) (D4 : dT) => if r3 = 0 then some ((-2 : Int32), D4) else if x2 = 0 then if inR ((9 : Int32) + x1) 244 then some ((D4 379 ((9 : Int32) + x1).toNatClampNeg), D4) else none else bd (F_X6_freeStraps x1 D4) (fun (r6 : Int32) (D7 : dT) => some (r6, D7))))
set_option maxRecDepth 20000 in
theorem e_X6_straps (l : Launch) (E : eE) (d : Nat) (x1 : Int32) (x2 : Int32) (D : dT) : ev l E (d + 2) yX6_straps cX6_straps 3 (some .int) 0 [(0, .inr (.inr 378)), (1, .inl x1), (2, .inl x2)] [] D eI (F_X6_straps x1 x2 D) := by
  unfold F_X6_straps
  refine ev_s (fun Q k => rn_aload_n (j := 0) 0 rfl rfl (okO_0 ok_378) dX6_straps_0 k) ?_
  refine ev_s (fun Q k => rn_iconst (v := 0) (by decide) dX6_straps_1 k) ?_
  refine ev_s (fun Q k => rn_puti f_X6_32 ok_378.1 ok_378.2.1 (okO_1 ok_378) rfl rfl rfl rfl dX6_straps_2 k) ?_
  refine ev_s (fun Q k => rn_iload_n (j := 1) 1 rfl rfl dX6_straps_5 k) ?_
  refine ev_s (fun Q k => rn_iconst (v := 0) (by decide) dX6_straps_6 k) ?_
  refine ev_s (fun Q k => rn_iconst (v := 2) (by decide) dX6_straps_7 k) ?_
  refine ev_bindI (as := [.inl x1, .inl (0 : Int32), .inl (2 : Int32)]) (fun Q Q1 => rn_callS (as := [.inl x1, .inl (0 : Int32), .inl (2 : Int32)]) (rest := []) m_X6_36 dX6_straps_8 rfl rfl (Nat.le_of_ble_eq_true rfl)) pl_X6_in (Nat.le_of_ble_eq_true rfl) rfl (e_X6_in l E (d + 1) x1 (0 : Int32) (2 : Int32) (up2 D 378 0 (0 : Int32))) (fun r1 D2 => ?_)
  refine ev_if (fun Q => rn_if_ne (tgt := 16) dX6_straps_11 (by decide)) (fun c12 => ?_) (fun c13 => ?_)
  · refine ev_s (fun Q k => rn_iconst (v := -1) (by decide) dX6_straps_14 k) ?_
    exact ev_ret (fun Q q => rn_ret q .int rfl rfl dX6_straps_15)
  · refine ev_s (fun Q k => rn_iload_n (j := 2) 2 rfl rfl dX6_straps_16 k) ?_
    refine ev_s (fun Q k => rn_iconst (v := 0) (by decide) dX6_straps_17 k) ?_
    refine ev_s (fun Q k => rn_iconst (v := 1) (by decide) dX6_straps_18 k) ?_
    refine ev_bindI (as := [.inl x2, .inl (0 : Int32), .inl (1 : Int32)]) (fun Q Q1 => rn_callS (as := [.inl x2, .inl (0 : Int32), .inl (1 : Int32)]) (rest := []) m_X6_36 dX6_straps_19 rfl rfl (Nat.le_of_ble_eq_true rfl)) pl_X6_in (Nat.le_of_ble_eq_true rfl) rfl (e_X6_in l E (d + 1) x2 (0 : Int32) (1 : Int32) D2) (fun r3 D4 => ?_)
    refine ev_if (fun Q => rn_if_ne (tgt := 30) dX6_straps_22 (by decide)) (fun c10 => ?_) (fun c11 => ?_)
    · refine ev_s (fun Q k => rn_bipush (v := -2) (by decide) dX6_straps_25 k) ?_
      refine ev_s (fun Q k => rn_goto (tgt := 51) dX6_straps_27 (by decide) k) ?_
      exact ev_ret (fun Q q => rn_ret q .int rfl rfl dX6_straps_51)
    · refine ev_s (fun Q k => rn_iload_n (j := 2) 2 rfl rfl dX6_straps_30 k) ?_
      refine ev_if (fun Q => rn_if_ne (tgt := 46) dX6_straps_31 (by decide)) (fun c8 => ?_) (fun c9 => ?_)
      · refine ev_s (fun Q k => rn_aload_n (j := 0) 0 rfl rfl (okO_0 ok_378) dX6_straps_34 k) ?_
        refine ev_s (fun Q k => rn_getr (q := 379) f_X6_7 ok_378.1 ok_378.2.1 (okO_1 ok_378) rfl rfl dX6_straps_35 k) ?_
        refine ev_s (fun Q k => rn_bipush (v := 9) (by decide) dX6_straps_38 k) ?_
        refine ev_s (fun Q k => rn_iload_n (j := 1) 1 rfl rfl dX6_straps_40 k) ?_
        refine ev_s (fun Q k => rn_iadd dX6_straps_41 k) ?_
        refine ev_gd (fun g5 => ?_)
        refine ev_s (fun Q k => rn_iald ok_379.1 ok_379.2.1 ok_379.2.2 (inR_vp g5) dX6_straps_42 k) ?_
        refine ev_s (fun Q k => rn_goto (tgt := 51) dX6_straps_43 (by decide) k) ?_
        exact ev_ret (fun Q q => rn_ret q .int rfl rfl dX6_straps_51)
      · refine ev_s (fun Q k => rn_aload_n (j := 0) 0 rfl rfl (okO_0 ok_378) dX6_straps_46 k) ?_
        refine ev_s (fun Q k => rn_iload_n (j := 1) 1 rfl rfl dX6_straps_47 k) ?_
        refine ev_bindI (as := [.inr (.inr 378), .inl x1]) (fun Q Q1 => rn_callV (as := [.inl x1]) (rest := []) (o := 378) m_X6_50 dX6_straps_48 (rcv_own ok_378.1 ok_378.2.1 (by decide) (okO_1 ok_378)) rfl rfl (Nat.le_of_ble_eq_true rfl)) pl_X6_freeStraps (Nat.le_of_ble_eq_true rfl) rfl (e_X6_freeStraps l E d x1 D4) (fun r6 D7 => ?_)
        exact ev_ret (fun Q q => rn_ret q .int rfl rfl dX6_straps_51)

