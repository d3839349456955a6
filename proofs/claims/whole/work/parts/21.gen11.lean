def F_X6_jobsThat_58 (x1 : Int32) (k4 : Int32 → Int32 → dT → Option (Int32 × dT)) (v3 : Int32) (s0 : Int32) (s1 : Int32) (D : dT) : Option (Int32 × dT) := k4 (s1 ||| s0) (v3 + (1 : Int32)) D
def F_X6_jobsThat_43 (x1 : Int32) (k4 : Int32 → Int32 → dT → Option (Int32 × dT)) (v2 : Int32) (v3 : Int32) (s0 : Int32) (D : dT) : Option (Int32 × dT) := if s0 = 0 then F_X6_jobsThat_58 x1 k4 v3 (0 : Int32) v2 D else F_X6_jobsThat_58 x1 k4 v3 ((1 : Int32) <<< (v3 &&& 31)) v2 D
def F_X6_jobsThat_4 (fuel : Nat) (x1 : Int32)  (v2 : Int32) (v3 : Int32) (D : dT) : Option (Int32 × dT) := match fuel with
  | 0 => none
  | fu + 1 => if inR (6 : Int32) 244 then if (D 379 (6 : Int32).toNatClampNeg) ≤ v3 then some (v2, D) else if x1 = (3 : Int32) then bd (F_X6_isLate v3 D) (fun (r2 : Int32) (D3 : dT) => F_X6_jobsThat_43 x1 (fun (v2_ : Int32) (v3_ : Int32) (D_ : dT) => F_X6_jobsThat_4 fu x1 v2_ v3_ D_) v2 v3 r2 D3) else bd (F_X6_ofJobs v3 (5 : Int32) D) (fun (r4 : Int32) (D5 : dT) => if r4 = x1 then F_X6_jobsThat_43 x1 (fun (v2_ : Int32) (v3_ : Int32) (D_ : dT) => F_X6_jobsThat_4 fu x1 v2_ v3_ D_) v2 v3 (1 : Int32) D5 else F_X6_jobsThat_43 x1 (fun (v2_ : Int32) (v3_ : Int32) (D_ : dT) => F_X6_jobsThat_4 fu x1 v2_ v3_ D_) v2 v3 (0 : Int32) D5) else none
def F_X6_jobsThat (x1 : Int32) (D : dT) : Option (Int32 × dT) := F_X6_jobsThat_4 lim x1 (0 : Int32) (0 : Int32) D
set_option maxRecDepth 20000 in
theorem e_X6_jobsThat_58 (l : Launch) (E : eE) (d : Nat) (x1 : Int32) (k4 : Int32 → Int32 → dT → Option (Int32 × dT)) (hk4 : ∀ (v2 : Int32) (v3 : Int32) (D : dT), ev l E (d + 2) yX6_jobsThat cX6_jobsThat 5 (some .int) 4 [(0, .inr (.inr 378)), (1, .inl x1), (2, .inl v2), (3, .inl v3)] [] D eI (k4 v2 v3 D)) (v3 : Int32) (s0 : Int32) (s1 : Int32) (D : dT) : ev l E (d + 2) yX6_jobsThat cX6_jobsThat 5 (some .int) 58 [(0, .inr (.inr 378)), (1, .inl x1), (3, .inl v3)] [.inl s0, .inl s1] D eI (F_X6_jobsThat_58 x1 k4 v3 s0 s1 D) := by
  unfold F_X6_jobsThat_58
  refine ev_s (fun Q k => rn_ior dX6_jobsThat_58 k) ?_
  refine ev_s (fun Q k => rn_istore_n (j := 2) (ls' := [(2, .inl (s1 ||| s0)), (0, .inr (.inr 378)), (1, .inl x1), (3, .inl v3)]) rfl (by decide) rfl dX6_jobsThat_59 k) ?_
  refine ev_s (fun Q k => rn_iinc (v := (v3 + (1 : Int32))) (ls' := [(3, .inl (v3 + (1 : Int32))), (2, .inl (s1 ||| s0)), (0, .inr (.inr 378)), (1, .inl x1)]) 3 rfl rfl (by decide) rfl dX6_jobsThat_60 k) ?_
  refine ev_s (fun Q k => rn_goto (tgt := 4) dX6_jobsThat_63 (by decide) k) ?_
  refine ev_s (fun Q k => rn_sub (ls' := [(0, .inr (.inr 378)), (1, .inl x1), (2, .inl (s1 ||| s0)), (3, .inl (v3 + (1 : Int32)))]) [2, 3, 1, 0] rfl k) ?_
  exact hk4 (s1 ||| s0) (v3 + (1 : Int32)) D

set_option maxRecDepth 20000 in
theorem e_X6_jobsThat_43 (l : Launch) (E : eE) (d : Nat) (x1 : Int32) (k4 : Int32 → Int32 → dT → Option (Int32 × dT)) (hk4 : ∀ (v2 : Int32) (v3 : Int32) (D : dT), ev l E (d + 2) yX6_jobsThat cX6_jobsThat 5 (some .int) 4 [(0, .inr (.inr 378)), (1, .inl x1), (2, .inl v2), (3, .inl v3)] [] D eI (k4 v2 v3 D)) (v2 : Int32) (v3 : Int32) (s0 : Int32) (D : dT) : ev l E (d + 2) yX6_jobsThat cX6_jobsThat 5 (some .int) 43 [(0, .inr (.inr 378)), (1, .inl x1), (2, .inl v2), (3, .inl v3)] [.inl s0] D eI (F_X6_jobsThat_43 x1 k4 v2 v3 s0 D) := by
  unfold F_X6_jobsThat_43
  refine ev_s (fun Q k => rn_istore (j := 4) (ls' := [(4, .inl s0), (0, .inr (.inr 378)), (1, .inl x1), (2, .inl v2), (3, .inl v3)]) (by decide) rfl dX6_jobsThat_43 k) ?_
  refine ev_s (fun Q k => rn_iload_n (j := 2) 3 rfl rfl dX6_jobsThat_45 k) ?_
  refine ev_s (fun Q k => rn_iload (j := 4) 0 rfl dX6_jobsThat_46 k) ?_
  refine ev_if (fun Q => rn_if_eq (tgt := 57) dX6_jobsThat_48 (by decide)) (fun c1 => ?_) (fun c2 => ?_)
  · refine ev_s (fun Q k => rn_iconst (v := 0) (by decide) dX6_jobsThat_57 k) ?_
    refine ev_s (fun Q k => rn_sub (ls' := [(0, .inr (.inr 378)), (1, .inl x1), (3, .inl v3)]) [1, 2, 4] rfl k) ?_
    exact e_X6_jobsThat_58 l E d x1 k4 hk4  v3 (0 : Int32) v2 D
  · refine ev_s (fun Q k => rn_iconst (v := 1) (by decide) dX6_jobsThat_51 k) ?_
    refine ev_s (fun Q k => rn_iload_n (j := 3) 4 rfl rfl dX6_jobsThat_52 k) ?_
    refine ev_s (fun Q k => rn_ishl dX6_jobsThat_53 k) ?_
    refine ev_s (fun Q k => rn_goto (tgt := 58) dX6_jobsThat_54 (by decide) k) ?_
    refine ev_s (fun Q k => rn_sub (ls' := [(0, .inr (.inr 378)), (1, .inl x1), (3, .inl v3)]) [1, 2, 4] rfl k) ?_
    exact e_X6_jobsThat_58 l E d x1 k4 hk4  v3 ((1 : Int32) <<< (v3 &&& 31)) v2 D

set_option maxRecDepth 20000 in
theorem e_X6_jobsThat_4 (l : Launch) (E : eE) (d : Nat) (x1 : Int32)  (fuel : Nat) : ∀ (v2 : Int32) (v3 : Int32) (D : dT), ev l E (d + 2) yX6_jobsThat cX6_jobsThat 5 (some .int) 4 [(0, .inr (.inr 378)), (1, .inl x1), (2, .inl v2), (3, .inl v3)] [] D eI (F_X6_jobsThat_4 fuel x1 v2 v3 D) := by
  induction fuel with
  | zero =>
    intro v2 v3 D
    exact ev_none
  | succ fu ih =>
    intro v2 v3 D
    rw [F_X6_jobsThat_4]
    refine ev_s (fun Q k => rn_iload_n (j := 3) 3 rfl rfl dX6_jobsThat_4 k) ?_
    refine ev_s (fun Q k => rn_aload_n (j := 0) 0 rfl rfl (okO_0 ok_378) dX6_jobsThat_5 k) ?_
    refine ev_s (fun Q k => rn_getr (q := 379) f_X6_7 ok_378.1 ok_378.2.1 (okO_1 ok_378) rfl rfl dX6_jobsThat_6 k) ?_
    refine ev_s (fun Q k => rn_bipush (v := 6) (by decide) dX6_jobsThat_9 k) ?_
    refine ev_gd (fun g1 => ?_)
    refine ev_s (fun Q k => rn_iald ok_379.1 ok_379.2.1 ok_379.2.2 (inR_vp g1) dX6_jobsThat_11 k) ?_
    refine ev_if (fun Q => rn_icmp_ge (tgt := 66) dX6_jobsThat_12 (by decide)) (fun c10 => ?_) (fun c11 => ?_)
    · refine ev_s (fun Q k => rn_iload_n (j := 2) 2 rfl rfl dX6_jobsThat_66 k) ?_
      exact ev_ret (fun Q q => rn_ret q .int rfl rfl dX6_jobsThat_67)
    · refine ev_s (fun Q k => rn_iload_n (j := 1) 1 rfl rfl dX6_jobsThat_15 k) ?_
      refine ev_s (fun Q k => rn_iconst (v := 3) (by decide) dX6_jobsThat_16 k) ?_
      refine ev_if (fun Q => rn_icmp_ne (tgt := 28) dX6_jobsThat_17 (by decide)) (fun c8 => ?_) (fun c9 => ?_)
      · refine ev_s (fun Q k => rn_aload_n (j := 0) 0 rfl rfl (okO_0 ok_378) dX6_jobsThat_20 k) ?_
        refine ev_s (fun Q k => rn_iload_n (j := 3) 3 rfl rfl dX6_jobsThat_21 k) ?_
        refine ev_bindI (as := [.inr (.inr 378), .inl v3]) (fun Q Q1 => rn_callV (as := [.inl v3]) (rest := []) (o := 378) m_X6_172 dX6_jobsThat_22 (rcv_own ok_378.1 ok_378.2.1 (by decide) (okO_1 ok_378)) rfl rfl (Nat.le_of_ble_eq_true rfl)) pl_X6_isLate (Nat.le_of_ble_eq_true rfl) rfl (e_X6_isLate l E d v3 D) (fun r2 D3 => ?_)
        refine ev_s (fun Q k => rn_goto (tgt := 43) dX6_jobsThat_25 (by decide) k) ?_
        exact e_X6_jobsThat_43 l E d x1 (fun (v2_ : Int32) (v3_ : Int32) (D_ : dT) => F_X6_jobsThat_4 fu x1 v2_ v3_ D_) (fun v2_ v3_ D_ => ih v2_ v3_ D_)  v2 v3 r2 D3
      · refine ev_s (fun Q k => rn_aload_n (j := 0) 0 rfl rfl (okO_0 ok_378) dX6_jobsThat_28 k) ?_
        refine ev_s (fun Q k => rn_iload_n (j := 3) 3 rfl rfl dX6_jobsThat_29 k) ?_
        refine ev_s (fun Q k => rn_iconst (v := 5) (by decide) dX6_jobsThat_30 k) ?_
        refine ev_bindI (as := [.inr (.inr 378), .inl v3, .inl (5 : Int32)]) (fun Q Q1 => rn_callV (as := [.inl v3, .inl (5 : Int32)]) (rest := []) (o := 378) m_X6_43 dX6_jobsThat_31 (rcv_own ok_378.1 ok_378.2.1 (by decide) (okO_1 ok_378)) rfl rfl (Nat.le_of_ble_eq_true rfl)) pl_X6_ofJobs (Nat.le_of_ble_eq_true rfl) rfl (e_X6_ofJobs l E (d + 1) v3 (5 : Int32) D) (fun r4 D5 => ?_)
        refine ev_s (fun Q k => rn_iload_n (j := 1) 1 rfl rfl dX6_jobsThat_34 k) ?_
        refine ev_if (fun Q => rn_icmp_ne (tgt := 42) dX6_jobsThat_35 (by decide)) (fun c6 => ?_) (fun c7 => ?_)
        · refine ev_s (fun Q k => rn_iconst (v := 1) (by decide) dX6_jobsThat_38 k) ?_
          refine ev_s (fun Q k => rn_goto (tgt := 43) dX6_jobsThat_39 (by decide) k) ?_
          exact e_X6_jobsThat_43 l E d x1 (fun (v2_ : Int32) (v3_ : Int32) (D_ : dT) => F_X6_jobsThat_4 fu x1 v2_ v3_ D_) (fun v2_ v3_ D_ => ih v2_ v3_ D_)  v2 v3 (1 : Int32) D5
        · refine ev_s (fun Q k => rn_iconst (v := 0) (by decide) dX6_jobsThat_42 k) ?_
          exact e_X6_jobsThat_43 l E d x1 (fun (v2_ : Int32) (v3_ : Int32) (D_ : dT) => F_X6_jobsThat_4 fu x1 v2_ v3_ D_) (fun v2_ v3_ D_ => ih v2_ v3_ D_)  v2 v3 (0 : Int32) D5

set_option maxRecDepth 20000 in
theorem e_X6_jobsThat (l : Launch) (E : eE) (d : Nat) (x1 : Int32) (D : dT) : ev l E (d + 2) yX6_jobsThat cX6_jobsThat 5 (some .int) 0 [(0, .inr (.inr 378)), (1, .inl x1)] [] D eI (F_X6_jobsThat x1 D) := by
  unfold F_X6_jobsThat
  refine ev_s (fun Q k => rn_iconst (v := 0) (by decide) dX6_jobsThat_0 k) ?_
  refine ev_s (fun Q k => rn_istore_n (j := 2) (ls' := [(2, .inl (0 : Int32)), (0, .inr (.inr 378)), (1, .inl x1)]) rfl (by decide) rfl dX6_jobsThat_1 k) ?_
  refine ev_s (fun Q k => rn_iconst (v := 0) (by decide) dX6_jobsThat_2 k) ?_
  refine ev_s (fun Q k => rn_istore_n (j := 3) (ls' := [(3, .inl (0 : Int32)), (2, .inl (0 : Int32)), (0, .inr (.inr 378)), (1, .inl x1)]) rfl (by decide) rfl dX6_jobsThat_3 k) ?_
  refine ev_s (fun Q k => rn_sub (ls' := [(0, .inr (.inr 378)), (1, .inl x1), (2, .inl (0 : Int32)), (3, .inl (0 : Int32))]) [2, 3, 1, 0] rfl k) ?_
  exact e_X6_jobsThat_4 l E d x1  lim (0 : Int32) (0 : Int32) D

def F_X6_count (x1 : Int32) (D : dT) : Option (Int32 × dT) := if x1 = (0 : Int32) then if inR ((4 : Int32) + x1) 244 then some (((up2 D 378 0 (0 : Int32)) 379 ((4 : Int32) + x1).toNatClampNeg), (up2 D 378 0 (0 : Int32))) else none else if x1 = (1 : Int32) then if inR ((4 : Int32) + x1) 244 then some (((up2 D 378 0 (0 : Int32)) 379 ((4 : Int32) + x1).toNatClampNeg), (up2 D 378 0 (0 : Int32))) else none else if x1 = (2 : Int32) then bd (F_X6_busy  (up2 D 378 0 (0 : Int32))) (fun (r7 : Int32) (D8 : dT) => some (r7, D8)) else if x1 = (3 : Int32) then if inR (6 : Int32) 244 then some (((up2 D 378 0 (0 : Int32)) 379 (6 : Int32).toNatClampNeg), (up2 D 378 0 (0 : Int32))) else none else if x1 = (4 : Int32) then bd (F_X6_jobsThat (x1 - (4 : Int32)) (up2 D 378 0 (0 : Int32))) (fun (r14 : Int32) (D15 : dT) => some (r14, D15)) else if x1 = (5 : Int32) then bd (F_X6_jobsThat (x1 - (4 : Int32)) (up2 D 378 0 (0 : Int32))) (fun (r18 : Int32) (D19 : dT) => some (r18, D19)) else if x1 = (6 : Int32) then bd (F_X6_jobsThat (x1 - (4 : Int32)) (up2 D 378 0 (0 : Int32))) (fun (r22 : Int32) (D23 : dT) => some (r22, D23)) else if x1 = (7 : Int32) then bd (F_X6_jobsThat (x1 - (4 : Int32)) (up2 D 378 0 (0 : Int32))) (fun (r26 : Int32) (D27 : dT) => some (r26, D27)) else if x1 = (8 : Int32) then if inR (((7 : Int32) + x1) - (8 : Int32)) 244 then some (((up2 D 378 0 (0 : Int32)) 379 (((7 : Int32) + x1) - (8 : Int32)).toNatClampNeg), (up2 D 378 0 (0 : Int32))) else none else if x1 = (9 : Int32) then if inR (((7 : Int32) + x1) - (8 : Int32)) 244 then some (((up2 D 378 0 (0 : Int32)) 379 (((7 : Int32) + x1) - (8 : Int32)).toNatClampNeg), (up2 D 378 0 (0 : Int32))) else none else if x1 = (10 : Int32) then if inR (x1 - (10 : Int32)) 244 then some (((up2 D 378 0 (0 : Int32)) 379 (x1 - (10 : Int32)).toNatClampNeg), (up2 D 378 0 (0 : Int32))) else none else if x1 = (11 : Int32) then if inR (x1 - (10 : Int32)) 244 then some (((up2 D 378 0 (0 : Int32)) 379 (x1 - (10 : Int32)).toNatClampNeg), (up2 D 378 0 (0 : Int32))) else none else if x1 = (12 : Int32) then if inR (x1 - (10 : Int32)) 244 then some (((up2 D 378 0 (0 : Int32)) 379 (x1 - (10 : Int32)).toNatClampNeg), (up2 D 378 0 (0 : Int32))) else none else if x1 = (13 : Int32) then if inR (x1 - (10 : Int32)) 244 then some (((up2 D 378 0 (0 : Int32)) 379 (x1 - (10 : Int32)).toNatClampNeg), (up2 D 378 0 (0 : Int32))) else none else if x1 = (14 : Int32) then some (((up2 D 378 0 (0 : Int32)) 378 8), (up2 D 378 0 (0 : Int32))) else if x1 = (15 : Int32) then some (((up2 D 378 0 (0 : Int32)) 378 4), (up2 D 378 0 (0 : Int32))) else some ((-2 : Int32), (up2 D 378 0 (0 : Int32)))
set_option maxRecDepth 20000 in
theorem e_X6_count (l : Launch) (E : eE) (d : Nat) (x1 : Int32) (D : dT) : ev l E (d + 3) yX6_count cX6_count 2 (some .int) 0 [(0, .inr (.inr 378)), (1, .inl x1)] [] D eI (F_X6_count x1 D) := by
  unfold F_X6_count
  refine ev_s (fun Q k => rn_aload_n (j := 0) 0 rfl rfl (okO_0 ok_378) dX6_count_0 k) ?_
  refine ev_s (fun Q k => rn_iconst (v := 0) (by decide) dX6_count_1 k) ?_
  refine ev_s (fun Q k => rn_puti f_X6_32 ok_378.1 ok_378.2.1 (okO_1 ok_378) rfl rfl rfl rfl dX6_count_2 k) ?_
  refine ev_s (fun Q k => rn_iload_n (j := 1) 1 rfl rfl dX6_count_5 k) ?_
  refine ev_ite (fun c2 => ?_) (fun c3 => ?_)
  · refine ev_s (fun Q k => rn_tswI (off := 78) (tgt := 84) dX6_count_6 (by rw [c2]; decide) (by rw [c2]; decide) (by rw [c2]; rfl) (by decide) k) ?_
    refine ev_s (fun Q k => rn_aload_n (j := 0) 0 rfl rfl (okO_0 ok_378) dX6_count_84 k) ?_
    refine ev_s (fun Q k => rn_getr (q := 379) f_X6_7 ok_378.1 ok_378.2.1 (okO_1 ok_378) rfl rfl dX6_count_85 k) ?_
    refine ev_s (fun Q k => rn_iconst (v := 4) (by decide) dX6_count_88 k) ?_
    refine ev_s (fun Q k => rn_iload_n (j := 1) 1 rfl rfl dX6_count_89 k) ?_
    refine ev_s (fun Q k => rn_iadd dX6_count_90 k) ?_
    refine ev_gd (fun g1 => ?_)
    refine ev_s (fun Q k => rn_iald ok_379.1 ok_379.2.1 ok_379.2.2 (inR_vp g1) dX6_count_91 k) ?_
    exact ev_ret (fun Q q => rn_ret q .int rfl rfl dX6_count_92)
  · refine ev_ite (fun c5 => ?_) (fun c6 => ?_)
    · refine ev_s (fun Q k => rn_tswI (off := 78) (tgt := 84) dX6_count_6 (by rw [c5]; decide) (by rw [c5]; decide) (by rw [c5]; rfl) (by decide) k) ?_
      refine ev_s (fun Q k => rn_aload_n (j := 0) 0 rfl rfl (okO_0 ok_378) dX6_count_84 k) ?_
      refine ev_s (fun Q k => rn_getr (q := 379) f_X6_7 ok_378.1 ok_378.2.1 (okO_1 ok_378) rfl rfl dX6_count_85 k) ?_
      refine ev_s (fun Q k => rn_iconst (v := 4) (by decide) dX6_count_88 k) ?_
      refine ev_s (fun Q k => rn_iload_n (j := 1) 1 rfl rfl dX6_count_89 k) ?_
      refine ev_s (fun Q k => rn_iadd dX6_count_90 k) ?_
      refine ev_gd (fun g4 => ?_)
      refine ev_s (fun Q k => rn_iald ok_379.1 ok_379.2.1 ok_379.2.2 (inR_vp g4) dX6_count_91 k) ?_
      exact ev_ret (fun Q q => rn_ret q .int rfl rfl dX6_count_92)
    · refine ev_ite (fun c9 => ?_) (fun c10 => ?_)
      · refine ev_s (fun Q k => rn_tswI (off := 87) (tgt := 93) dX6_count_6 (by rw [c9]; decide) (by rw [c9]; decide) (by rw [c9]; rfl) (by decide) k) ?_
        refine ev_s (fun Q k => rn_aload_n (j := 0) 0 rfl rfl (okO_0 ok_378) dX6_count_93 k) ?_
        refine ev_bindI (as := [.inr (.inr 378)]) (fun Q Q1 => rn_callV (as := []) (rest := []) (o := 378) m_X6_57 dX6_count_94 (rcv_own ok_378.1 ok_378.2.1 (by decide) (okO_1 ok_378)) rfl rfl (Nat.le_of_ble_eq_true rfl)) pl_X6_busy (Nat.le_of_ble_eq_true rfl) rfl (e_X6_busy l E (d + 1)  (up2 D 378 0 (0 : Int32))) (fun r7 D8 => ?_)
        exact ev_ret (fun Q q => rn_ret q .int rfl rfl dX6_count_97)
      · refine ev_ite (fun c12 => ?_) (fun c13 => ?_)
        · refine ev_s (fun Q k => rn_tswI (off := 92) (tgt := 98) dX6_count_6 (by rw [c12]; decide) (by rw [c12]; decide) (by rw [c12]; rfl) (by decide) k) ?_
          refine ev_s (fun Q k => rn_aload_n (j := 0) 0 rfl rfl (okO_0 ok_378) dX6_count_98 k) ?_
          refine ev_s (fun Q k => rn_getr (q := 379) f_X6_7 ok_378.1 ok_378.2.1 (okO_1 ok_378) rfl rfl dX6_count_99 k) ?_
          refine ev_s (fun Q k => rn_bipush (v := 6) (by decide) dX6_count_102 k) ?_
          refine ev_gd (fun g11 => ?_)
          refine ev_s (fun Q k => rn_iald ok_379.1 ok_379.2.1 ok_379.2.2 (inR_vp g11) dX6_count_104 k) ?_
          exact ev_ret (fun Q q => rn_ret q .int rfl rfl dX6_count_105)
        · refine ev_ite (fun c16 => ?_) (fun c17 => ?_)
          · refine ev_s (fun Q k => rn_tswI (off := 100) (tgt := 106) dX6_count_6 (by rw [c16]; decide) (by rw [c16]; decide) (by rw [c16]; rfl) (by decide) k) ?_
            refine ev_s (fun Q k => rn_aload_n (j := 0) 0 rfl rfl (okO_0 ok_378) dX6_count_106 k) ?_
            refine ev_s (fun Q k => rn_iload_n (j := 1) 1 rfl rfl dX6_count_107 k) ?_
            refine ev_s (fun Q k => rn_iconst (v := 4) (by decide) dX6_count_108 k) ?_
            refine ev_s (fun Q k => rn_isub dX6_count_109 k) ?_
            refine ev_bindI (as := [.inr (.inr 378), .inl (x1 - (4 : Int32))]) (fun Q Q1 => rn_callV (as := [.inl (x1 - (4 : Int32))]) (rest := []) (o := 378) m_X6_175 dX6_count_110 (rcv_own ok_378.1 ok_378.2.1 (by decide) (okO_1 ok_378)) rfl rfl (Nat.le_of_ble_eq_true rfl)) pl_X6_jobsThat (Nat.le_of_ble_eq_true rfl) rfl (e_X6_jobsThat l E d (x1 - (4 : Int32)) (up2 D 378 0 (0 : Int32))) (fun r14 D15 => ?_)
            exact ev_ret (fun Q q => rn_ret q .int rfl rfl dX6_count_113)
          · refine ev_ite (fun c20 => ?_) (fun c21 => ?_)
            · refine ev_s (fun Q k => rn_tswI (off := 100) (tgt := 106) dX6_count_6 (by rw [c20]; decide) (by rw [c20]; decide) (by rw [c20]; rfl) (by decide) k) ?_
              refine ev_s (fun Q k => rn_aload_n (j := 0) 0 rfl rfl (okO_0 ok_378) dX6_count_106 k) ?_
              refine ev_s (fun Q k => rn_iload_n (j := 1) 1 rfl rfl dX6_count_107 k) ?_
              refine ev_s (fun Q k => rn_iconst (v := 4) (by decide) dX6_count_108 k) ?_
              refine ev_s (fun Q k => rn_isub dX6_count_109 k) ?_
              refine ev_bindI (as := [.inr (.inr 378), .inl (x1 - (4 : Int32))]) (fun Q Q1 => rn_callV (as := [.inl (x1 - (4 : Int32))]) (rest := []) (o := 378) m_X6_175 dX6_count_110 (rcv_own ok_378.1 ok_378.2.1 (by decide) (okO_1 ok_378)) rfl rfl (Nat.le_of_ble_eq_true rfl)) pl_X6_jobsThat (Nat.le_of_ble_eq_true rfl) rfl (e_X6_jobsThat l E d (x1 - (4 : Int32)) (up2 D 378 0 (0 : Int32))) (fun r18 D19 => ?_)
              exact ev_ret (fun Q q => rn_ret q .int rfl rfl dX6_count_113)
            · refine ev_ite (fun c24 => ?_) (fun c25 => ?_)
              · refine ev_s (fun Q k => rn_tswI (off := 100) (tgt := 106) dX6_count_6 (by rw [c24]; decide) (by rw [c24]; decide) (by rw [c24]; rfl) (by decide) k) ?_
                refine ev_s (fun Q k => rn_aload_n (j := 0) 0 rfl rfl (okO_0 ok_378) dX6_count_106 k) ?_
                refine ev_s (fun Q k => rn_iload_n (j := 1) 1 rfl rfl dX6_count_107 k) ?_
                refine ev_s (fun Q k => rn_iconst (v := 4) (by decide) dX6_count_108 k) ?_
                refine ev_s (fun Q k => rn_isub dX6_count_109 k) ?_
                refine ev_bindI (as := [.inr (.inr 378), .inl (x1 - (4 : Int32))]) (fun Q Q1 => rn_callV (as := [.inl (x1 - (4 : Int32))]) (rest := []) (o := 378) m_X6_175 dX6_count_110 (rcv_own ok_378.1 ok_378.2.1 (by decide) (okO_1 ok_378)) rfl rfl (Nat.le_of_ble_eq_true rfl)) pl_X6_jobsThat (Nat.le_of_ble_eq_true rfl) rfl (e_X6_jobsThat l E d (x1 - (4 : Int32)) (up2 D 378 0 (0 : Int32))) (fun r22 D23 => ?_)
                exact ev_ret (fun Q q => rn_ret q .int rfl rfl dX6_count_113)
              · refine ev_ite (fun c28 => ?_) (fun c29 => ?_)
                · refine ev_s (fun Q k => rn_tswI (off := 100) (tgt := 106) dX6_count_6 (by rw [c28]; decide) (by rw [c28]; decide) (by rw [c28]; rfl) (by decide) k) ?_
                  refine ev_s (fun Q k => rn_aload_n (j := 0) 0 rfl rfl (okO_0 ok_378) dX6_count_106 k) ?_
                  refine ev_s (fun Q k => rn_iload_n (j := 1) 1 rfl rfl dX6_count_107 k) ?_
                  refine ev_s (fun Q k => rn_iconst (v := 4) (by decide) dX6_count_108 k) ?_
                  refine ev_s (fun Q k => rn_isub dX6_count_109 k) ?_
                  refine ev_bindI (as := [.inr (.inr 378), .inl (x1 - (4 : Int32))]) (fun Q Q1 => rn_callV (as := [.inl (x1 - (4 : Int32))]) (rest := []) (o := 378) m_X6_175 dX6_count_110 (rcv_own ok_378.1 ok_378.2.1 (by decide) (okO_1 ok_378)) rfl rfl (Nat.le_of_ble_eq_true rfl)) pl_X6_jobsThat (Nat.le_of_ble_eq_true rfl) rfl (e_X6_jobsThat l E d (x1 - (4 : Int32)) (up2 D 378 0 (0 : Int32))) (fun r26 D27 => ?_)
                  exact ev_ret (fun Q q => rn_ret q .int rfl rfl dX6_count_113)
                · refine ev_ite (fun c31 => ?_) (fun c32 => ?_)
                  · refine ev_s (fun Q k => rn_tswI (off := 108) (tgt := 114) dX6_count_6 (by rw [c31]; decide) (by rw [c31]; decide) (by rw [c31]; rfl) (by decide) k) ?_
                    refine ev_s (fun Q k => rn_aload_n (j := 0) 0 rfl rfl (okO_0 ok_378) dX6_count_114 k) ?_
                    refine ev_s (fun Q k => rn_getr (q := 379) f_X6_7 ok_378.1 ok_378.2.1 (okO_1 ok_378) rfl rfl dX6_count_115 k) ?_
                    refine ev_s (fun Q k => rn_bipush (v := 7) (by decide) dX6_count_118 k) ?_
                    refine ev_s (fun Q k => rn_iload_n (j := 1) 1 rfl rfl dX6_count_120 k) ?_
                    refine ev_s (fun Q k => rn_iadd dX6_count_121 k) ?_
                    refine ev_s (fun Q k => rn_bipush (v := 8) (by decide) dX6_count_122 k) ?_
                    refine ev_s (fun Q k => rn_isub dX6_count_124 k) ?_
                    refine ev_gd (fun g30 => ?_)
                    refine ev_s (fun Q k => rn_iald ok_379.1 ok_379.2.1 ok_379.2.2 (inR_vp g30) dX6_count_125 k) ?_
                    exact ev_ret (fun Q q => rn_ret q .int rfl rfl dX6_count_126)
                  · refine ev_ite (fun c34 => ?_) (fun c35 => ?_)
                    · refine ev_s (fun Q k => rn_tswI (off := 108) (tgt := 114) dX6_count_6 (by rw [c34]; decide) (by rw [c34]; decide) (by rw [c34]; rfl) (by decide) k) ?_
                      refine ev_s (fun Q k => rn_aload_n (j := 0) 0 rfl rfl (okO_0 ok_378) dX6_count_114 k) ?_
                      refine ev_s (fun Q k => rn_getr (q := 379) f_X6_7 ok_378.1 ok_378.2.1 (okO_1 ok_378) rfl rfl dX6_count_115 k) ?_
                      refine ev_s (fun Q k => rn_bipush (v := 7) (by decide) dX6_count_118 k) ?_
                      refine ev_s (fun Q k => rn_iload_n (j := 1) 1 rfl rfl dX6_count_120 k) ?_
                      refine ev_s (fun Q k => rn_iadd dX6_count_121 k) ?_
                      refine ev_s (fun Q k => rn_bipush (v := 8) (by decide) dX6_count_122 k) ?_
                      refine ev_s (fun Q k => rn_isub dX6_count_124 k) ?_
                      refine ev_gd (fun g33 => ?_)
                      refine ev_s (fun Q k => rn_iald ok_379.1 ok_379.2.1 ok_379.2.2 (inR_vp g33) dX6_count_125 k) ?_
                      exact ev_ret (fun Q q => rn_ret q .int rfl rfl dX6_count_126)
                    · refine ev_ite (fun c37 => ?_) (fun c38 => ?_)
                      · refine ev_s (fun Q k => rn_tswI (off := 121) (tgt := 127) dX6_count_6 (by rw [c37]; decide) (by rw [c37]; decide) (by rw [c37]; rfl) (by decide) k) ?_
                        refine ev_s (fun Q k => rn_aload_n (j := 0) 0 rfl rfl (okO_0 ok_378) dX6_count_127 k) ?_
                        refine ev_s (fun Q k => rn_getr (q := 379) f_X6_7 ok_378.1 ok_378.2.1 (okO_1 ok_378) rfl rfl dX6_count_128 k) ?_
                        refine ev_s (fun Q k => rn_iload_n (j := 1) 1 rfl rfl dX6_count_131 k) ?_
                        refine ev_s (fun Q k => rn_bipush (v := 10) (by decide) dX6_count_132 k) ?_
                        refine ev_s (fun Q k => rn_isub dX6_count_134 k) ?_
                        refine ev_gd (fun g36 => ?_)
                        refine ev_s (fun Q k => rn_iald ok_379.1 ok_379.2.1 ok_379.2.2 (inR_vp g36) dX6_count_135 k) ?_
                        exact ev_ret (fun Q q => rn_ret q .int rfl rfl dX6_count_136)
                      · refine ev_ite (fun c40 => ?_) (fun c41 => ?_)
                        · refine ev_s (fun Q k => rn_tswI (off := 121) (tgt := 127) dX6_count_6 (by rw [c40]; decide) (by rw [c40]; decide) (by rw [c40]; rfl) (by decide) k) ?_
                          refine ev_s (fun Q k => rn_aload_n (j := 0) 0 rfl rfl (okO_0 ok_378) dX6_count_127 k) ?_
                          refine ev_s (fun Q k => rn_getr (q := 379) f_X6_7 ok_378.1 ok_378.2.1 (okO_1 ok_378) rfl rfl dX6_count_128 k) ?_
                          refine ev_s (fun Q k => rn_iload_n (j := 1) 1 rfl rfl dX6_count_131 k) ?_
                          refine ev_s (fun Q k => rn_bipush (v := 10) (by decide) dX6_count_132 k) ?_
                          refine ev_s (fun Q k => rn_isub dX6_count_134 k) ?_
                          refine ev_gd (fun g39 => ?_)
                          refine ev_s (fun Q k => rn_iald ok_379.1 ok_379.2.1 ok_379.2.2 (inR_vp g39) dX6_count_135 k) ?_
                          exact ev_ret (fun Q q => rn_ret q .int rfl rfl dX6_count_136)
                        · refine ev_ite (fun c43 => ?_) (fun c44 => ?_)
                          · refine ev_s (fun Q k => rn_tswI (off := 121) (tgt := 127) dX6_count_6 (by rw [c43]; decide) (by rw [c43]; decide) (by rw [c43]; rfl) (by decide) k) ?_
                            refine ev_s (fun Q k => rn_aload_n (j := 0) 0 rfl rfl (okO_0 ok_378) dX6_count_127 k) ?_
                            refine ev_s (fun Q k => rn_getr (q := 379) f_X6_7 ok_378.1 ok_378.2.1 (okO_1 ok_378) rfl rfl dX6_count_128 k) ?_
                            refine ev_s (fun Q k => rn_iload_n (j := 1) 1 rfl rfl dX6_count_131 k) ?_
                            refine ev_s (fun Q k => rn_bipush (v := 10) (by decide) dX6_count_132 k) ?_
                            refine ev_s (fun Q k => rn_isub dX6_count_134 k) ?_
                            refine ev_gd (fun g42 => ?_)
                            refine ev_s (fun Q k => rn_iald ok_379.1 ok_379.2.1 ok_379.2.2 (inR_vp g42) dX6_count_135 k) ?_
                            exact ev_ret (fun Q q => rn_ret q .int rfl rfl dX6_count_136)
                          · refine ev_ite (fun c46 => ?_) (fun c47 => ?_)
                            · refine ev_s (fun Q k => rn_tswI (off := 121) (tgt := 127) dX6_count_6 (by rw [c46]; decide) (by rw [c46]; decide) (by rw [c46]; rfl) (by decide) k) ?_
                              refine ev_s (fun Q k => rn_aload_n (j := 0) 0 rfl rfl (okO_0 ok_378) dX6_count_127 k) ?_
                              refine ev_s (fun Q k => rn_getr (q := 379) f_X6_7 ok_378.1 ok_378.2.1 (okO_1 ok_378) rfl rfl dX6_count_128 k) ?_
                              refine ev_s (fun Q k => rn_iload_n (j := 1) 1 rfl rfl dX6_count_131 k) ?_
                              refine ev_s (fun Q k => rn_bipush (v := 10) (by decide) dX6_count_132 k) ?_
                              refine ev_s (fun Q k => rn_isub dX6_count_134 k) ?_
                              refine ev_gd (fun g45 => ?_)
                              refine ev_s (fun Q k => rn_iald ok_379.1 ok_379.2.1 ok_379.2.2 (inR_vp g45) dX6_count_135 k) ?_
                              exact ev_ret (fun Q q => rn_ret q .int rfl rfl dX6_count_136)
                            · refine ev_ite (fun c48 => ?_) (fun c49 => ?_)
                              · refine ev_s (fun Q k => rn_tswI (off := 131) (tgt := 137) dX6_count_6 (by rw [c48]; decide) (by rw [c48]; decide) (by rw [c48]; rfl) (by decide) k) ?_
                                refine ev_s (fun Q k => rn_aload_n (j := 0) 0 rfl rfl (okO_0 ok_378) dX6_count_137 k) ?_
                                refine ev_s (fun Q k => rn_geti f_X6_178 ok_378.1 ok_378.2.1 (okO_1 ok_378) rfl dX6_count_138 k) ?_
                                exact ev_ret (fun Q q => rn_ret q .int rfl rfl dX6_count_141)
                              · refine ev_ite (fun c50 => ?_) (fun c51 => ?_)
                                · refine ev_s (fun Q k => rn_tswI (off := 136) (tgt := 142) dX6_count_6 (by rw [c50]; decide) (by rw [c50]; decide) (by rw [c50]; rfl) (by decide) k) ?_
                                  refine ev_s (fun Q k => rn_aload_n (j := 0) 0 rfl rfl (okO_0 ok_378) dX6_count_142 k) ?_
                                  refine ev_s (fun Q k => rn_geti f_X6_40 ok_378.1 ok_378.2.1 (okO_1 ok_378) rfl dX6_count_143 k) ?_
                                  exact ev_ret (fun Q q => rn_ret q .int rfl rfl dX6_count_146)
                                · have z0 := lv_neT (k := 0) (a := 0) c3 (by decide)
                                  have z1 := lv_neT (k := 1) (a := 1) c6 (by decide)
                                  have z2 := lv_neT (k := 2) (a := 2) c10 (by decide)
                                  have z3 := lv_neT (k := 3) (a := 3) c13 (by decide)
                                  have z4 := lv_neT (k := 4) (a := 4) c17 (by decide)
                                  have z5 := lv_neT (k := 5) (a := 5) c21 (by decide)
                                  have z6 := lv_neT (k := 6) (a := 6) c25 (by decide)
                                  have z7 := lv_neT (k := 7) (a := 7) c29 (by decide)
                                  have z8 := lv_neT (k := 8) (a := 8) c32 (by decide)
                                  have z9 := lv_neT (k := 9) (a := 9) c35 (by decide)
                                  have z10 := lv_neT (k := 10) (a := 10) c38 (by decide)
                                  have z11 := lv_neT (k := 11) (a := 11) c41 (by decide)
                                  have z12 := lv_neT (k := 12) (a := 12) c44 (by decide)
                                  have z13 := lv_neT (k := 13) (a := 13) c47 (by decide)
                                  have z14 := lv_neT (k := 14) (a := 14) c49 (by decide)
                                  have z15 := lv_neT (k := 15) (a := 15) c51 (by decide)
                                  refine ev_s (fun Q k => rn_tswO (tgt := 147) dX6_count_6 (by omega) (by decide) k) ?_
                                  refine ev_s (fun Q k => rn_bipush (v := -2) (by decide) dX6_count_147 k) ?_
                                  exact ev_ret (fun Q q => rn_ret q .int rfl rfl dX6_count_149)

def F_X6_why (x1 : Int32) (x2 : Int32) (x3 : Int32) (D : dT) : Option (Int32 × dT) := bd (F_X6_isJob x1 (up2 D 378 0 (0 : Int32))) (fun (r1 : Int32) (D2 : dT) => if r1 = 0 then some ((-1 : Int32), D2) else bd (F_X6_isStraps x3 D2) (fun (r3 : Int32) (D4 : dT) => if r3 = 0 then some ((-2 : Int32), D4) else bd (F_X6_reason x1 x2 x3 D4) (fun (r5 : Int32) (D6 : dT) => some (r5, D6))))
set_option maxRecDepth 20000 in
theorem e_X6_why (l : Launch) (E : eE) (d : Nat) (x1 : Int32) (x2 : Int32) (x3 : Int32) (D : dT) : ev l E (d + 4) yX6_why cX6_why 4 (some .int) 0 [(0, .inr (.inr 378)), (1, .inl x1), (2, .inl x2), (3, .inl x3)] [] D eI (F_X6_why x1 x2 x3 D) := by
  unfold F_X6_why
  refine ev_s (fun Q k => rn_aload_n (j := 0) 0 rfl rfl (okO_0 ok_378) dX6_why_0 k) ?_
  refine ev_s (fun Q k => rn_iconst (v := 0) (by decide) dX6_why_1 k) ?_
  refine ev_s (fun Q k => rn_puti f_X6_32 ok_378.1 ok_378.2.1 (okO_1 ok_378) rfl rfl rfl rfl dX6_why_2 k) ?_
  refine ev_s (fun Q k => rn_aload_n (j := 0) 0 rfl rfl (okO_0 ok_378) dX6_why_5 k) ?_
  refine ev_s (fun Q k => rn_iload_n (j := 1) 1 rfl rfl dX6_why_6 k) ?_
  refine ev_bindI (as := [.inr (.inr 378), .inl x1]) (fun Q Q1 => rn_callV (as := [.inl x1]) (rest := []) (o := 378) m_X6_133 dX6_why_7 (rcv_own ok_378.1 ok_378.2.1 (by decide) (okO_1 ok_378)) rfl rfl (Nat.le_of_ble_eq_true rfl)) pl_X6_isJob (Nat.le_of_ble_eq_true rfl) rfl (e_X6_isJob l E (d + 2) x1 (up2 D 378 0 (0 : Int32))) (fun r1 D2 => ?_)
  refine ev_if (fun Q => rn_if_ne (tgt := 15) dX6_why_10 (by decide)) (fun c9 => ?_) (fun c10 => ?_)
  · refine ev_s (fun Q k => rn_iconst (v := -1) (by decide) dX6_why_13 k) ?_
    exact ev_ret (fun Q q => rn_ret q .int rfl rfl dX6_why_14)
  · refine ev_s (fun Q k => rn_iload_n (j := 3) 3 rfl rfl dX6_why_15 k) ?_
    refine ev_bindI (as := [.inl x3]) (fun Q Q1 => rn_callS (as := [.inl x3]) (rest := []) m_X6_136 dX6_why_16 rfl rfl (Nat.le_of_ble_eq_true rfl)) pl_X6_isStraps (Nat.le_of_ble_eq_true rfl) rfl (e_X6_isStraps l E (d + 2) x3 D2) (fun r3 D4 => ?_)
    refine ev_if (fun Q => rn_if_eq (tgt := 32) dX6_why_19 (by decide)) (fun c7 => ?_) (fun c8 => ?_)
    · refine ev_s (fun Q k => rn_bipush (v := -2) (by decide) dX6_why_32 k) ?_
      exact ev_ret (fun Q q => rn_ret q .int rfl rfl dX6_why_34)
    · refine ev_s (fun Q k => rn_aload_n (j := 0) 0 rfl rfl (okO_0 ok_378) dX6_why_22 k) ?_
      refine ev_s (fun Q k => rn_iload_n (j := 1) 1 rfl rfl dX6_why_23 k) ?_
      refine ev_s (fun Q k => rn_iload_n (j := 2) 2 rfl rfl dX6_why_24 k) ?_
      refine ev_s (fun Q k => rn_iload_n (j := 3) 3 rfl rfl dX6_why_25 k) ?_
      refine ev_bindI (as := [.inr (.inr 378), .inl x1, .inl x2, .inl x3]) (fun Q Q1 => rn_callV (as := [.inl x1, .inl x2, .inl x3]) (rest := []) (o := 378) m_X6_139 dX6_why_26 (rcv_own ok_378.1 ok_378.2.1 (by decide) (okO_1 ok_378)) rfl rfl (Nat.le_of_ble_eq_true rfl)) pl_X6_reason (Nat.le_of_ble_eq_true rfl) rfl (e_X6_reason l E d x1 x2 x3 D4) (fun r5 D6 => ?_)
      refine ev_s (fun Q k => rn_goto (tgt := 34) dX6_why_29 (by decide) k) ?_
      exact ev_ret (fun Q q => rn_ret q .int rfl rfl dX6_why_34)

def F_X6_crew (x1 : Int32) (x2 : Int32) (D : dT) : Option (Int32 × dT) := bd (F_X6_isJob x1 (up2 D 378 0 (0 : Int32))) (fun (r1 : Int32) (D2 : dT) => if r1 = 0 then some ((-1 : Int32), D2) else bd (F_X6_isStraps x2 D2) (fun (r3 : Int32) (D4 : dT) => if r3 = 0 then some ((-2 : Int32), D4) else bd (F_X6_ofJobs x1 (5 : Int32) D4) (fun (r5 : Int32) (D6 : dT) => if r5 = 0 then bd (F_X6_crewFor x1 x2 D6) (fun (r7 : Int32) (D8 : dT) => some (r7, D8)) else some ((-5 : Int32), D6))))
set_option maxRecDepth 20000 in
theorem e_X6_crew (l : Launch) (E : eE) (d : Nat) (x1 : Int32) (x2 : Int32) (D : dT) : ev l E (d + 4) yX6_crew cX6_crew 3 (some .int) 0 [(0, .inr (.inr 378)), (1, .inl x1), (2, .inl x2)] [] D eI (F_X6_crew x1 x2 D) := by
  unfold F_X6_crew
  refine ev_s (fun Q k => rn_aload_n (j := 0) 0 rfl rfl (okO_0 ok_378) dX6_crew_0 k) ?_
  refine ev_s (fun Q k => rn_iconst (v := 0) (by decide) dX6_crew_1 k) ?_
  refine ev_s (fun Q k => rn_puti f_X6_32 ok_378.1 ok_378.2.1 (okO_1 ok_378) rfl rfl rfl rfl dX6_crew_2 k) ?_
  refine ev_s (fun Q k => rn_aload_n (j := 0) 0 rfl rfl (okO_0 ok_378) dX6_crew_5 k) ?_
  refine ev_s (fun Q k => rn_iload_n (j := 1) 1 rfl rfl dX6_crew_6 k) ?_
  refine ev_bindI (as := [.inr (.inr 378), .inl x1]) (fun Q Q1 => rn_callV (as := [.inl x1]) (rest := []) (o := 378) m_X6_133 dX6_crew_7 (rcv_own ok_378.1 ok_378.2.1 (by decide) (okO_1 ok_378)) rfl rfl (Nat.le_of_ble_eq_true rfl)) pl_X6_isJob (Nat.le_of_ble_eq_true rfl) rfl (e_X6_isJob l E (d + 2) x1 (up2 D 378 0 (0 : Int32))) (fun r1 D2 => ?_)
  refine ev_if (fun Q => rn_if_ne (tgt := 15) dX6_crew_10 (by decide)) (fun c13 => ?_) (fun c14 => ?_)
  · refine ev_s (fun Q k => rn_iconst (v := -1) (by decide) dX6_crew_13 k) ?_
    exact ev_ret (fun Q q => rn_ret q .int rfl rfl dX6_crew_14)
  · refine ev_s (fun Q k => rn_iload_n (j := 2) 2 rfl rfl dX6_crew_15 k) ?_
    refine ev_bindI (as := [.inl x2]) (fun Q Q1 => rn_callS (as := [.inl x2]) (rest := []) m_X6_136 dX6_crew_16 rfl rfl (Nat.le_of_ble_eq_true rfl)) pl_X6_isStraps (Nat.le_of_ble_eq_true rfl) rfl (e_X6_isStraps l E (d + 2) x2 D2) (fun r3 D4 => ?_)
    refine ev_if (fun Q => rn_if_ne (tgt := 25) dX6_crew_19 (by decide)) (fun c11 => ?_) (fun c12 => ?_)
    · refine ev_s (fun Q k => rn_bipush (v := -2) (by decide) dX6_crew_22 k) ?_
      exact ev_ret (fun Q q => rn_ret q .int rfl rfl dX6_crew_24)
    · refine ev_s (fun Q k => rn_aload_n (j := 0) 0 rfl rfl (okO_0 ok_378) dX6_crew_25 k) ?_
      refine ev_s (fun Q k => rn_iload_n (j := 1) 1 rfl rfl dX6_crew_26 k) ?_
      refine ev_s (fun Q k => rn_iconst (v := 5) (by decide) dX6_crew_27 k) ?_
      refine ev_bindI (as := [.inr (.inr 378), .inl x1, .inl (5 : Int32)]) (fun Q Q1 => rn_callV (as := [.inl x1, .inl (5 : Int32)]) (rest := []) (o := 378) m_X6_43 dX6_crew_28 (rcv_own ok_378.1 ok_378.2.1 (by decide) (okO_1 ok_378)) rfl rfl (Nat.le_of_ble_eq_true rfl)) pl_X6_ofJobs (Nat.le_of_ble_eq_true rfl) rfl (e_X6_ofJobs l E (d + 3) x1 (5 : Int32) D4) (fun r5 D6 => ?_)
      refine ev_if (fun Q => rn_if_eq (tgt := 39) dX6_crew_31 (by decide)) (fun c9 => ?_) (fun c10 => ?_)
      · refine ev_s (fun Q k => rn_aload_n (j := 0) 0 rfl rfl (okO_0 ok_378) dX6_crew_39 k) ?_
        refine ev_s (fun Q k => rn_iload_n (j := 1) 1 rfl rfl dX6_crew_40 k) ?_
        refine ev_s (fun Q k => rn_iload_n (j := 2) 2 rfl rfl dX6_crew_41 k) ?_
        refine ev_bindI (as := [.inr (.inr 378), .inl x1, .inl x2]) (fun Q Q1 => rn_callV (as := [.inl x1, .inl x2]) (rest := []) (o := 378) m_X6_74 dX6_crew_42 (rcv_own ok_378.1 ok_378.2.1 (by decide) (okO_1 ok_378)) rfl rfl (Nat.le_of_ble_eq_true rfl)) pl_X6_crewFor (Nat.le_of_ble_eq_true rfl) rfl (e_X6_crewFor l E d x1 x2 D6) (fun r7 D8 => ?_)
        exact ev_ret (fun Q q => rn_ret q .int rfl rfl dX6_crew_45)
      · refine ev_s (fun Q k => rn_bipush (v := -5) (by decide) dX6_crew_34 k) ?_
        refine ev_s (fun Q k => rn_goto (tgt := 45) dX6_crew_36 (by decide) k) ?_
        exact ev_ret (fun Q q => rn_ret q .int rfl rfl dX6_crew_45)

def F_X6_bestStraps (x1 : Int32) (D : dT) : Option (Int32 × dT) := bd (F_X6_isJob x1 (up2 D 378 0 (0 : Int32))) (fun (r1 : Int32) (D2 : dT) => if r1 = 0 then some ((-1 : Int32), D2) else bd (F_X6_ofJobs x1 (5 : Int32) D2) (fun (r3 : Int32) (D4 : dT) => if r3 = 0 then bd (F_X6_strapsFor x1 D4) (fun (r5 : Int32) (D6 : dT) => some (r5, D6)) else some ((-5 : Int32), D4)))
set_option maxRecDepth 20000 in
theorem e_X6_bestStraps (l : Launch) (E : eE) (d : Nat) (x1 : Int32) (D : dT) : ev l E (d + 5) yX6_bestStraps cX6_bestStraps 2 (some .int) 0 [(0, .inr (.inr 378)), (1, .inl x1)] [] D eI (F_X6_bestStraps x1 D) := by
  unfold F_X6_bestStraps
  refine ev_s (fun Q k => rn_aload_n (j := 0) 0 rfl rfl (okO_0 ok_378) dX6_bestStraps_0 k) ?_
  refine ev_s (fun Q k => rn_iconst (v := 0) (by decide) dX6_bestStraps_1 k) ?_
  refine ev_s (fun Q k => rn_puti f_X6_32 ok_378.1 ok_378.2.1 (okO_1 ok_378) rfl rfl rfl rfl dX6_bestStraps_2 k) ?_
  refine ev_s (fun Q k => rn_aload_n (j := 0) 0 rfl rfl (okO_0 ok_378) dX6_bestStraps_5 k) ?_
  refine ev_s (fun Q k => rn_iload_n (j := 1) 1 rfl rfl dX6_bestStraps_6 k) ?_
  refine ev_bindI (as := [.inr (.inr 378), .inl x1]) (fun Q Q1 => rn_callV (as := [.inl x1]) (rest := []) (o := 378) m_X6_133 dX6_bestStraps_7 (rcv_own ok_378.1 ok_378.2.1 (by decide) (okO_1 ok_378)) rfl rfl (Nat.le_of_ble_eq_true rfl)) pl_X6_isJob (Nat.le_of_ble_eq_true rfl) rfl (e_X6_isJob l E (d + 3) x1 (up2 D 378 0 (0 : Int32))) (fun r1 D2 => ?_)
  refine ev_if (fun Q => rn_if_ne (tgt := 15) dX6_bestStraps_10 (by decide)) (fun c9 => ?_) (fun c10 => ?_)
  · refine ev_s (fun Q k => rn_iconst (v := -1) (by decide) dX6_bestStraps_13 k) ?_
    exact ev_ret (fun Q q => rn_ret q .int rfl rfl dX6_bestStraps_14)
  · refine ev_s (fun Q k => rn_aload_n (j := 0) 0 rfl rfl (okO_0 ok_378) dX6_bestStraps_15 k) ?_
    refine ev_s (fun Q k => rn_iload_n (j := 1) 1 rfl rfl dX6_bestStraps_16 k) ?_
    refine ev_s (fun Q k => rn_iconst (v := 5) (by decide) dX6_bestStraps_17 k) ?_
    refine ev_bindI (as := [.inr (.inr 378), .inl x1, .inl (5 : Int32)]) (fun Q Q1 => rn_callV (as := [.inl x1, .inl (5 : Int32)]) (rest := []) (o := 378) m_X6_43 dX6_bestStraps_18 (rcv_own ok_378.1 ok_378.2.1 (by decide) (okO_1 ok_378)) rfl rfl (Nat.le_of_ble_eq_true rfl)) pl_X6_ofJobs (Nat.le_of_ble_eq_true rfl) rfl (e_X6_ofJobs l E (d + 4) x1 (5 : Int32) D2) (fun r3 D4 => ?_)
    refine ev_if (fun Q => rn_if_eq (tgt := 29) dX6_bestStraps_21 (by decide)) (fun c7 => ?_) (fun c8 => ?_)
    · refine ev_s (fun Q k => rn_aload_n (j := 0) 0 rfl rfl (okO_0 ok_378) dX6_bestStraps_29 k) ?_
      refine ev_s (fun Q k => rn_iload_n (j := 1) 1 rfl rfl dX6_bestStraps_30 k) ?_
      refine ev_bindI (as := [.inr (.inr 378), .inl x1]) (fun Q Q1 => rn_callV (as := [.inl x1]) (rest := []) (o := 378) m_X6_87 dX6_bestStraps_31 (rcv_own ok_378.1 ok_378.2.1 (by decide) (okO_1 ok_378)) rfl rfl (Nat.le_of_ble_eq_true rfl)) pl_X6_strapsFor (Nat.le_of_ble_eq_true rfl) rfl (e_X6_strapsFor l E d x1 D4) (fun r5 D6 => ?_)
      exact ev_ret (fun Q q => rn_ret q .int rfl rfl dX6_bestStraps_34)
    · refine ev_s (fun Q k => rn_bipush (v := -5) (by decide) dX6_bestStraps_24 k) ?_
      refine ev_s (fun Q k => rn_goto (tgt := 34) dX6_bestStraps_26 (by decide) k) ?_
      exact ev_ret (fun Q q => rn_ret q .int rfl rfl dX6_bestStraps_34)

def F_X6_putAside_2 (fuel : Nat)   (v1 : Int32) (D : dT) : Option (Int32 × dT) := match fuel with
  | 0 => none
  | fu + 1 => if (244 : Int32) ≤ v1 then some ((0 : Int32), D) else if inR v1 244 then if inR v1 244 then F_X6_putAside_2 fu (v1 + (1 : Int32)) (up2 D 380 v1.toNatClampNeg (D 379 v1.toNatClampNeg)) else none else none
def F_X6_putAside  (D : dT) : Option (Int32 × dT) := F_X6_putAside_2 lim (0 : Int32) D
set_option maxRecDepth 20000 in
theorem e_X6_putAside_2 (l : Launch) (E : eE) (d : Nat)   (fuel : Nat) : ∀ (v1 : Int32) (D : dT), ev l E d yX6_putAside cX6_putAside 2 none 2 [(0, .inr (.inr 378)), (1, .inl v1)] [] D eU (F_X6_putAside_2 fuel v1 D) := by
  induction fuel with
  | zero =>
    intro v1 D
    exact ev_none
  | succ fu ih =>
    intro v1 D
    rw [F_X6_putAside_2]
    refine ev_s (fun Q k => rn_iload_n (j := 1) 1 rfl rfl dX6_putAside_2 k) ?_
    refine ev_s (fun Q k => rn_sipush (v := 244) (by decide) dX6_putAside_3 k) ?_
    refine ev_if (fun Q => rn_icmp_ge (tgt := 27) dX6_putAside_6 (by decide)) (fun c3 => ?_) (fun c4 => ?_)
    · exact ev_ret (fun Q q => rn_retv q rfl dX6_putAside_27)
    · refine ev_s (fun Q k => rn_aload_n (j := 0) 0 rfl rfl (okO_0 ok_378) dX6_putAside_9 k) ?_
      refine ev_s (fun Q k => rn_getr (q := 380) f_X6_13 ok_378.1 ok_378.2.1 (okO_1 ok_378) rfl rfl dX6_putAside_10 k) ?_
      refine ev_s (fun Q k => rn_iload_n (j := 1) 1 rfl rfl dX6_putAside_13 k) ?_
      refine ev_s (fun Q k => rn_aload_n (j := 0) 0 rfl rfl (okO_0 ok_378) dX6_putAside_14 k) ?_
      refine ev_s (fun Q k => rn_getr (q := 379) f_X6_7 ok_378.1 ok_378.2.1 (okO_1 ok_378) rfl rfl dX6_putAside_15 k) ?_
      refine ev_s (fun Q k => rn_iload_n (j := 1) 1 rfl rfl dX6_putAside_18 k) ?_
      refine ev_gd (fun g1 => ?_)
      refine ev_s (fun Q k => rn_iald ok_379.1 ok_379.2.1 ok_379.2.2 (inR_vp g1) dX6_putAside_19 k) ?_
      refine ev_gd (fun g2 => ?_)
      refine ev_s (fun Q k => rn_iast ok_380.1 ok_380.2.1 ok_380.2.2 (inR_vp g2) dX6_putAside_20 k) ?_
      refine ev_s (fun Q k => rn_iinc (v := (v1 + (1 : Int32))) (ls' := [(1, .inl (v1 + (1 : Int32))), (0, .inr (.inr 378))]) 1 rfl rfl (by decide) rfl dX6_putAside_21 k) ?_
      refine ev_s (fun Q k => rn_goto (tgt := 2) dX6_putAside_24 (by decide) k) ?_
      refine ev_s (fun Q k => rn_sub (ls' := [(0, .inr (.inr 378)), (1, .inl (v1 + (1 : Int32)))]) [1, 0] rfl k) ?_
      exact ih (v1 + (1 : Int32)) (up2 D 380 v1.toNatClampNeg (D 379 v1.toNatClampNeg))

set_option maxRecDepth 20000 in
theorem e_X6_putAside (l : Launch) (E : eE) (d : Nat)  (D : dT) : ev l E d yX6_putAside cX6_putAside 2 none 0 [(0, .inr (.inr 378))] [] D eU (F_X6_putAside D) := by
  unfold F_X6_putAside
  refine ev_s (fun Q k => rn_iconst (v := 0) (by decide) dX6_putAside_0 k) ?_
  refine ev_s (fun Q k => rn_istore_n (j := 1) (ls' := [(1, .inl (0 : Int32)), (0, .inr (.inr 378))]) rfl (by decide) rfl dX6_putAside_1 k) ?_
  refine ev_s (fun Q k => rn_sub (ls' := [(0, .inr (.inr 378)), (1, .inl (0 : Int32))]) [1, 0] rfl k) ?_
  exact e_X6_putAside_2 l E d   lim (0 : Int32) D

def F_X6_takeBack_2 (fuel : Nat)   (v1 : Int32) (D : dT) : Option (Int32 × dT) := match fuel with
  | 0 => none
  | fu + 1 => if (244 : Int32) ≤ v1 then some ((0 : Int32), D) else if inR v1 244 then if inR v1 244 then F_X6_takeBack_2 fu (v1 + (1 : Int32)) (up2 D 379 v1.toNatClampNeg (D 380 v1.toNatClampNeg)) else none else none
def F_X6_takeBack  (D : dT) : Option (Int32 × dT) := F_X6_takeBack_2 lim (0 : Int32) D
set_option maxRecDepth 20000 in
theorem e_X6_takeBack_2 (l : Launch) (E : eE) (d : Nat)   (fuel : Nat) : ∀ (v1 : Int32) (D : dT), ev l E d yX6_takeBack cX6_takeBack 2 none 2 [(0, .inr (.inr 378)), (1, .inl v1)] [] D eU (F_X6_takeBack_2 fuel v1 D) := by
  induction fuel with
  | zero =>
    intro v1 D
    exact ev_none
  | succ fu ih =>
    intro v1 D
    rw [F_X6_takeBack_2]
    refine ev_s (fun Q k => rn_iload_n (j := 1) 1 rfl rfl dX6_takeBack_2 k) ?_
    refine ev_s (fun Q k => rn_sipush (v := 244) (by decide) dX6_takeBack_3 k) ?_
    refine ev_if (fun Q => rn_icmp_ge (tgt := 27) dX6_takeBack_6 (by decide)) (fun c3 => ?_) (fun c4 => ?_)
    · exact ev_ret (fun Q q => rn_retv q rfl dX6_takeBack_27)
    · refine ev_s (fun Q k => rn_aload_n (j := 0) 0 rfl rfl (okO_0 ok_378) dX6_takeBack_9 k) ?_
      refine ev_s (fun Q k => rn_getr (q := 379) f_X6_7 ok_378.1 ok_378.2.1 (okO_1 ok_378) rfl rfl dX6_takeBack_10 k) ?_
      refine ev_s (fun Q k => rn_iload_n (j := 1) 1 rfl rfl dX6_takeBack_13 k) ?_
      refine ev_s (fun Q k => rn_aload_n (j := 0) 0 rfl rfl (okO_0 ok_378) dX6_takeBack_14 k) ?_
      refine ev_s (fun Q k => rn_getr (q := 380) f_X6_13 ok_378.1 ok_378.2.1 (okO_1 ok_378) rfl rfl dX6_takeBack_15 k) ?_
      refine ev_s (fun Q k => rn_iload_n (j := 1) 1 rfl rfl dX6_takeBack_18 k) ?_
      refine ev_gd (fun g1 => ?_)
      refine ev_s (fun Q k => rn_iald ok_380.1 ok_380.2.1 ok_380.2.2 (inR_vp g1) dX6_takeBack_19 k) ?_
      refine ev_gd (fun g2 => ?_)
      refine ev_s (fun Q k => rn_iast ok_379.1 ok_379.2.1 ok_379.2.2 (inR_vp g2) dX6_takeBack_20 k) ?_
      refine ev_s (fun Q k => rn_iinc (v := (v1 + (1 : Int32))) (ls' := [(1, .inl (v1 + (1 : Int32))), (0, .inr (.inr 378))]) 1 rfl rfl (by decide) rfl dX6_takeBack_21 k) ?_
      refine ev_s (fun Q k => rn_goto (tgt := 2) dX6_takeBack_24 (by decide) k) ?_
      refine ev_s (fun Q k => rn_sub (ls' := [(0, .inr (.inr 378)), (1, .inl (v1 + (1 : Int32)))]) [1, 0] rfl k) ?_
      exact ih (v1 + (1 : Int32)) (up2 D 379 v1.toNatClampNeg (D 380 v1.toNatClampNeg))

set_option maxRecDepth 20000 in
theorem e_X6_takeBack (l : Launch) (E : eE) (d : Nat)  (D : dT) : ev l E d yX6_takeBack cX6_takeBack 2 none 0 [(0, .inr (.inr 378))] [] D eU (F_X6_takeBack D) := by
  unfold F_X6_takeBack
  refine ev_s (fun Q k => rn_iconst (v := 0) (by decide) dX6_takeBack_0 k) ?_
  refine ev_s (fun Q k => rn_istore_n (j := 1) (ls' := [(1, .inl (0 : Int32)), (0, .inr (.inr 378))]) rfl (by decide) rfl dX6_takeBack_1 k) ?_
  refine ev_s (fun Q k => rn_sub (ls' := [(0, .inr (.inr 378)), (1, .inl (0 : Int32))]) [1, 0] rfl k) ?_
  exact e_X6_takeBack_2 l E d   lim (0 : Int32) D

def F_X6_doneIn_78 (x1 : Int32)  (s0 : Int32) (D : dT) : Option (Int32 × dT) := bd (F_X6_takeBack  D) (fun (r1 : Int32) (D2 : dT) => some (s0, D2))
def F_X6_doneIn_62 (x1 : Int32)  (v2 : Int32) (D : dT) : Option (Int32 × dT) := bd (F_X6_ofJobs x1 (5 : Int32) D) (fun (r1 : Int32) (D2 : dT) => if r1 = (2 : Int32) then F_X6_doneIn_78 x1 v2 D2 else F_X6_doneIn_78 x1 (-6 : Int32) D2)
def F_X6_doneIn_34 (fuel : Nat) (x1 : Int32)  (v2 : Int32) (D : dT) : Option (Int32 × dT) := match fuel with
  | 0 => none
  | fu + 1 => if (500 : Int32) ≤ v2 then F_X6_doneIn_62 x1 v2 D else bd (F_X6_ofJobs x1 (5 : Int32) D) (fun (r1 : Int32) (D2 : dT) => if r1 = (1 : Int32) then bd (F_X6_goesBy  D2) (fun (r3 : Int32) (D4 : dT) => F_X6_doneIn_34 fu x1 (v2 + (1 : Int32)) D4) else F_X6_doneIn_62 x1 v2 D2)
def F_X6_doneIn (x1 : Int32) (D : dT) : Option (Int32 × dT) := bd (F_X6_isJob x1 (up2 D 378 0 (0 : Int32))) (fun (r1 : Int32) (D2 : dT) => if r1 = 0 then some ((-1 : Int32), D2) else bd (F_X6_ofJobs x1 (5 : Int32) D2) (fun (r3 : Int32) (D4 : dT) => if r3 = (1 : Int32) then bd (F_X6_putAside  D4) (fun (r5 : Int32) (D6 : dT) => F_X6_doneIn_34 lim x1 (0 : Int32) D6) else some ((-5 : Int32), D4)))
set_option maxRecDepth 20000 in
theorem e_X6_doneIn_78 (l : Launch) (E : eE) (d : Nat) (x1 : Int32)  (s0 : Int32) (D : dT) : ev l E (d + 4) yX6_doneIn cX6_doneIn 4 (some .int) 78 [(0, .inr (.inr 378))] [.inl s0] D eI (F_X6_doneIn_78 x1 s0 D) := by
  unfold F_X6_doneIn_78
  refine ev_s (fun Q k => rn_istore_n (j := 3) (ls' := [(3, .inl s0), (0, .inr (.inr 378))]) rfl (by decide) rfl dX6_doneIn_78 k) ?_
  refine ev_s (fun Q k => rn_aload_n (j := 0) 1 rfl rfl (okO_0 ok_378) dX6_doneIn_79 k) ?_
  refine ev_bindU (as := [.inr (.inr 378)]) (fun Q Q1 => rn_callV (as := []) (rest := []) (o := 378) m_X6_184 dX6_doneIn_80 (rcv_own ok_378.1 ok_378.2.1 (by decide) (okO_1 ok_378)) rfl rfl (Nat.le_of_ble_eq_true rfl)) pl_X6_takeBack (Nat.le_of_ble_eq_true rfl) rfl (e_X6_takeBack l E (d + 3)  D) (fun r1 D2 => ?_)
  refine ev_s (fun Q k => rn_iload_n (j := 3) 0 rfl rfl dX6_doneIn_83 k) ?_
  exact ev_ret (fun Q q => rn_ret q .int rfl rfl dX6_doneIn_84)

set_option maxRecDepth 20000 in
theorem e_X6_doneIn_62 (l : Launch) (E : eE) (d : Nat) (x1 : Int32)  (v2 : Int32) (D : dT) : ev l E (d + 4) yX6_doneIn cX6_doneIn 4 (some .int) 62 [(0, .inr (.inr 378)), (1, .inl x1), (2, .inl v2)] [] D eI (F_X6_doneIn_62 x1 v2 D) := by
  unfold F_X6_doneIn_62
  refine ev_s (fun Q k => rn_aload_n (j := 0) 0 rfl rfl (okO_0 ok_378) dX6_doneIn_62 k) ?_
  refine ev_s (fun Q k => rn_iload_n (j := 1) 1 rfl rfl dX6_doneIn_63 k) ?_
  refine ev_s (fun Q k => rn_iconst (v := 5) (by decide) dX6_doneIn_64 k) ?_
  refine ev_bindI (as := [.inr (.inr 378), .inl x1, .inl (5 : Int32)]) (fun Q Q1 => rn_callV (as := [.inl x1, .inl (5 : Int32)]) (rest := []) (o := 378) m_X6_43 dX6_doneIn_65 (rcv_own ok_378.1 ok_378.2.1 (by decide) (okO_1 ok_378)) rfl rfl (Nat.le_of_ble_eq_true rfl)) pl_X6_ofJobs (Nat.le_of_ble_eq_true rfl) rfl (e_X6_ofJobs l E (d + 3) x1 (5 : Int32) D) (fun r1 D2 => ?_)
  refine ev_s (fun Q k => rn_iconst (v := 2) (by decide) dX6_doneIn_68 k) ?_
  refine ev_if (fun Q => rn_icmp_ne (tgt := 76) dX6_doneIn_69 (by decide)) (fun c3 => ?_) (fun c4 => ?_)
  · refine ev_s (fun Q k => rn_iload_n (j := 2) 2 rfl rfl dX6_doneIn_72 k) ?_
    refine ev_s (fun Q k => rn_goto (tgt := 78) dX6_doneIn_73 (by decide) k) ?_
    refine ev_s (fun Q k => rn_sub (ls' := [(0, .inr (.inr 378))]) [0] rfl k) ?_
    exact e_X6_doneIn_78 l E d x1   v2 D2
  · refine ev_s (fun Q k => rn_bipush (v := -6) (by decide) dX6_doneIn_76 k) ?_
    refine ev_s (fun Q k => rn_sub (ls' := [(0, .inr (.inr 378))]) [0] rfl k) ?_
    exact e_X6_doneIn_78 l E d x1   (-6 : Int32) D2

set_option maxRecDepth 20000 in
theorem e_X6_doneIn_34 (l : Launch) (E : eE) (d : Nat) (x1 : Int32)  (fuel : Nat) : ∀ (v2 : Int32) (D : dT), ev l E (d + 4) yX6_doneIn cX6_doneIn 4 (some .int) 34 [(0, .inr (.inr 378)), (1, .inl x1), (2, .inl v2)] [] D eI (F_X6_doneIn_34 fuel x1 v2 D) := by
  induction fuel with
  | zero =>
    intro v2 D
    exact ev_none
  | succ fu ih =>
    intro v2 D
    rw [F_X6_doneIn_34]
    refine ev_s (fun Q k => rn_iload_n (j := 2) 2 rfl rfl dX6_doneIn_34 k) ?_
    refine ev_s (fun Q k => rn_sipush (v := 500) (by decide) dX6_doneIn_35 k) ?_
    refine ev_if (fun Q => rn_icmp_ge (tgt := 62) dX6_doneIn_38 (by decide)) (fun c7 => ?_) (fun c8 => ?_)
    · exact e_X6_doneIn_62 l E d x1   v2 D
    · refine ev_s (fun Q k => rn_aload_n (j := 0) 0 rfl rfl (okO_0 ok_378) dX6_doneIn_41 k) ?_
      refine ev_s (fun Q k => rn_iload_n (j := 1) 1 rfl rfl dX6_doneIn_42 k) ?_
      refine ev_s (fun Q k => rn_iconst (v := 5) (by decide) dX6_doneIn_43 k) ?_
      refine ev_bindI (as := [.inr (.inr 378), .inl x1, .inl (5 : Int32)]) (fun Q Q1 => rn_callV (as := [.inl x1, .inl (5 : Int32)]) (rest := []) (o := 378) m_X6_43 dX6_doneIn_44 (rcv_own ok_378.1 ok_378.2.1 (by decide) (okO_1 ok_378)) rfl rfl (Nat.le_of_ble_eq_true rfl)) pl_X6_ofJobs (Nat.le_of_ble_eq_true rfl) rfl (e_X6_ofJobs l E (d + 3) x1 (5 : Int32) D) (fun r1 D2 => ?_)
      refine ev_s (fun Q k => rn_iconst (v := 1) (by decide) dX6_doneIn_47 k) ?_
      refine ev_if (fun Q => rn_icmp_ne (tgt := 62) dX6_doneIn_48 (by decide)) (fun c5 => ?_) (fun c6 => ?_)
      · refine ev_s (fun Q k => rn_aload_n (j := 0) 0 rfl rfl (okO_0 ok_378) dX6_doneIn_51 k) ?_
        refine ev_bindI (as := [.inr (.inr 378)]) (fun Q Q1 => rn_callV (as := []) (rest := []) (o := 378) m_X6_160 dX6_doneIn_52 (rcv_own ok_378.1 ok_378.2.1 (by decide) (okO_1 ok_378)) rfl rfl (Nat.le_of_ble_eq_true rfl)) pl_X6_goesBy (Nat.le_of_ble_eq_true rfl) rfl (e_X6_goesBy l E d  D2) (fun r3 D4 => ?_)
        refine ev_s (fun Q k => rn_pop rfl dX6_doneIn_55 k) ?_
        refine ev_s (fun Q k => rn_iinc (v := (v2 + (1 : Int32))) (ls' := [(2, .inl (v2 + (1 : Int32))), (0, .inr (.inr 378)), (1, .inl x1)]) 2 rfl rfl (by decide) rfl dX6_doneIn_56 k) ?_
        refine ev_s (fun Q k => rn_goto (tgt := 34) dX6_doneIn_59 (by decide) k) ?_
        refine ev_s (fun Q k => rn_sub (ls' := [(0, .inr (.inr 378)), (1, .inl x1), (2, .inl (v2 + (1 : Int32)))]) [1, 2, 0] rfl k) ?_
        exact ih (v2 + (1 : Int32)) D4
      · exact e_X6_doneIn_62 l E d x1   v2 D2

set_option maxRecDepth 20000 in
theorem e_X6_doneIn (l : Launch) (E : eE) (d : Nat) (x1 : Int32) (D : dT) : ev l E (d + 4) yX6_doneIn cX6_doneIn 4 (some .int) 0 [(0, .inr (.inr 378)), (1, .inl x1)] [] D eI (F_X6_doneIn x1 D) := by
  unfold F_X6_doneIn
  refine ev_s (fun Q k => rn_aload_n (j := 0) 0 rfl rfl (okO_0 ok_378) dX6_doneIn_0 k) ?_
  refine ev_s (fun Q k => rn_iconst (v := 0) (by decide) dX6_doneIn_1 k) ?_
  refine ev_s (fun Q k => rn_puti f_X6_32 ok_378.1 ok_378.2.1 (okO_1 ok_378) rfl rfl rfl rfl dX6_doneIn_2 k) ?_
  refine ev_s (fun Q k => rn_aload_n (j := 0) 0 rfl rfl (okO_0 ok_378) dX6_doneIn_5 k) ?_
  refine ev_s (fun Q k => rn_iload_n (j := 1) 1 rfl rfl dX6_doneIn_6 k) ?_
  refine ev_bindI (as := [.inr (.inr 378), .inl x1]) (fun Q Q1 => rn_callV (as := [.inl x1]) (rest := []) (o := 378) m_X6_133 dX6_doneIn_7 (rcv_own ok_378.1 ok_378.2.1 (by decide) (okO_1 ok_378)) rfl rfl (Nat.le_of_ble_eq_true rfl)) pl_X6_isJob (Nat.le_of_ble_eq_true rfl) rfl (e_X6_isJob l E (d + 2) x1 (up2 D 378 0 (0 : Int32))) (fun r1 D2 => ?_)
  refine ev_if (fun Q => rn_if_ne (tgt := 15) dX6_doneIn_10 (by decide)) (fun c9 => ?_) (fun c10 => ?_)
  · refine ev_s (fun Q k => rn_iconst (v := -1) (by decide) dX6_doneIn_13 k) ?_
    exact ev_ret (fun Q q => rn_ret q .int rfl rfl dX6_doneIn_14)
  · refine ev_s (fun Q k => rn_aload_n (j := 0) 0 rfl rfl (okO_0 ok_378) dX6_doneIn_15 k) ?_
    refine ev_s (fun Q k => rn_iload_n (j := 1) 1 rfl rfl dX6_doneIn_16 k) ?_
    refine ev_s (fun Q k => rn_iconst (v := 5) (by decide) dX6_doneIn_17 k) ?_
    refine ev_bindI (as := [.inr (.inr 378), .inl x1, .inl (5 : Int32)]) (fun Q Q1 => rn_callV (as := [.inl x1, .inl (5 : Int32)]) (rest := []) (o := 378) m_X6_43 dX6_doneIn_18 (rcv_own ok_378.1 ok_378.2.1 (by decide) (okO_1 ok_378)) rfl rfl (Nat.le_of_ble_eq_true rfl)) pl_X6_ofJobs (Nat.le_of_ble_eq_true rfl) rfl (e_X6_ofJobs l E (d + 3) x1 (5 : Int32) D2) (fun r3 D4 => ?_)
    refine ev_s (fun Q k => rn_iconst (v := 1) (by decide) dX6_doneIn_21 k) ?_
    refine ev_if (fun Q => rn_icmp_eq (tgt := 28) dX6_doneIn_22 (by decide)) (fun c7 => ?_) (fun c8 => ?_)
    · refine ev_s (fun Q k => rn_aload_n (j := 0) 0 rfl rfl (okO_0 ok_378) dX6_doneIn_28 k) ?_
      refine ev_bindU (as := [.inr (.inr 378)]) (fun Q Q1 => rn_callV (as := []) (rest := []) (o := 378) m_X6_181 dX6_doneIn_29 (rcv_own ok_378.1 ok_378.2.1 (by decide) (okO_1 ok_378)) rfl rfl (Nat.le_of_ble_eq_true rfl)) pl_X6_putAside (Nat.le_of_ble_eq_true rfl) rfl (e_X6_putAside l E (d + 3)  D4) (fun r5 D6 => ?_)
      refine ev_s (fun Q k => rn_iconst (v := 0) (by decide) dX6_doneIn_32 k) ?_
      refine ev_s (fun Q k => rn_istore_n (j := 2) (ls' := [(2, .inl (0 : Int32)), (0, .inr (.inr 378)), (1, .inl x1)]) rfl (by decide) rfl dX6_doneIn_33 k) ?_
      refine ev_s (fun Q k => rn_sub (ls' := [(0, .inr (.inr 378)), (1, .inl x1), (2, .inl (0 : Int32))]) [1, 2, 0] rfl k) ?_
      exact e_X6_doneIn_34 l E d x1  lim (0 : Int32) D6
    · refine ev_s (fun Q k => rn_bipush (v := -5) (by decide) dX6_doneIn_25 k) ?_
      exact ev_ret (fun Q q => rn_ret q .int rfl rfl dX6_doneIn_27)

def F_X6_ifAssigned  (D : dT) : Option (Int32 × dT) := bd (F_X6_putAside  (up2 D 378 0 (0 : Int32))) (fun (r1 : Int32) (D2 : dT) => bd (F_X6_assigns  D2) (fun (r3 : Int32) (D4 : dT) => bd (F_X6_takeBack  D4) (fun (r5 : Int32) (D6 : dT) => some (r3, D6))))
set_option maxRecDepth 20000 in
theorem e_X6_ifAssigned (l : Launch) (E : eE) (d : Nat)  (D : dT) : ev l E (d + 6) yX6_ifAssigned cX6_ifAssigned 2 (some .int) 0 [(0, .inr (.inr 378))] [] D eI (F_X6_ifAssigned D) := by
  unfold F_X6_ifAssigned
  refine ev_s (fun Q k => rn_aload_n (j := 0) 0 rfl rfl (okO_0 ok_378) dX6_ifAssigned_0 k) ?_
  refine ev_s (fun Q k => rn_iconst (v := 0) (by decide) dX6_ifAssigned_1 k) ?_
  refine ev_s (fun Q k => rn_puti f_X6_32 ok_378.1 ok_378.2.1 (okO_1 ok_378) rfl rfl rfl rfl dX6_ifAssigned_2 k) ?_
  refine ev_s (fun Q k => rn_aload_n (j := 0) 0 rfl rfl (okO_0 ok_378) dX6_ifAssigned_5 k) ?_
  refine ev_bindU (as := [.inr (.inr 378)]) (fun Q Q1 => rn_callV (as := []) (rest := []) (o := 378) m_X6_181 dX6_ifAssigned_6 (rcv_own ok_378.1 ok_378.2.1 (by decide) (okO_1 ok_378)) rfl rfl (Nat.le_of_ble_eq_true rfl)) pl_X6_putAside (Nat.le_of_ble_eq_true rfl) rfl (e_X6_putAside l E (d + 5)  (up2 D 378 0 (0 : Int32))) (fun r1 D2 => ?_)
  refine ev_s (fun Q k => rn_aload_n (j := 0) 0 rfl rfl (okO_0 ok_378) dX6_ifAssigned_9 k) ?_
  refine ev_bindI (as := [.inr (.inr 378)]) (fun Q Q1 => rn_callV (as := []) (rest := []) (o := 378) m_X6_145 dX6_ifAssigned_10 (rcv_own ok_378.1 ok_378.2.1 (by decide) (okO_1 ok_378)) rfl rfl (Nat.le_of_ble_eq_true rfl)) pl_X6_assigns (Nat.le_of_ble_eq_true rfl) rfl (e_X6_assigns l E d  D2) (fun r3 D4 => ?_)
  refine ev_s (fun Q k => rn_istore_n (j := 1) (ls' := [(1, .inl r3), (0, .inr (.inr 378))]) rfl (by decide) rfl dX6_ifAssigned_13 k) ?_
  refine ev_s (fun Q k => rn_aload_n (j := 0) 1 rfl rfl (okO_0 ok_378) dX6_ifAssigned_14 k) ?_
  refine ev_bindU (as := [.inr (.inr 378)]) (fun Q Q1 => rn_callV (as := []) (rest := []) (o := 378) m_X6_184 dX6_ifAssigned_15 (rcv_own ok_378.1 ok_378.2.1 (by decide) (okO_1 ok_378)) rfl rfl (Nat.le_of_ble_eq_true rfl)) pl_X6_takeBack (Nat.le_of_ble_eq_true rfl) rfl (e_X6_takeBack l E (d + 5)  D4) (fun r5 D6 => ?_)
  refine ev_s (fun Q k => rn_iload_n (j := 1) 0 rfl rfl dX6_ifAssigned_18 k) ?_
  exact ev_ret (fun Q q => rn_ret q .int rfl rfl dX6_ifAssigned_19)

def F_X6_put_57 (x1 : Int64) (k13 : Int32 → Int64 → Int32 → dT → Option (Int32 × dT)) (v3 : Int32) (v4 : Int64) (s0 : Int32) (D : dT) : Option (Int32 × dT) := k13 (v3 + (1 : Int32)) ((v4.toUInt64 >>> ((8 : Int32).toInt64.toUInt64 &&& Int64.toUInt64 63)).toInt64) s0 D
def F_X6_put_56 (x1 : Int64) (k13 : Int32 → Int64 → Int32 → dT → Option (Int32 × dT)) (v3 : Int32) (v4 : Int64) (D : dT) : Option (Int32 × dT) := F_X6_put_57 x1 k13 v3 v4 (0 : Int32) D
def F_X6_put_108 (fuel : Nat) (x1 : Int64)  (v3 : Int32) (v7 : Int32) (D : dT) : Option (Int32 × dT) := match fuel with
  | 0 => none
  | fu + 1 => if v3 ≤ v7 then some (((up2 D 378 8 ((D 378 8) + v3)) 378 8), (up2 D 378 8 ((D 378 8) + v3))) else if inR ((D 378 8) + v7) 80 then F_X6_put_108 fu x1 v3 (v7 + (1 : Int32)) (up2 D 384 ((D 378 8) + v7).toNatClampNeg ((((x1.toUInt64 >>> (((8 : Int32) * ((v3 - (1 : Int32)) - v7)).toInt64.toUInt64 &&& Int64.toUInt64 63)).toInt64) &&& (255 : Int64)).toInt32)) else none
def F_X6_put_72 (x1 : Int64)  (v3 : Int32) (v4 : Int64) (v6 : Int32) (D : dT) : Option (Int32 × dT) := if v3 = 0 then some ((-2 : Int32), D) else if v6 = 0 then some ((-2 : Int32), D) else if (lg_cmp v4 (0 : Int64)) = 0 then if ((D 378 8) + v3) ≤ (80 : Int32) then F_X6_put_108 lim x1 v3 (0 : Int32) D else some ((-4 : Int32), D) else some ((-2 : Int32), D)
def F_X6_put_13 (fuel : Nat) (x1 : Int64)  (v3 : Int32) (v4 : Int64) (v6 : Int32) (D : dT) : Option (Int32 × dT) := match fuel with
  | 0 => none
  | fu + 1 => if (8 : Int32) ≤ v3 then F_X6_put_72 x1 v3 v4 v6 D else if (lg_cmp (v4 &&& (255 : Int64)) (0 : Int64)) = 0 then F_X6_put_72 x1 v3 v4 v6 D else if v6 = 0 then F_X6_put_56 x1 (fun (v3_ : Int32) (v4_ : Int64) (v6_ : Int32) (D_ : dT) => F_X6_put_13 fu x1 v3_ v4_ v6_ D_) v3 v4 D else bd (F_X6_in ((v4 &&& (255 : Int64)).toInt32) (33 : Int32) (126 : Int32) D) (fun (r1 : Int32) (D2 : dT) => if r1 = 0 then F_X6_put_56 x1 (fun (v3_ : Int32) (v4_ : Int64) (v6_ : Int32) (D_ : dT) => F_X6_put_13 fu x1 v3_ v4_ v6_ D_) v3 v4 D2 else F_X6_put_57 x1 (fun (v3_ : Int32) (v4_ : Int64) (v6_ : Int32) (D_ : dT) => F_X6_put_13 fu x1 v3_ v4_ v6_ D_) v3 v4 (1 : Int32) D2)
def F_X6_put (x1 : Int64) (D : dT) : Option (Int32 × dT) := F_X6_put_13 lim x1 (0 : Int32) x1 (1 : Int32) (up2 D 378 0 (0 : Int32))
set_option maxRecDepth 20000 in
theorem e_X6_put_57 (l : Launch) (E : eE) (d : Nat) (x1 : Int64) (k13 : Int32 → Int64 → Int32 → dT → Option (Int32 × dT)) (hk13 : ∀ (v3 : Int32) (v4 : Int64) (v6 : Int32) (D : dT), ev l E (d + 1) yX6_put cX6_put 8 (some .int) 13 [(0, .inr (.inr 378)), (1, .inr (.inl x1)), (3, .inl v3), (4, .inr (.inl v4)), (6, .inl v6)] [] D eI (k13 v3 v4 v6 D)) (v3 : Int32) (v4 : Int64) (s0 : Int32) (D : dT) : ev l E (d + 1) yX6_put cX6_put 8 (some .int) 57 [(0, .inr (.inr 378)), (1, .inr (.inl x1)), (3, .inl v3), (4, .inr (.inl v4))] [.inl s0] D eI (F_X6_put_57 x1 k13 v3 v4 s0 D) := by
  unfold F_X6_put_57
  refine ev_s (fun Q k => rn_istore (j := 6) (ls' := [(6, .inl s0), (0, .inr (.inr 378)), (1, .inr (.inl x1)), (3, .inl v3), (4, .inr (.inl v4))]) (by decide) rfl dX6_put_57 k) ?_
  refine ev_s (fun Q k => rn_lload (j := 4) 4 rfl dX6_put_59 k) ?_
  refine ev_s (fun Q k => rn_bipush (v := 8) (by decide) dX6_put_61 k) ?_
  refine ev_s (fun Q k => rn_lushr (v := (v4.toUInt64 >>> ((8 : Int32).toInt64.toUInt64 &&& Int64.toUInt64 63)).toInt64) rfl dX6_put_63 k) ?_
  refine ev_s (fun Q k => rn_lstore (j := 4) (ls' := [(4, .inr (.inl ((v4.toUInt64 >>> ((8 : Int32).toInt64.toUInt64 &&& Int64.toUInt64 63)).toInt64))), (6, .inl s0), (0, .inr (.inr 378)), (1, .inr (.inl x1)), (3, .inl v3)]) (by decide) rfl dX6_put_64 k) ?_
  refine ev_s (fun Q k => rn_iinc (v := (v3 + (1 : Int32))) (ls' := [(3, .inl (v3 + (1 : Int32))), (4, .inr (.inl ((v4.toUInt64 >>> ((8 : Int32).toInt64.toUInt64 &&& Int64.toUInt64 63)).toInt64))), (6, .inl s0), (0, .inr (.inr 378)), (1, .inr (.inl x1))]) 4 rfl rfl (by decide) rfl dX6_put_66 k) ?_
  refine ev_s (fun Q k => rn_goto (tgt := 13) dX6_put_69 (by decide) k) ?_
  refine ev_s (fun Q k => rn_sub (ls' := [(0, .inr (.inr 378)), (1, .inr (.inl x1)), (3, .inl (v3 + (1 : Int32))), (4, .inr (.inl ((v4.toUInt64 >>> ((8 : Int32).toInt64.toUInt64 &&& Int64.toUInt64 63)).toInt64))), (6, .inl s0)]) [3, 4, 0, 1, 2] rfl k) ?_
  exact hk13 (v3 + (1 : Int32)) ((v4.toUInt64 >>> ((8 : Int32).toInt64.toUInt64 &&& Int64.toUInt64 63)).toInt64) s0 D

set_option maxRecDepth 20000 in
theorem e_X6_put_56 (l : Launch) (E : eE) (d : Nat) (x1 : Int64) (k13 : Int32 → Int64 → Int32 → dT → Option (Int32 × dT)) (hk13 : ∀ (v3 : Int32) (v4 : Int64) (v6 : Int32) (D : dT), ev l E (d + 1) yX6_put cX6_put 8 (some .int) 13 [(0, .inr (.inr 378)), (1, .inr (.inl x1)), (3, .inl v3), (4, .inr (.inl v4)), (6, .inl v6)] [] D eI (k13 v3 v4 v6 D)) (v3 : Int32) (v4 : Int64) (D : dT) : ev l E (d + 1) yX6_put cX6_put 8 (some .int) 56 [(0, .inr (.inr 378)), (1, .inr (.inl x1)), (3, .inl v3), (4, .inr (.inl v4))] [] D eI (F_X6_put_56 x1 k13 v3 v4 D) := by
  unfold F_X6_put_56
  refine ev_s (fun Q k => rn_iconst (v := 0) (by decide) dX6_put_56 k) ?_
  exact e_X6_put_57 l E d x1 k13 hk13  v3 v4 (0 : Int32) D

set_option maxRecDepth 20000 in
theorem e_X6_put_108 (l : Launch) (E : eE) (d : Nat) (x1 : Int64)  (fuel : Nat) : ∀ (v3 : Int32) (v7 : Int32) (D : dT), ev l E (d + 1) yX6_put cX6_put 8 (some .int) 108 [(0, .inr (.inr 378)), (1, .inr (.inl x1)), (3, .inl v3), (7, .inl v7)] [] D eI (F_X6_put_108 fuel x1 v3 v7 D) := by
  induction fuel with
  | zero =>
    intro v3 v7 D
    exact ev_none
  | succ fu ih =>
    intro v3 v7 D
    rw [F_X6_put_108]
    refine ev_s (fun Q k => rn_iload (j := 7) 3 rfl dX6_put_108 k) ?_
    refine ev_s (fun Q k => rn_iload_n (j := 3) 2 rfl rfl dX6_put_110 k) ?_
    refine ev_if (fun Q => rn_icmp_ge (tgt := 148) dX6_put_111 (by decide)) (fun c2 => ?_) (fun c3 => ?_)
    · refine ev_s (fun Q k => rn_aload_n (j := 0) 0 rfl rfl (okO_0 ok_378) dX6_put_148 k) ?_
      refine ev_s (fun Q k => rn_dup rfl dX6_put_149 k) ?_
      refine ev_s (fun Q k => rn_geti f_X6_178 ok_378.1 ok_378.2.1 (okO_1 ok_378) rfl dX6_put_150 k) ?_
      refine ev_s (fun Q k => rn_iload_n (j := 3) 2 rfl rfl dX6_put_153 k) ?_
      refine ev_s (fun Q k => rn_iadd dX6_put_154 k) ?_
      refine ev_s (fun Q k => rn_puti f_X6_178 ok_378.1 ok_378.2.1 (okO_1 ok_378) rfl rfl rfl rfl dX6_put_155 k) ?_
      refine ev_s (fun Q k => rn_aload_n (j := 0) 0 rfl rfl (okO_0 ok_378) dX6_put_158 k) ?_
      refine ev_s (fun Q k => rn_geti f_X6_178 ok_378.1 ok_378.2.1 (okO_1 ok_378) rfl dX6_put_159 k) ?_
      exact ev_ret (fun Q q => rn_ret q .int rfl rfl dX6_put_162)
    · refine ev_s (fun Q k => rn_aload_n (j := 0) 0 rfl rfl (okO_0 ok_378) dX6_put_114 k) ?_
      refine ev_s (fun Q k => rn_getr (q := 384) f_X6_26 ok_378.1 ok_378.2.1 (okO_1 ok_378) rfl rfl dX6_put_115 k) ?_
      refine ev_s (fun Q k => rn_aload_n (j := 0) 0 rfl rfl (okO_0 ok_378) dX6_put_118 k) ?_
      refine ev_s (fun Q k => rn_geti f_X6_178 ok_378.1 ok_378.2.1 (okO_1 ok_378) rfl dX6_put_119 k) ?_
      refine ev_s (fun Q k => rn_iload (j := 7) 3 rfl dX6_put_122 k) ?_
      refine ev_s (fun Q k => rn_iadd dX6_put_124 k) ?_
      refine ev_s (fun Q k => rn_lload_n (j := 1) 1 rfl rfl dX6_put_125 k) ?_
      refine ev_s (fun Q k => rn_bipush (v := 8) (by decide) dX6_put_126 k) ?_
      refine ev_s (fun Q k => rn_iload_n (j := 3) 2 rfl rfl dX6_put_128 k) ?_
      refine ev_s (fun Q k => rn_iconst (v := 1) (by decide) dX6_put_129 k) ?_
      refine ev_s (fun Q k => rn_isub dX6_put_130 k) ?_
      refine ev_s (fun Q k => rn_iload (j := 7) 3 rfl dX6_put_131 k) ?_
      refine ev_s (fun Q k => rn_isub dX6_put_133 k) ?_
      refine ev_s (fun Q k => rn_imul dX6_put_134 k) ?_
      refine ev_s (fun Q k => rn_lushr (v := (x1.toUInt64 >>> (((8 : Int32) * ((v3 - (1 : Int32)) - v7)).toInt64.toUInt64 &&& Int64.toUInt64 63)).toInt64) rfl dX6_put_135 k) ?_
      refine ev_s (fun Q k => rn_ldc2 (v := 255) cn_X6_187 dX6_put_136 k) ?_
      refine ev_s (fun Q k => rn_land dX6_put_139 k) ?_
      refine ev_s (fun Q k => rn_l2i (v := (((x1.toUInt64 >>> (((8 : Int32) * ((v3 - (1 : Int32)) - v7)).toInt64.toUInt64 &&& Int64.toUInt64 63)).toInt64) &&& (255 : Int64)).toInt32) rfl dX6_put_140 k) ?_
      refine ev_gd (fun g1 => ?_)
      refine ev_s (fun Q k => rn_iast ok_384.1 ok_384.2.1 ok_384.2.2 (inR_vp g1) dX6_put_141 k) ?_
      refine ev_s (fun Q k => rn_iinc (v := (v7 + (1 : Int32))) (ls' := [(7, .inl (v7 + (1 : Int32))), (0, .inr (.inr 378)), (1, .inr (.inl x1)), (3, .inl v3)]) 3 rfl rfl (by decide) rfl dX6_put_142 k) ?_
      refine ev_s (fun Q k => rn_goto (tgt := 108) dX6_put_145 (by decide) k) ?_
      refine ev_s (fun Q k => rn_sub (ls' := [(0, .inr (.inr 378)), (1, .inr (.inl x1)), (3, .inl v3), (7, .inl (v7 + (1 : Int32)))]) [1, 2, 3, 0] rfl k) ?_
      exact ih v3 (v7 + (1 : Int32)) (up2 D 384 ((D 378 8) + v7).toNatClampNeg ((((x1.toUInt64 >>> (((8 : Int32) * ((v3 - (1 : Int32)) - v7)).toInt64.toUInt64 &&& Int64.toUInt64 63)).toInt64) &&& (255 : Int64)).toInt32))

set_option maxRecDepth 20000 in
theorem e_X6_put_72 (l : Launch) (E : eE) (d : Nat) (x1 : Int64)  (v3 : Int32) (v4 : Int64) (v6 : Int32) (D : dT) : ev l E (d + 1) yX6_put cX6_put 8 (some .int) 72 [(0, .inr (.inr 378)), (1, .inr (.inl x1)), (3, .inl v3), (4, .inr (.inl v4)), (6, .inl v6)] [] D eI (F_X6_put_72 x1 v3 v4 v6 D) := by
  unfold F_X6_put_72
  refine ev_s (fun Q k => rn_iload_n (j := 3) 2 rfl rfl dX6_put_72 k) ?_
  refine ev_if (fun Q => rn_if_eq (tgt := 88) dX6_put_73 (by decide)) (fun c7 => ?_) (fun c8 => ?_)
  · refine ev_s (fun Q k => rn_bipush (v := -2) (by decide) dX6_put_88 k) ?_
    exact ev_ret (fun Q q => rn_ret q .int rfl rfl dX6_put_90)
  · refine ev_s (fun Q k => rn_iload (j := 6) 4 rfl dX6_put_76 k) ?_
    refine ev_if (fun Q => rn_if_eq (tgt := 88) dX6_put_78 (by decide)) (fun c5 => ?_) (fun c6 => ?_)
    · refine ev_s (fun Q k => rn_bipush (v := -2) (by decide) dX6_put_88 k) ?_
      exact ev_ret (fun Q q => rn_ret q .int rfl rfl dX6_put_90)
    · refine ev_s (fun Q k => rn_lload (j := 4) 3 rfl dX6_put_81 k) ?_
      refine ev_s (fun Q k => rn_lconst (v := 0) (by decide) dX6_put_83 k) ?_
      refine ev_s (fun Q k => rn_lcmp (v := (lg_cmp v4 (0 : Int64))) rfl dX6_put_84 k) ?_
      refine ev_if (fun Q => rn_if_eq (tgt := 91) dX6_put_85 (by decide)) (fun c3 => ?_) (fun c4 => ?_)
      · refine ev_s (fun Q k => rn_aload_n (j := 0) 0 rfl rfl (okO_0 ok_378) dX6_put_91 k) ?_
        refine ev_s (fun Q k => rn_geti f_X6_178 ok_378.1 ok_378.2.1 (okO_1 ok_378) rfl dX6_put_92 k) ?_
        refine ev_s (fun Q k => rn_iload_n (j := 3) 2 rfl rfl dX6_put_95 k) ?_
        refine ev_s (fun Q k => rn_iadd dX6_put_96 k) ?_
        refine ev_s (fun Q k => rn_bipush (v := 80) (by decide) dX6_put_97 k) ?_
        refine ev_if (fun Q => rn_icmp_le (tgt := 105) dX6_put_99 (by decide)) (fun c1 => ?_) (fun c2 => ?_)
        · refine ev_s (fun Q k => rn_iconst (v := 0) (by decide) dX6_put_105 k) ?_
          refine ev_s (fun Q k => rn_istore (j := 7) (ls' := [(7, .inl (0 : Int32)), (0, .inr (.inr 378)), (1, .inr (.inl x1)), (3, .inl v3), (4, .inr (.inl v4)), (6, .inl v6)]) (by decide) rfl dX6_put_106 k) ?_
          refine ev_s (fun Q k => rn_sub (ls' := [(0, .inr (.inr 378)), (1, .inr (.inl x1)), (3, .inl v3), (7, .inl (0 : Int32))]) [1, 2, 3, 0] rfl k) ?_
          exact e_X6_put_108 l E d x1  lim v3 (0 : Int32) D
        · refine ev_s (fun Q k => rn_bipush (v := -4) (by decide) dX6_put_102 k) ?_
          exact ev_ret (fun Q q => rn_ret q .int rfl rfl dX6_put_104)
      · refine ev_s (fun Q k => rn_bipush (v := -2) (by decide) dX6_put_88 k) ?_
        exact ev_ret (fun Q q => rn_ret q .int rfl rfl dX6_put_90)

set_option maxRecDepth 20000 in
theorem e_X6_put_13 (l : Launch) (E : eE) (d : Nat) (x1 : Int64)  (fuel : Nat) : ∀ (v3 : Int32) (v4 : Int64) (v6 : Int32) (D : dT), ev l E (d + 1) yX6_put cX6_put 8 (some .int) 13 [(0, .inr (.inr 378)), (1, .inr (.inl x1)), (3, .inl v3), (4, .inr (.inl v4)), (6, .inl v6)] [] D eI (F_X6_put_13 fuel x1 v3 v4 v6 D) := by
  induction fuel with
  | zero =>
    intro v3 v4 v6 D
    exact ev_none
  | succ fu ih =>
    intro v3 v4 v6 D
    rw [F_X6_put_13]
    refine ev_s (fun Q k => rn_iload_n (j := 3) 2 rfl rfl dX6_put_13 k) ?_
    refine ev_s (fun Q k => rn_bipush (v := 8) (by decide) dX6_put_14 k) ?_
    refine ev_if (fun Q => rn_icmp_ge (tgt := 72) dX6_put_16 (by decide)) (fun c9 => ?_) (fun c10 => ?_)
    · exact e_X6_put_72 l E d x1   v3 v4 v6 D
    · refine ev_s (fun Q k => rn_lload (j := 4) 3 rfl dX6_put_19 k) ?_
      refine ev_s (fun Q k => rn_ldc2 (v := 255) cn_X6_187 dX6_put_21 k) ?_
      refine ev_s (fun Q k => rn_land dX6_put_24 k) ?_
      refine ev_s (fun Q k => rn_lconst (v := 0) (by decide) dX6_put_25 k) ?_
      refine ev_s (fun Q k => rn_lcmp (v := (lg_cmp (v4 &&& (255 : Int64)) (0 : Int64))) rfl dX6_put_26 k) ?_
      refine ev_if (fun Q => rn_if_eq (tgt := 72) dX6_put_27 (by decide)) (fun c7 => ?_) (fun c8 => ?_)
      · exact e_X6_put_72 l E d x1   v3 v4 v6 D
      · refine ev_s (fun Q k => rn_iload (j := 6) 4 rfl dX6_put_30 k) ?_
        refine ev_if (fun Q => rn_if_eq (tgt := 56) dX6_put_32 (by decide)) (fun c5 => ?_) (fun c6 => ?_)
        · refine ev_s (fun Q k => rn_sub (ls' := [(0, .inr (.inr 378)), (1, .inr (.inl x1)), (3, .inl v3), (4, .inr (.inl v4))]) [0, 1, 2, 3] rfl k) ?_
          exact e_X6_put_56 l E d x1 (fun (v3_ : Int32) (v4_ : Int64) (v6_ : Int32) (D_ : dT) => F_X6_put_13 fu x1 v3_ v4_ v6_ D_) (fun v3_ v4_ v6_ D_ => ih v3_ v4_ v6_ D_)  v3 v4 D
        · refine ev_s (fun Q k => rn_lload (j := 4) 3 rfl dX6_put_35 k) ?_
          refine ev_s (fun Q k => rn_ldc2 (v := 255) cn_X6_187 dX6_put_37 k) ?_
          refine ev_s (fun Q k => rn_land dX6_put_40 k) ?_
          refine ev_s (fun Q k => rn_l2i (v := (v4 &&& (255 : Int64)).toInt32) rfl dX6_put_41 k) ?_
          refine ev_s (fun Q k => rn_bipush (v := 33) (by decide) dX6_put_42 k) ?_
          refine ev_s (fun Q k => rn_bipush (v := 126) (by decide) dX6_put_44 k) ?_
          refine ev_bindI (as := [.inl ((v4 &&& (255 : Int64)).toInt32), .inl (33 : Int32), .inl (126 : Int32)]) (fun Q Q1 => rn_callS (as := [.inl ((v4 &&& (255 : Int64)).toInt32), .inl (33 : Int32), .inl (126 : Int32)]) (rest := []) m_X6_36 dX6_put_46 rfl rfl (Nat.le_of_ble_eq_true rfl)) pl_X6_in (Nat.le_of_ble_eq_true rfl) rfl (e_X6_in l E d ((v4 &&& (255 : Int64)).toInt32) (33 : Int32) (126 : Int32) D) (fun r1 D2 => ?_)
          refine ev_if (fun Q => rn_if_eq (tgt := 56) dX6_put_49 (by decide)) (fun c3 => ?_) (fun c4 => ?_)
          · refine ev_s (fun Q k => rn_sub (ls' := [(0, .inr (.inr 378)), (1, .inr (.inl x1)), (3, .inl v3), (4, .inr (.inl v4))]) [0, 1, 2, 3] rfl k) ?_
            exact e_X6_put_56 l E d x1 (fun (v3_ : Int32) (v4_ : Int64) (v6_ : Int32) (D_ : dT) => F_X6_put_13 fu x1 v3_ v4_ v6_ D_) (fun v3_ v4_ v6_ D_ => ih v3_ v4_ v6_ D_)  v3 v4 D2
          · refine ev_s (fun Q k => rn_iconst (v := 1) (by decide) dX6_put_52 k) ?_
            refine ev_s (fun Q k => rn_goto (tgt := 57) dX6_put_53 (by decide) k) ?_
            refine ev_s (fun Q k => rn_sub (ls' := [(0, .inr (.inr 378)), (1, .inr (.inl x1)), (3, .inl v3), (4, .inr (.inl v4))]) [0, 1, 2, 3] rfl k) ?_
            exact e_X6_put_57 l E d x1 (fun (v3_ : Int32) (v4_ : Int64) (v6_ : Int32) (D_ : dT) => F_X6_put_13 fu x1 v3_ v4_ v6_ D_) (fun v3_ v4_ v6_ D_ => ih v3_ v4_ v6_ D_)  v3 v4 (1 : Int32) D2

set_option maxRecDepth 20000 in
theorem e_X6_put (l : Launch) (E : eE) (d : Nat) (x1 : Int64) (D : dT) : ev l E (d + 1) yX6_put cX6_put 8 (some .int) 0 [(0, .inr (.inr 378)), (1, .inr (.inl x1))] [] D eI (F_X6_put x1 D) := by
  unfold F_X6_put
  refine ev_s (fun Q k => rn_aload_n (j := 0) 0 rfl rfl (okO_0 ok_378) dX6_put_0 k) ?_
  refine ev_s (fun Q k => rn_iconst (v := 0) (by decide) dX6_put_1 k) ?_
  refine ev_s (fun Q k => rn_puti f_X6_32 ok_378.1 ok_378.2.1 (okO_1 ok_378) rfl rfl rfl rfl dX6_put_2 k) ?_
  refine ev_s (fun Q k => rn_iconst (v := 0) (by decide) dX6_put_5 k) ?_
  refine ev_s (fun Q k => rn_istore_n (j := 3) (ls' := [(3, .inl (0 : Int32)), (0, .inr (.inr 378)), (1, .inr (.inl x1))]) rfl (by decide) rfl dX6_put_6 k) ?_
  refine ev_s (fun Q k => rn_lload_n (j := 1) 2 rfl rfl dX6_put_7 k) ?_
  refine ev_s (fun Q k => rn_lstore (j := 4) (ls' := [(4, .inr (.inl x1)), (3, .inl (0 : Int32)), (0, .inr (.inr 378)), (1, .inr (.inl x1))]) (by decide) rfl dX6_put_8 k) ?_
  refine ev_s (fun Q k => rn_iconst (v := 1) (by decide) dX6_put_10 k) ?_
  refine ev_s (fun Q k => rn_istore (j := 6) (ls' := [(6, .inl (1 : Int32)), (4, .inr (.inl x1)), (3, .inl (0 : Int32)), (0, .inr (.inr 378)), (1, .inr (.inl x1))]) (by decide) rfl dX6_put_11 k) ?_
  refine ev_s (fun Q k => rn_sub (ls' := [(0, .inr (.inr 378)), (1, .inr (.inl x1)), (3, .inl (0 : Int32)), (4, .inr (.inl x1)), (6, .inl (1 : Int32))]) [3, 4, 2, 1, 0] rfl k) ?_
  exact e_X6_put_13 l E d x1  lim (0 : Int32) x1 (1 : Int32) (up2 D 378 0 (0 : Int32))

def F_X6_wipe  (D : dT) : Option (Int32 × dT) := some (((up2 D 378 0 (0 : Int32)) 378 8), (up2 (up2 D 378 0 (0 : Int32)) 378 8 (0 : Int32)))
set_option maxRecDepth 20000 in
theorem e_X6_wipe (l : Launch) (E : eE) (d : Nat)  (D : dT) : ev l E d yX6_wipe cX6_wipe 2 (some .int) 0 [(0, .inr (.inr 378))] [] D eI (F_X6_wipe D) := by
  unfold F_X6_wipe
  refine ev_s (fun Q k => rn_aload_n (j := 0) 0 rfl rfl (okO_0 ok_378) dX6_wipe_0 k) ?_
  refine ev_s (fun Q k => rn_iconst (v := 0) (by decide) dX6_wipe_1 k) ?_
  refine ev_s (fun Q k => rn_puti f_X6_32 ok_378.1 ok_378.2.1 (okO_1 ok_378) rfl rfl rfl rfl dX6_wipe_2 k) ?_
  refine ev_s (fun Q k => rn_aload_n (j := 0) 0 rfl rfl (okO_0 ok_378) dX6_wipe_5 k) ?_
  refine ev_s (fun Q k => rn_geti f_X6_178 ok_378.1 ok_378.2.1 (okO_1 ok_378) rfl dX6_wipe_6 k) ?_
  refine ev_s (fun Q k => rn_istore_n (j := 1) (ls' := [(1, .inl ((up2 D 378 0 (0 : Int32)) 378 8)), (0, .inr (.inr 378))]) rfl (by decide) rfl dX6_wipe_9 k) ?_
  refine ev_s (fun Q k => rn_aload_n (j := 0) 1 rfl rfl (okO_0 ok_378) dX6_wipe_10 k) ?_
  refine ev_s (fun Q k => rn_iconst (v := 0) (by decide) dX6_wipe_11 k) ?_
  refine ev_s (fun Q k => rn_puti f_X6_178 ok_378.1 ok_378.2.1 (okO_1 ok_378) rfl rfl rfl rfl dX6_wipe_12 k) ?_
  refine ev_s (fun Q k => rn_iload_n (j := 1) 0 rfl rfl dX6_wipe_15 k) ?_
  exact ev_ret (fun Q q => rn_ret q .int rfl rfl dX6_wipe_16)

def F_X6_letter  (D : dT) : Option (Int32 × dT) := if (D 378 8) ≤ (D 378 9) then some ((0 : Int32), D) else if inR (D 378 9) 80 then some ((D 384 (D 378 9).toNatClampNeg), D) else none
set_option maxRecDepth 20000 in
theorem e_X6_letter (l : Launch) (E : eE) (d : Nat)  (D : dT) : ev l E d yX6_letter cX6_letter 1 (some .int) 0 [(0, .inr (.inr 378))] [] D eI (F_X6_letter D) := by
  unfold F_X6_letter
  refine ev_s (fun Q k => rn_aload_n (j := 0) 0 rfl rfl (okO_0 ok_378) dX6_letter_0 k) ?_
  refine ev_s (fun Q k => rn_geti f_X6_189 ok_378.1 ok_378.2.1 (okO_1 ok_378) rfl dX6_letter_1 k) ?_
  refine ev_s (fun Q k => rn_aload_n (j := 0) 0 rfl rfl (okO_0 ok_378) dX6_letter_4 k) ?_
  refine ev_s (fun Q k => rn_geti f_X6_178 ok_378.1 ok_378.2.1 (okO_1 ok_378) rfl dX6_letter_5 k) ?_
  refine ev_if (fun Q => rn_icmp_ge (tgt := 23) dX6_letter_8 (by decide)) (fun c2 => ?_) (fun c3 => ?_)
  · refine ev_s (fun Q k => rn_iconst (v := 0) (by decide) dX6_letter_23 k) ?_
    exact ev_ret (fun Q q => rn_ret q .int rfl rfl dX6_letter_24)
  · refine ev_s (fun Q k => rn_aload_n (j := 0) 0 rfl rfl (okO_0 ok_378) dX6_letter_11 k) ?_
    refine ev_s (fun Q k => rn_getr (q := 384) f_X6_26 ok_378.1 ok_378.2.1 (okO_1 ok_378) rfl rfl dX6_letter_12 k) ?_
    refine ev_s (fun Q k => rn_aload_n (j := 0) 0 rfl rfl (okO_0 ok_378) dX6_letter_15 k) ?_
    refine ev_s (fun Q k => rn_geti f_X6_189 ok_378.1 ok_378.2.1 (okO_1 ok_378) rfl dX6_letter_16 k) ?_
    refine ev_gd (fun g1 => ?_)
    refine ev_s (fun Q k => rn_iald ok_384.1 ok_384.2.1 ok_384.2.2 (inR_vp g1) dX6_letter_19 k) ?_
    refine ev_s (fun Q k => rn_goto (tgt := 24) dX6_letter_20 (by decide) k) ?_
    exact ev_ret (fun Q q => rn_ret q .int rfl rfl dX6_letter_24)

def F_X6_isOrder (x1 : Int32) (D : dT) : Option (Int32 × dT) := if x1 = (119 : Int32) then some ((1 : Int32), D) else if x1 = (106 : Int32) then some ((1 : Int32), D) else if x1 = (103 : Int32) then some ((1 : Int32), D) else if x1 = (100 : Int32) then some ((1 : Int32), D) else if x1 = (120 : Int32) then some ((1 : Int32), D) else if x1 = (97 : Int32) then some ((1 : Int32), D) else if x1 = (110 : Int32) then some ((1 : Int32), D) else some ((0 : Int32), D)
set_option maxRecDepth 20000 in
theorem e_X6_isOrder (l : Launch) (E : eE) (d : Nat) (x1 : Int32) (D : dT) : ev l E d yX6_isOrder cX6_isOrder 1 (some .boolean) 0 [(0, .inl x1)] [] D eI (F_X6_isOrder x1 D) := by
  unfold F_X6_isOrder
  refine ev_s (fun Q k => rn_iload_n (j := 0) 0 rfl rfl dX6_isOrder_0 k) ?_
  refine ev_s (fun Q k => rn_bipush (v := 119) (by decide) dX6_isOrder_1 k) ?_
  refine ev_if (fun Q => rn_icmp_eq (tgt := 42) dX6_isOrder_3 (by decide)) (fun c13 => ?_) (fun c14 => ?_)
  · refine ev_s (fun Q k => rn_iconst (v := 1) (by decide) dX6_isOrder_42 k) ?_
    refine ev_s (fun Q k => rn_goto (tgt := 47) dX6_isOrder_43 (by decide) k) ?_
    exact ev_ret (fun Q q => rn_ret q .boolean rfl rfl dX6_isOrder_47)
  · refine ev_s (fun Q k => rn_iload_n (j := 0) 0 rfl rfl dX6_isOrder_6 k) ?_
    refine ev_s (fun Q k => rn_bipush (v := 106) (by decide) dX6_isOrder_7 k) ?_
    refine ev_if (fun Q => rn_icmp_eq (tgt := 42) dX6_isOrder_9 (by decide)) (fun c11 => ?_) (fun c12 => ?_)
    · refine ev_s (fun Q k => rn_iconst (v := 1) (by decide) dX6_isOrder_42 k) ?_
      refine ev_s (fun Q k => rn_goto (tgt := 47) dX6_isOrder_43 (by decide) k) ?_
      exact ev_ret (fun Q q => rn_ret q .boolean rfl rfl dX6_isOrder_47)
    · refine ev_s (fun Q k => rn_iload_n (j := 0) 0 rfl rfl dX6_isOrder_12 k) ?_
      refine ev_s (fun Q k => rn_bipush (v := 103) (by decide) dX6_isOrder_13 k) ?_
      refine ev_if (fun Q => rn_icmp_eq (tgt := 42) dX6_isOrder_15 (by decide)) (fun c9 => ?_) (fun c10 => ?_)
      · refine ev_s (fun Q k => rn_iconst (v := 1) (by decide) dX6_isOrder_42 k) ?_
        refine ev_s (fun Q k => rn_goto (tgt := 47) dX6_isOrder_43 (by decide) k) ?_
        exact ev_ret (fun Q q => rn_ret q .boolean rfl rfl dX6_isOrder_47)
      · refine ev_s (fun Q k => rn_iload_n (j := 0) 0 rfl rfl dX6_isOrder_18 k) ?_
        refine ev_s (fun Q k => rn_bipush (v := 100) (by decide) dX6_isOrder_19 k) ?_
        refine ev_if (fun Q => rn_icmp_eq (tgt := 42) dX6_isOrder_21 (by decide)) (fun c7 => ?_) (fun c8 => ?_)
        · refine ev_s (fun Q k => rn_iconst (v := 1) (by decide) dX6_isOrder_42 k) ?_
          refine ev_s (fun Q k => rn_goto (tgt := 47) dX6_isOrder_43 (by decide) k) ?_
          exact ev_ret (fun Q q => rn_ret q .boolean rfl rfl dX6_isOrder_47)
        · refine ev_s (fun Q k => rn_iload_n (j := 0) 0 rfl rfl dX6_isOrder_24 k) ?_
          refine ev_s (fun Q k => rn_bipush (v := 120) (by decide) dX6_isOrder_25 k) ?_
          refine ev_if (fun Q => rn_icmp_eq (tgt := 42) dX6_isOrder_27 (by decide)) (fun c5 => ?_) (fun c6 => ?_)
          · refine ev_s (fun Q k => rn_iconst (v := 1) (by decide) dX6_isOrder_42 k) ?_
            refine ev_s (fun Q k => rn_goto (tgt := 47) dX6_isOrder_43 (by decide) k) ?_
            exact ev_ret (fun Q q => rn_ret q .boolean rfl rfl dX6_isOrder_47)
          · refine ev_s (fun Q k => rn_iload_n (j := 0) 0 rfl rfl dX6_isOrder_30 k) ?_
            refine ev_s (fun Q k => rn_bipush (v := 97) (by decide) dX6_isOrder_31 k) ?_
            refine ev_if (fun Q => rn_icmp_eq (tgt := 42) dX6_isOrder_33 (by decide)) (fun c3 => ?_) (fun c4 => ?_)
            · refine ev_s (fun Q k => rn_iconst (v := 1) (by decide) dX6_isOrder_42 k) ?_
              refine ev_s (fun Q k => rn_goto (tgt := 47) dX6_isOrder_43 (by decide) k) ?_
              exact ev_ret (fun Q q => rn_ret q .boolean rfl rfl dX6_isOrder_47)
            · refine ev_s (fun Q k => rn_iload_n (j := 0) 0 rfl rfl dX6_isOrder_36 k) ?_
              refine ev_s (fun Q k => rn_bipush (v := 110) (by decide) dX6_isOrder_37 k) ?_
              refine ev_if (fun Q => rn_icmp_ne (tgt := 46) dX6_isOrder_39 (by decide)) (fun c1 => ?_) (fun c2 => ?_)
              · refine ev_s (fun Q k => rn_iconst (v := 1) (by decide) dX6_isOrder_42 k) ?_
                refine ev_s (fun Q k => rn_goto (tgt := 47) dX6_isOrder_43 (by decide) k) ?_
                exact ev_ret (fun Q q => rn_ret q .boolean rfl rfl dX6_isOrder_47)
              · refine ev_s (fun Q k => rn_iconst (v := 0) (by decide) dX6_isOrder_46 k) ?_
                exact ev_ret (fun Q q => rn_ret q .boolean rfl rfl dX6_isOrder_47)

def F_X6_digit_27   (s0 : Int32) (D : dT) : Option (Int32 × dT) := if s0 = 0 ∨ s0 = 1 then bd (F_X6_letter  (up2 D 378 10 s0)) (fun (r2 : Int32) (D3 : dT) => if (D3 378 10) = 0 then some ((r2 - (48 : Int32)), (up2 D3 378 9 ((D3 378 9) + (0 : Int32)))) else some ((r2 - (48 : Int32)), (up2 D3 378 9 ((D3 378 9) + (1 : Int32))))) else none
def F_X6_digit_26    (D : dT) : Option (Int32 × dT) := F_X6_digit_27 (0 : Int32) D
def F_X6_digit  (D : dT) : Option (Int32 × dT) := if (D 378 10) = 0 then F_X6_digit_26 D else bd (F_X6_letter  D) (fun (r1 : Int32) (D2 : dT) => bd (F_X6_in r1 (48 : Int32) (57 : Int32) D2) (fun (r3 : Int32) (D4 : dT) => if r3 = 0 then F_X6_digit_26 D4 else F_X6_digit_27 (1 : Int32) D4))
set_option maxRecDepth 20000 in
theorem e_X6_digit_27 (l : Launch) (E : eE) (d : Nat)   (s0 : Int32) (D : dT) : ev l E (d + 1) yX6_digit cX6_digit 2 (some .int) 27 [(0, .inr (.inr 378))] [.inl s0, .inr (.inr 378)] D eI (F_X6_digit_27 s0 D) := by
  unfold F_X6_digit_27
  refine ev_gd (fun g1 => ?_)
  refine ev_s (fun Q k => rn_puti f_X6_192 ok_378.1 ok_378.2.1 (okO_1 ok_378) rfl rfl (nz_b g1) (ft_b g1) dX6_digit_27 k) ?_
  refine ev_s (fun Q k => rn_aload_n (j := 0) 0 rfl rfl (okO_0 ok_378) dX6_digit_30 k) ?_
  refine ev_bindI (as := [.inr (.inr 378)]) (fun Q Q1 => rn_callV (as := []) (rest := []) (o := 378) m_X6_196 dX6_digit_31 (rcv_own ok_378.1 ok_378.2.1 (by decide) (okO_1 ok_378)) rfl rfl (Nat.le_of_ble_eq_true rfl)) pl_X6_letter (Nat.le_of_ble_eq_true rfl) rfl (e_X6_letter l E d  (up2 D 378 10 s0)) (fun r2 D3 => ?_)
  refine ev_s (fun Q k => rn_bipush (v := 48) (by decide) dX6_digit_34 k) ?_
  refine ev_s (fun Q k => rn_isub dX6_digit_36 k) ?_
  refine ev_s (fun Q k => rn_istore_n (j := 1) (ls' := [(1, .inl (r2 - (48 : Int32))), (0, .inr (.inr 378))]) rfl (by decide) rfl dX6_digit_37 k) ?_
  refine ev_s (fun Q k => rn_aload_n (j := 0) 1 rfl rfl (okO_0 ok_378) dX6_digit_38 k) ?_
  refine ev_s (fun Q k => rn_dup rfl dX6_digit_39 k) ?_
  refine ev_s (fun Q k => rn_geti f_X6_189 ok_378.1 ok_378.2.1 (okO_1 ok_378) rfl dX6_digit_40 k) ?_
  refine ev_s (fun Q k => rn_aload_n (j := 0) 1 rfl rfl (okO_0 ok_378) dX6_digit_43 k) ?_
  refine ev_s (fun Q k => rn_geti f_X6_192 ok_378.1 ok_378.2.1 (okO_1 ok_378) rfl dX6_digit_44 k) ?_
  refine ev_if (fun Q => rn_if_eq (tgt := 54) dX6_digit_47 (by decide)) (fun c4 => ?_) (fun c5 => ?_)
  · refine ev_s (fun Q k => rn_iconst (v := 0) (by decide) dX6_digit_54 k) ?_
    refine ev_s (fun Q k => rn_iadd dX6_digit_55 k) ?_
    refine ev_s (fun Q k => rn_puti f_X6_189 ok_378.1 ok_378.2.1 (okO_1 ok_378) rfl rfl rfl rfl dX6_digit_56 k) ?_
    refine ev_s (fun Q k => rn_iload_n (j := 1) 0 rfl rfl dX6_digit_59 k) ?_
    exact ev_ret (fun Q q => rn_ret q .int rfl rfl dX6_digit_60)
  · refine ev_s (fun Q k => rn_iconst (v := 1) (by decide) dX6_digit_50 k) ?_
    refine ev_s (fun Q k => rn_goto (tgt := 55) dX6_digit_51 (by decide) k) ?_
    refine ev_s (fun Q k => rn_iadd dX6_digit_55 k) ?_
    refine ev_s (fun Q k => rn_puti f_X6_189 ok_378.1 ok_378.2.1 (okO_1 ok_378) rfl rfl rfl rfl dX6_digit_56 k) ?_
    refine ev_s (fun Q k => rn_iload_n (j := 1) 0 rfl rfl dX6_digit_59 k) ?_
    exact ev_ret (fun Q q => rn_ret q .int rfl rfl dX6_digit_60)

set_option maxRecDepth 20000 in
theorem e_X6_digit_26 (l : Launch) (E : eE) (d : Nat)    (D : dT) : ev l E (d + 1) yX6_digit cX6_digit 2 (some .int) 26 [(0, .inr (.inr 378))] [.inr (.inr 378)] D eI (F_X6_digit_26 D) := by
  unfold F_X6_digit_26
  refine ev_s (fun Q k => rn_iconst (v := 0) (by decide) dX6_digit_26 k) ?_
  exact e_X6_digit_27 l E d    (0 : Int32) D

set_option maxRecDepth 20000 in
theorem e_X6_digit (l : Launch) (E : eE) (d : Nat)  (D : dT) : ev l E (d + 1) yX6_digit cX6_digit 2 (some .int) 0 [(0, .inr (.inr 378))] [] D eI (F_X6_digit D) := by
  unfold F_X6_digit
  refine ev_s (fun Q k => rn_aload_n (j := 0) 0 rfl rfl (okO_0 ok_378) dX6_digit_0 k) ?_
  refine ev_s (fun Q k => rn_aload_n (j := 0) 0 rfl rfl (okO_0 ok_378) dX6_digit_1 k) ?_
  refine ev_s (fun Q k => rn_geti f_X6_192 ok_378.1 ok_378.2.1 (okO_1 ok_378) rfl dX6_digit_2 k) ?_
  refine ev_if (fun Q => rn_if_eq (tgt := 26) dX6_digit_5 (by decide)) (fun c7 => ?_) (fun c8 => ?_)
  · exact e_X6_digit_26 l E d    D
  · refine ev_s (fun Q k => rn_aload_n (j := 0) 0 rfl rfl (okO_0 ok_378) dX6_digit_8 k) ?_
    refine ev_bindI (as := [.inr (.inr 378)]) (fun Q Q1 => rn_callV (as := []) (rest := [.inr (.inr 378)]) (o := 378) m_X6_196 dX6_digit_9 (rcv_own ok_378.1 ok_378.2.1 (by decide) (okO_1 ok_378)) rfl rfl (Nat.le_of_ble_eq_true rfl)) pl_X6_letter (Nat.le_of_ble_eq_true rfl) rfl (e_X6_letter l E d  D) (fun r1 D2 => ?_)
    refine ev_s (fun Q k => rn_bipush (v := 48) (by decide) dX6_digit_12 k) ?_
    refine ev_s (fun Q k => rn_bipush (v := 57) (by decide) dX6_digit_14 k) ?_
    refine ev_bindI (as := [.inl r1, .inl (48 : Int32), .inl (57 : Int32)]) (fun Q Q1 => rn_callS (as := [.inl r1, .inl (48 : Int32), .inl (57 : Int32)]) (rest := [.inr (.inr 378)]) m_X6_36 dX6_digit_16 rfl rfl (Nat.le_of_ble_eq_true rfl)) pl_X6_in (Nat.le_of_ble_eq_true rfl) rfl (e_X6_in l E d r1 (48 : Int32) (57 : Int32) D2) (fun r3 D4 => ?_)
    refine ev_if (fun Q => rn_if_eq (tgt := 26) dX6_digit_19 (by decide)) (fun c5 => ?_) (fun c6 => ?_)
    · exact e_X6_digit_26 l E d    D4
    · refine ev_s (fun Q k => rn_iconst (v := 1) (by decide) dX6_digit_22 k) ?_
      refine ev_s (fun Q k => rn_goto (tgt := 27) dX6_digit_23 (by decide) k) ?_
      exact e_X6_digit_27 l E d    (1 : Int32) D4

