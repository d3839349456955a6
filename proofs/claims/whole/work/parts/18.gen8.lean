def F_X6_isStraps (x1 : Int32) (D : dT) : Option (Int32 × dT) := if x1 = (-6 : Int32) then some ((1 : Int32), D) else bd (F_X6_in x1 (0 : Int32) (2 : Int32) D) (fun (r1 : Int32) (D2 : dT) => if r1 = 0 then some ((0 : Int32), D2) else some ((1 : Int32), D2))
set_option maxRecDepth 20000 in
theorem e_X6_isStraps (l : Launch) (E : eE) (d : Nat) (x1 : Int32) (D : dT) : ev l E (d + 1) yX6_isStraps cX6_isStraps 1 (some .boolean) 0 [(0, .inl x1)] [] D eI (F_X6_isStraps x1 D) := by
  unfold F_X6_isStraps
  refine ev_s (fun Q k => rn_iload_n (j := 0) 0 rfl rfl dX6_isStraps_0 k) ?_
  refine ev_s (fun Q k => rn_bipush (v := -6) (by decide) dX6_isStraps_1 k) ?_
  refine ev_if (fun Q => rn_icmp_eq (tgt := 15) dX6_isStraps_3 (by decide)) (fun c5 => ?_) (fun c6 => ?_)
  · refine ev_s (fun Q k => rn_iconst (v := 1) (by decide) dX6_isStraps_15 k) ?_
    refine ev_s (fun Q k => rn_goto (tgt := 20) dX6_isStraps_16 (by decide) k) ?_
    exact ev_ret (fun Q q => rn_ret q .boolean rfl rfl dX6_isStraps_20)
  · refine ev_s (fun Q k => rn_iload_n (j := 0) 0 rfl rfl dX6_isStraps_6 k) ?_
    refine ev_s (fun Q k => rn_iconst (v := 0) (by decide) dX6_isStraps_7 k) ?_
    refine ev_s (fun Q k => rn_iconst (v := 2) (by decide) dX6_isStraps_8 k) ?_
    refine ev_bindI (as := [.inl x1, .inl (0 : Int32), .inl (2 : Int32)]) (fun Q Q1 => rn_callS (as := [.inl x1, .inl (0 : Int32), .inl (2 : Int32)]) (rest := []) m_X6_36 dX6_isStraps_9 rfl rfl (Nat.le_of_ble_eq_true rfl)) pl_X6_in (Nat.le_of_ble_eq_true rfl) rfl (e_X6_in l E d x1 (0 : Int32) (2 : Int32) D) (fun r1 D2 => ?_)
    refine ev_if (fun Q => rn_if_eq (tgt := 19) dX6_isStraps_12 (by decide)) (fun c3 => ?_) (fun c4 => ?_)
    · refine ev_s (fun Q k => rn_iconst (v := 0) (by decide) dX6_isStraps_19 k) ?_
      exact ev_ret (fun Q q => rn_ret q .boolean rfl rfl dX6_isStraps_20)
    · refine ev_s (fun Q k => rn_iconst (v := 1) (by decide) dX6_isStraps_15 k) ?_
      refine ev_s (fun Q k => rn_goto (tgt := 20) dX6_isStraps_16 (by decide) k) ?_
      exact ev_ret (fun Q q => rn_ret q .boolean rfl rfl dX6_isStraps_20)

def F_X6_ofJobs (x1 : Int32) (x2 : Int32) (D : dT) : Option (Int32 × dT) := if inR (((52 : Int32) + ((12 : Int32) * x1)) + x2) 244 then some ((D 379 (((52 : Int32) + ((12 : Int32) * x1)) + x2).toNatClampNeg), D) else none
set_option maxRecDepth 20000 in
theorem e_X6_ofJobs (l : Launch) (E : eE) (d : Nat) (x1 : Int32) (x2 : Int32) (D : dT) : ev l E d yX6_ofJobs cX6_ofJobs 3 (some .int) 0 [(0, .inr (.inr 378)), (1, .inl x1), (2, .inl x2)] [] D eI (F_X6_ofJobs x1 x2 D) := by
  unfold F_X6_ofJobs
  refine ev_s (fun Q k => rn_aload_n (j := 0) 0 rfl rfl (okO_0 ok_378) dX6_ofJobs_0 k) ?_
  refine ev_s (fun Q k => rn_getr (q := 379) f_X6_7 ok_378.1 ok_378.2.1 (okO_1 ok_378) rfl rfl dX6_ofJobs_1 k) ?_
  refine ev_s (fun Q k => rn_bipush (v := 52) (by decide) dX6_ofJobs_4 k) ?_
  refine ev_s (fun Q k => rn_bipush (v := 12) (by decide) dX6_ofJobs_6 k) ?_
  refine ev_s (fun Q k => rn_iload_n (j := 1) 1 rfl rfl dX6_ofJobs_8 k) ?_
  refine ev_s (fun Q k => rn_imul dX6_ofJobs_9 k) ?_
  refine ev_s (fun Q k => rn_iadd dX6_ofJobs_10 k) ?_
  refine ev_s (fun Q k => rn_iload_n (j := 2) 2 rfl rfl dX6_ofJobs_11 k) ?_
  refine ev_s (fun Q k => rn_iadd dX6_ofJobs_12 k) ?_
  refine ev_gd (fun g1 => ?_)
  refine ev_s (fun Q k => rn_iald ok_379.1 ok_379.2.1 ok_379.2.2 (inR_vp g1) dX6_ofJobs_13 k) ?_
  exact ev_ret (fun Q q => rn_ret q .int rfl rfl dX6_ofJobs_14)

def F_X6_ones_4 (fuel : Nat) (x1 : Int32)  (v1 : Int32) (v2 : Int32) (D : dT) : Option (Int32 × dT) := match fuel with
  | 0 => none
  | fu + 1 => if (31 : Int32) ≤ v2 then some (v1, D) else F_X6_ones_4 fu x1 (v1 + ((x1 >>> (v2 &&& 31)) &&& (1 : Int32))) (v2 + (1 : Int32)) D
def F_X6_ones (x1 : Int32) (D : dT) : Option (Int32 × dT) := F_X6_ones_4 lim x1 (0 : Int32) (0 : Int32) D
set_option maxRecDepth 20000 in
theorem e_X6_ones_4 (l : Launch) (E : eE) (d : Nat) (x1 : Int32)  (fuel : Nat) : ∀ (v1 : Int32) (v2 : Int32) (D : dT), ev l E d yX6_ones cX6_ones 3 (some .int) 4 [(0, .inl x1), (1, .inl v1), (2, .inl v2)] [] D eI (F_X6_ones_4 fuel x1 v1 v2 D) := by
  induction fuel with
  | zero =>
    intro v1 v2 D
    exact ev_none
  | succ fu ih =>
    intro v1 v2 D
    rw [F_X6_ones_4]
    refine ev_s (fun Q k => rn_iload_n (j := 2) 2 rfl rfl dX6_ones_4 k) ?_
    refine ev_s (fun Q k => rn_bipush (v := 31) (by decide) dX6_ones_5 k) ?_
    refine ev_if (fun Q => rn_icmp_ge (tgt := 24) dX6_ones_7 (by decide)) (fun c1 => ?_) (fun c2 => ?_)
    · refine ev_s (fun Q k => rn_iload_n (j := 1) 1 rfl rfl dX6_ones_24 k) ?_
      exact ev_ret (fun Q q => rn_ret q .int rfl rfl dX6_ones_25)
    · refine ev_s (fun Q k => rn_iload_n (j := 1) 1 rfl rfl dX6_ones_10 k) ?_
      refine ev_s (fun Q k => rn_iload_n (j := 0) 0 rfl rfl dX6_ones_11 k) ?_
      refine ev_s (fun Q k => rn_iload_n (j := 2) 2 rfl rfl dX6_ones_12 k) ?_
      refine ev_s (fun Q k => rn_ishr dX6_ones_13 k) ?_
      refine ev_s (fun Q k => rn_iconst (v := 1) (by decide) dX6_ones_14 k) ?_
      refine ev_s (fun Q k => rn_iand dX6_ones_15 k) ?_
      refine ev_s (fun Q k => rn_iadd dX6_ones_16 k) ?_
      refine ev_s (fun Q k => rn_istore_n (j := 1) (ls' := [(1, .inl (v1 + ((x1 >>> (v2 &&& 31)) &&& (1 : Int32)))), (0, .inl x1), (2, .inl v2)]) rfl (by decide) rfl dX6_ones_17 k) ?_
      refine ev_s (fun Q k => rn_iinc (v := (v2 + (1 : Int32))) (ls' := [(2, .inl (v2 + (1 : Int32))), (1, .inl (v1 + ((x1 >>> (v2 &&& 31)) &&& (1 : Int32)))), (0, .inl x1)]) 2 rfl rfl (by decide) rfl dX6_ones_18 k) ?_
      refine ev_s (fun Q k => rn_goto (tgt := 4) dX6_ones_21 (by decide) k) ?_
      refine ev_s (fun Q k => rn_sub (ls' := [(0, .inl x1), (1, .inl (v1 + ((x1 >>> (v2 &&& 31)) &&& (1 : Int32)))), (2, .inl (v2 + (1 : Int32)))]) [2, 1, 0] rfl k) ?_
      exact ih (v1 + ((x1 >>> (v2 &&& 31)) &&& (1 : Int32))) (v2 + (1 : Int32)) D

set_option maxRecDepth 20000 in
theorem e_X6_ones (l : Launch) (E : eE) (d : Nat) (x1 : Int32) (D : dT) : ev l E d yX6_ones cX6_ones 3 (some .int) 0 [(0, .inl x1)] [] D eI (F_X6_ones x1 D) := by
  unfold F_X6_ones
  refine ev_s (fun Q k => rn_iconst (v := 0) (by decide) dX6_ones_0 k) ?_
  refine ev_s (fun Q k => rn_istore_n (j := 1) (ls' := [(1, .inl (0 : Int32)), (0, .inl x1)]) rfl (by decide) rfl dX6_ones_1 k) ?_
  refine ev_s (fun Q k => rn_iconst (v := 0) (by decide) dX6_ones_2 k) ?_
  refine ev_s (fun Q k => rn_istore_n (j := 2) (ls' := [(2, .inl (0 : Int32)), (1, .inl (0 : Int32)), (0, .inl x1)]) rfl (by decide) rfl dX6_ones_3 k) ?_
  refine ev_s (fun Q k => rn_sub (ls' := [(0, .inl x1), (1, .inl (0 : Int32)), (2, .inl (0 : Int32))]) [2, 1, 0] rfl k) ?_
  exact e_X6_ones_4 l E d x1  lim (0 : Int32) (0 : Int32) D

def F_X6_busy_37  (k4 : Int32 → Int32 → dT → Option (Int32 × dT)) (v2 : Int32) (s0 : Int32) (s1 : Int32) (D : dT) : Option (Int32 × dT) := k4 (s1 ||| s0) (v2 + (1 : Int32)) D
def F_X6_busy_4 (fuel : Nat)   (v1 : Int32) (v2 : Int32) (D : dT) : Option (Int32 × dT) := match fuel with
  | 0 => none
  | fu + 1 => if inR (6 : Int32) 244 then if (D 379 (6 : Int32).toNatClampNeg) ≤ v2 then some (v1, D) else bd (F_X6_ofJobs v2 (5 : Int32) D) (fun (r2 : Int32) (D3 : dT) => if r2 = (1 : Int32) then bd (F_X6_ofJobs v2 (7 : Int32) D3) (fun (r4 : Int32) (D5 : dT) => F_X6_busy_37 (fun (v1_ : Int32) (v2_ : Int32) (D_ : dT) => F_X6_busy_4 fu v1_ v2_ D_) v2 r4 v1 D5) else F_X6_busy_37 (fun (v1_ : Int32) (v2_ : Int32) (D_ : dT) => F_X6_busy_4 fu v1_ v2_ D_) v2 (0 : Int32) v1 D3) else none
def F_X6_busy  (D : dT) : Option (Int32 × dT) := F_X6_busy_4 lim (0 : Int32) (0 : Int32) D
set_option maxRecDepth 20000 in
theorem e_X6_busy_37 (l : Launch) (E : eE) (d : Nat)  (k4 : Int32 → Int32 → dT → Option (Int32 × dT)) (hk4 : ∀ (v1 : Int32) (v2 : Int32) (D : dT), ev l E (d + 1) yX6_busy cX6_busy 3 (some .int) 4 [(0, .inr (.inr 378)), (1, .inl v1), (2, .inl v2)] [] D eI (k4 v1 v2 D)) (v2 : Int32) (s0 : Int32) (s1 : Int32) (D : dT) : ev l E (d + 1) yX6_busy cX6_busy 3 (some .int) 37 [(0, .inr (.inr 378)), (2, .inl v2)] [.inl s0, .inl s1] D eI (F_X6_busy_37 k4 v2 s0 s1 D) := by
  unfold F_X6_busy_37
  refine ev_s (fun Q k => rn_ior dX6_busy_37 k) ?_
  refine ev_s (fun Q k => rn_istore_n (j := 1) (ls' := [(1, .inl (s1 ||| s0)), (0, .inr (.inr 378)), (2, .inl v2)]) rfl (by decide) rfl dX6_busy_38 k) ?_
  refine ev_s (fun Q k => rn_iinc (v := (v2 + (1 : Int32))) (ls' := [(2, .inl (v2 + (1 : Int32))), (1, .inl (s1 ||| s0)), (0, .inr (.inr 378))]) 2 rfl rfl (by decide) rfl dX6_busy_39 k) ?_
  refine ev_s (fun Q k => rn_goto (tgt := 4) dX6_busy_42 (by decide) k) ?_
  refine ev_s (fun Q k => rn_sub (ls' := [(0, .inr (.inr 378)), (1, .inl (s1 ||| s0)), (2, .inl (v2 + (1 : Int32)))]) [2, 1, 0] rfl k) ?_
  exact hk4 (s1 ||| s0) (v2 + (1 : Int32)) D

set_option maxRecDepth 20000 in
theorem e_X6_busy_4 (l : Launch) (E : eE) (d : Nat)   (fuel : Nat) : ∀ (v1 : Int32) (v2 : Int32) (D : dT), ev l E (d + 1) yX6_busy cX6_busy 3 (some .int) 4 [(0, .inr (.inr 378)), (1, .inl v1), (2, .inl v2)] [] D eI (F_X6_busy_4 fuel v1 v2 D) := by
  induction fuel with
  | zero =>
    intro v1 v2 D
    exact ev_none
  | succ fu ih =>
    intro v1 v2 D
    rw [F_X6_busy_4]
    refine ev_s (fun Q k => rn_iload_n (j := 2) 2 rfl rfl dX6_busy_4 k) ?_
    refine ev_s (fun Q k => rn_aload_n (j := 0) 0 rfl rfl (okO_0 ok_378) dX6_busy_5 k) ?_
    refine ev_s (fun Q k => rn_getr (q := 379) f_X6_7 ok_378.1 ok_378.2.1 (okO_1 ok_378) rfl rfl dX6_busy_6 k) ?_
    refine ev_s (fun Q k => rn_bipush (v := 6) (by decide) dX6_busy_9 k) ?_
    refine ev_gd (fun g1 => ?_)
    refine ev_s (fun Q k => rn_iald ok_379.1 ok_379.2.1 ok_379.2.2 (inR_vp g1) dX6_busy_11 k) ?_
    refine ev_if (fun Q => rn_icmp_ge (tgt := 45) dX6_busy_12 (by decide)) (fun c8 => ?_) (fun c9 => ?_)
    · refine ev_s (fun Q k => rn_iload_n (j := 1) 1 rfl rfl dX6_busy_45 k) ?_
      exact ev_ret (fun Q q => rn_ret q .int rfl rfl dX6_busy_46)
    · refine ev_s (fun Q k => rn_iload_n (j := 1) 1 rfl rfl dX6_busy_15 k) ?_
      refine ev_s (fun Q k => rn_aload_n (j := 0) 0 rfl rfl (okO_0 ok_378) dX6_busy_16 k) ?_
      refine ev_s (fun Q k => rn_iload_n (j := 2) 2 rfl rfl dX6_busy_17 k) ?_
      refine ev_s (fun Q k => rn_iconst (v := 5) (by decide) dX6_busy_18 k) ?_
      refine ev_bindI (as := [.inr (.inr 378), .inl v2, .inl (5 : Int32)]) (fun Q Q1 => rn_callV (as := [.inl v2, .inl (5 : Int32)]) (rest := [.inl v1]) (o := 378) m_X6_43 dX6_busy_19 (rcv_own ok_378.1 ok_378.2.1 (by decide) (okO_1 ok_378)) rfl rfl (Nat.le_of_ble_eq_true rfl)) pl_X6_ofJobs (Nat.le_of_ble_eq_true rfl) rfl (e_X6_ofJobs l E d v2 (5 : Int32) D) (fun r2 D3 => ?_)
      refine ev_s (fun Q k => rn_iconst (v := 1) (by decide) dX6_busy_22 k) ?_
      refine ev_if (fun Q => rn_icmp_ne (tgt := 36) dX6_busy_23 (by decide)) (fun c6 => ?_) (fun c7 => ?_)
      · refine ev_s (fun Q k => rn_aload_n (j := 0) 0 rfl rfl (okO_0 ok_378) dX6_busy_26 k) ?_
        refine ev_s (fun Q k => rn_iload_n (j := 2) 2 rfl rfl dX6_busy_27 k) ?_
        refine ev_s (fun Q k => rn_bipush (v := 7) (by decide) dX6_busy_28 k) ?_
        refine ev_bindI (as := [.inr (.inr 378), .inl v2, .inl (7 : Int32)]) (fun Q Q1 => rn_callV (as := [.inl v2, .inl (7 : Int32)]) (rest := [.inl v1]) (o := 378) m_X6_43 dX6_busy_30 (rcv_own ok_378.1 ok_378.2.1 (by decide) (okO_1 ok_378)) rfl rfl (Nat.le_of_ble_eq_true rfl)) pl_X6_ofJobs (Nat.le_of_ble_eq_true rfl) rfl (e_X6_ofJobs l E d v2 (7 : Int32) D3) (fun r4 D5 => ?_)
        refine ev_s (fun Q k => rn_goto (tgt := 37) dX6_busy_33 (by decide) k) ?_
        refine ev_s (fun Q k => rn_sub (ls' := [(0, .inr (.inr 378)), (2, .inl v2)]) [0, 2] rfl k) ?_
        exact e_X6_busy_37 l E d  (fun (v1_ : Int32) (v2_ : Int32) (D_ : dT) => F_X6_busy_4 fu v1_ v2_ D_) (fun v1_ v2_ D_ => ih v1_ v2_ D_)  v2 r4 v1 D5
      · refine ev_s (fun Q k => rn_iconst (v := 0) (by decide) dX6_busy_36 k) ?_
        refine ev_s (fun Q k => rn_sub (ls' := [(0, .inr (.inr 378)), (2, .inl v2)]) [0, 2] rfl k) ?_
        exact e_X6_busy_37 l E d  (fun (v1_ : Int32) (v2_ : Int32) (D_ : dT) => F_X6_busy_4 fu v1_ v2_ D_) (fun v1_ v2_ D_ => ih v1_ v2_ D_)  v2 (0 : Int32) v1 D3

set_option maxRecDepth 20000 in
theorem e_X6_busy (l : Launch) (E : eE) (d : Nat)  (D : dT) : ev l E (d + 1) yX6_busy cX6_busy 3 (some .int) 0 [(0, .inr (.inr 378))] [] D eI (F_X6_busy D) := by
  unfold F_X6_busy
  refine ev_s (fun Q k => rn_iconst (v := 0) (by decide) dX6_busy_0 k) ?_
  refine ev_s (fun Q k => rn_istore_n (j := 1) (ls' := [(1, .inl (0 : Int32)), (0, .inr (.inr 378))]) rfl (by decide) rfl dX6_busy_1 k) ?_
  refine ev_s (fun Q k => rn_iconst (v := 0) (by decide) dX6_busy_2 k) ?_
  refine ev_s (fun Q k => rn_istore_n (j := 2) (ls' := [(2, .inl (0 : Int32)), (1, .inl (0 : Int32)), (0, .inr (.inr 378))]) rfl (by decide) rfl dX6_busy_3 k) ?_
  refine ev_s (fun Q k => rn_sub (ls' := [(0, .inr (.inr 378)), (1, .inl (0 : Int32)), (2, .inl (0 : Int32))]) [2, 1, 0] rfl k) ?_
  exact e_X6_busy_4 l E d   lim (0 : Int32) (0 : Int32) D

def F_X6_freeStraps_50 (x1 : Int32) (k12 : Int32 → Int32 → dT → Option (Int32 × dT)) (v3 : Int32) (s0 : Int32) (s1 : Int32) (D : dT) : Option (Int32 × dT) := k12 (s1 - s0) (v3 + (1 : Int32)) D
def F_X6_freeStraps_49 (x1 : Int32) (k12 : Int32 → Int32 → dT → Option (Int32 × dT)) (v3 : Int32) (s0 : Int32) (D : dT) : Option (Int32 × dT) := F_X6_freeStraps_50 x1 k12 v3 (0 : Int32) s0 D
def F_X6_freeStraps_12 (fuel : Nat) (x1 : Int32)  (v2 : Int32) (v3 : Int32) (D : dT) : Option (Int32 × dT) := match fuel with
  | 0 => none
  | fu + 1 => if inR (6 : Int32) 244 then if (D 379 (6 : Int32).toNatClampNeg) ≤ v3 then some (v2, D) else bd (F_X6_ofJobs v3 (5 : Int32) D) (fun (r2 : Int32) (D3 : dT) => if r2 = (1 : Int32) then bd (F_X6_ofJobs v3 (8 : Int32) D3) (fun (r4 : Int32) (D5 : dT) => if r4 = x1 then F_X6_freeStraps_50 x1 (fun (v2_ : Int32) (v3_ : Int32) (D_ : dT) => F_X6_freeStraps_12 fu x1 v2_ v3_ D_) v3 (1 : Int32) v2 D5 else F_X6_freeStraps_49 x1 (fun (v2_ : Int32) (v3_ : Int32) (D_ : dT) => F_X6_freeStraps_12 fu x1 v2_ v3_ D_) v3 v2 D5) else F_X6_freeStraps_49 x1 (fun (v2_ : Int32) (v3_ : Int32) (D_ : dT) => F_X6_freeStraps_12 fu x1 v2_ v3_ D_) v3 v2 D3) else none
def F_X6_freeStraps (x1 : Int32) (D : dT) : Option (Int32 × dT) := if inR ((9 : Int32) + x1) 244 then F_X6_freeStraps_12 lim x1 (D 379 ((9 : Int32) + x1).toNatClampNeg) (0 : Int32) D else none
set_option maxRecDepth 20000 in
theorem e_X6_freeStraps_50 (l : Launch) (E : eE) (d : Nat) (x1 : Int32) (k12 : Int32 → Int32 → dT → Option (Int32 × dT)) (hk12 : ∀ (v2 : Int32) (v3 : Int32) (D : dT), ev l E (d + 1) yX6_freeStraps cX6_freeStraps 4 (some .int) 12 [(0, .inr (.inr 378)), (1, .inl x1), (2, .inl v2), (3, .inl v3)] [] D eI (k12 v2 v3 D)) (v3 : Int32) (s0 : Int32) (s1 : Int32) (D : dT) : ev l E (d + 1) yX6_freeStraps cX6_freeStraps 4 (some .int) 50 [(0, .inr (.inr 378)), (1, .inl x1), (3, .inl v3)] [.inl s0, .inl s1] D eI (F_X6_freeStraps_50 x1 k12 v3 s0 s1 D) := by
  unfold F_X6_freeStraps_50
  refine ev_s (fun Q k => rn_isub dX6_freeStraps_50 k) ?_
  refine ev_s (fun Q k => rn_istore_n (j := 2) (ls' := [(2, .inl (s1 - s0)), (0, .inr (.inr 378)), (1, .inl x1), (3, .inl v3)]) rfl (by decide) rfl dX6_freeStraps_51 k) ?_
  refine ev_s (fun Q k => rn_iinc (v := (v3 + (1 : Int32))) (ls' := [(3, .inl (v3 + (1 : Int32))), (2, .inl (s1 - s0)), (0, .inr (.inr 378)), (1, .inl x1)]) 3 rfl rfl (by decide) rfl dX6_freeStraps_52 k) ?_
  refine ev_s (fun Q k => rn_goto (tgt := 12) dX6_freeStraps_55 (by decide) k) ?_
  refine ev_s (fun Q k => rn_sub (ls' := [(0, .inr (.inr 378)), (1, .inl x1), (2, .inl (s1 - s0)), (3, .inl (v3 + (1 : Int32)))]) [2, 3, 1, 0] rfl k) ?_
  exact hk12 (s1 - s0) (v3 + (1 : Int32)) D

set_option maxRecDepth 20000 in
theorem e_X6_freeStraps_49 (l : Launch) (E : eE) (d : Nat) (x1 : Int32) (k12 : Int32 → Int32 → dT → Option (Int32 × dT)) (hk12 : ∀ (v2 : Int32) (v3 : Int32) (D : dT), ev l E (d + 1) yX6_freeStraps cX6_freeStraps 4 (some .int) 12 [(0, .inr (.inr 378)), (1, .inl x1), (2, .inl v2), (3, .inl v3)] [] D eI (k12 v2 v3 D)) (v3 : Int32) (s0 : Int32) (D : dT) : ev l E (d + 1) yX6_freeStraps cX6_freeStraps 4 (some .int) 49 [(0, .inr (.inr 378)), (1, .inl x1), (3, .inl v3)] [.inl s0] D eI (F_X6_freeStraps_49 x1 k12 v3 s0 D) := by
  unfold F_X6_freeStraps_49
  refine ev_s (fun Q k => rn_iconst (v := 0) (by decide) dX6_freeStraps_49 k) ?_
  exact e_X6_freeStraps_50 l E d x1 k12 hk12  v3 (0 : Int32) s0 D

set_option maxRecDepth 20000 in
theorem e_X6_freeStraps_12 (l : Launch) (E : eE) (d : Nat) (x1 : Int32)  (fuel : Nat) : ∀ (v2 : Int32) (v3 : Int32) (D : dT), ev l E (d + 1) yX6_freeStraps cX6_freeStraps 4 (some .int) 12 [(0, .inr (.inr 378)), (1, .inl x1), (2, .inl v2), (3, .inl v3)] [] D eI (F_X6_freeStraps_12 fuel x1 v2 v3 D) := by
  induction fuel with
  | zero =>
    intro v2 v3 D
    exact ev_none
  | succ fu ih =>
    intro v2 v3 D
    rw [F_X6_freeStraps_12]
    refine ev_s (fun Q k => rn_iload_n (j := 3) 3 rfl rfl dX6_freeStraps_12 k) ?_
    refine ev_s (fun Q k => rn_aload_n (j := 0) 0 rfl rfl (okO_0 ok_378) dX6_freeStraps_13 k) ?_
    refine ev_s (fun Q k => rn_getr (q := 379) f_X6_7 ok_378.1 ok_378.2.1 (okO_1 ok_378) rfl rfl dX6_freeStraps_14 k) ?_
    refine ev_s (fun Q k => rn_bipush (v := 6) (by decide) dX6_freeStraps_17 k) ?_
    refine ev_gd (fun g1 => ?_)
    refine ev_s (fun Q k => rn_iald ok_379.1 ok_379.2.1 ok_379.2.2 (inR_vp g1) dX6_freeStraps_19 k) ?_
    refine ev_if (fun Q => rn_icmp_ge (tgt := 58) dX6_freeStraps_20 (by decide)) (fun c10 => ?_) (fun c11 => ?_)
    · refine ev_s (fun Q k => rn_iload_n (j := 2) 2 rfl rfl dX6_freeStraps_58 k) ?_
      exact ev_ret (fun Q q => rn_ret q .int rfl rfl dX6_freeStraps_59)
    · refine ev_s (fun Q k => rn_iload_n (j := 2) 2 rfl rfl dX6_freeStraps_23 k) ?_
      refine ev_s (fun Q k => rn_aload_n (j := 0) 0 rfl rfl (okO_0 ok_378) dX6_freeStraps_24 k) ?_
      refine ev_s (fun Q k => rn_iload_n (j := 3) 3 rfl rfl dX6_freeStraps_25 k) ?_
      refine ev_s (fun Q k => rn_iconst (v := 5) (by decide) dX6_freeStraps_26 k) ?_
      refine ev_bindI (as := [.inr (.inr 378), .inl v3, .inl (5 : Int32)]) (fun Q Q1 => rn_callV (as := [.inl v3, .inl (5 : Int32)]) (rest := [.inl v2]) (o := 378) m_X6_43 dX6_freeStraps_27 (rcv_own ok_378.1 ok_378.2.1 (by decide) (okO_1 ok_378)) rfl rfl (Nat.le_of_ble_eq_true rfl)) pl_X6_ofJobs (Nat.le_of_ble_eq_true rfl) rfl (e_X6_ofJobs l E d v3 (5 : Int32) D) (fun r2 D3 => ?_)
      refine ev_s (fun Q k => rn_iconst (v := 1) (by decide) dX6_freeStraps_30 k) ?_
      refine ev_if (fun Q => rn_icmp_ne (tgt := 49) dX6_freeStraps_31 (by decide)) (fun c8 => ?_) (fun c9 => ?_)
      · refine ev_s (fun Q k => rn_aload_n (j := 0) 0 rfl rfl (okO_0 ok_378) dX6_freeStraps_34 k) ?_
        refine ev_s (fun Q k => rn_iload_n (j := 3) 3 rfl rfl dX6_freeStraps_35 k) ?_
        refine ev_s (fun Q k => rn_bipush (v := 8) (by decide) dX6_freeStraps_36 k) ?_
        refine ev_bindI (as := [.inr (.inr 378), .inl v3, .inl (8 : Int32)]) (fun Q Q1 => rn_callV (as := [.inl v3, .inl (8 : Int32)]) (rest := [.inl v2]) (o := 378) m_X6_43 dX6_freeStraps_38 (rcv_own ok_378.1 ok_378.2.1 (by decide) (okO_1 ok_378)) rfl rfl (Nat.le_of_ble_eq_true rfl)) pl_X6_ofJobs (Nat.le_of_ble_eq_true rfl) rfl (e_X6_ofJobs l E d v3 (8 : Int32) D3) (fun r4 D5 => ?_)
        refine ev_s (fun Q k => rn_iload_n (j := 1) 1 rfl rfl dX6_freeStraps_41 k) ?_
        refine ev_if (fun Q => rn_icmp_ne (tgt := 49) dX6_freeStraps_42 (by decide)) (fun c6 => ?_) (fun c7 => ?_)
        · refine ev_s (fun Q k => rn_iconst (v := 1) (by decide) dX6_freeStraps_45 k) ?_
          refine ev_s (fun Q k => rn_goto (tgt := 50) dX6_freeStraps_46 (by decide) k) ?_
          refine ev_s (fun Q k => rn_sub (ls' := [(0, .inr (.inr 378)), (1, .inl x1), (3, .inl v3)]) [0, 1, 3] rfl k) ?_
          exact e_X6_freeStraps_50 l E d x1 (fun (v2_ : Int32) (v3_ : Int32) (D_ : dT) => F_X6_freeStraps_12 fu x1 v2_ v3_ D_) (fun v2_ v3_ D_ => ih v2_ v3_ D_)  v3 (1 : Int32) v2 D5
        · refine ev_s (fun Q k => rn_sub (ls' := [(0, .inr (.inr 378)), (1, .inl x1), (3, .inl v3)]) [0, 1, 3] rfl k) ?_
          exact e_X6_freeStraps_49 l E d x1 (fun (v2_ : Int32) (v3_ : Int32) (D_ : dT) => F_X6_freeStraps_12 fu x1 v2_ v3_ D_) (fun v2_ v3_ D_ => ih v2_ v3_ D_)  v3 v2 D5
      · refine ev_s (fun Q k => rn_sub (ls' := [(0, .inr (.inr 378)), (1, .inl x1), (3, .inl v3)]) [0, 1, 3] rfl k) ?_
        exact e_X6_freeStraps_49 l E d x1 (fun (v2_ : Int32) (v3_ : Int32) (D_ : dT) => F_X6_freeStraps_12 fu x1 v2_ v3_ D_) (fun v2_ v3_ D_ => ih v2_ v3_ D_)  v3 v2 D3

set_option maxRecDepth 20000 in
theorem e_X6_freeStraps (l : Launch) (E : eE) (d : Nat) (x1 : Int32) (D : dT) : ev l E (d + 1) yX6_freeStraps cX6_freeStraps 4 (some .int) 0 [(0, .inr (.inr 378)), (1, .inl x1)] [] D eI (F_X6_freeStraps x1 D) := by
  unfold F_X6_freeStraps
  refine ev_s (fun Q k => rn_aload_n (j := 0) 0 rfl rfl (okO_0 ok_378) dX6_freeStraps_0 k) ?_
  refine ev_s (fun Q k => rn_getr (q := 379) f_X6_7 ok_378.1 ok_378.2.1 (okO_1 ok_378) rfl rfl dX6_freeStraps_1 k) ?_
  refine ev_s (fun Q k => rn_bipush (v := 9) (by decide) dX6_freeStraps_4 k) ?_
  refine ev_s (fun Q k => rn_iload_n (j := 1) 1 rfl rfl dX6_freeStraps_6 k) ?_
  refine ev_s (fun Q k => rn_iadd dX6_freeStraps_7 k) ?_
  refine ev_gd (fun g1 => ?_)
  refine ev_s (fun Q k => rn_iald ok_379.1 ok_379.2.1 ok_379.2.2 (inR_vp g1) dX6_freeStraps_8 k) ?_
  refine ev_s (fun Q k => rn_istore_n (j := 2) (ls' := [(2, .inl (D 379 ((9 : Int32) + x1).toNatClampNeg)), (0, .inr (.inr 378)), (1, .inl x1)]) rfl (by decide) rfl dX6_freeStraps_9 k) ?_
  refine ev_s (fun Q k => rn_iconst (v := 0) (by decide) dX6_freeStraps_10 k) ?_
  refine ev_s (fun Q k => rn_istore_n (j := 3) (ls' := [(3, .inl (0 : Int32)), (2, .inl (D 379 ((9 : Int32) + x1).toNatClampNeg)), (0, .inr (.inr 378)), (1, .inl x1)]) rfl (by decide) rfl dX6_freeStraps_11 k) ?_
  refine ev_s (fun Q k => rn_sub (ls' := [(0, .inr (.inr 378)), (1, .inl x1), (2, .inl (D 379 ((9 : Int32) + x1).toNatClampNeg)), (3, .inl (0 : Int32))]) [2, 3, 1, 0] rfl k) ?_
  exact e_X6_freeStraps_12 l E d x1  lim (D 379 ((9 : Int32) + x1).toNatClampNeg) (0 : Int32) D

def F_X6_canHave (x1 : Int32) (x2 : Int32) (D : dT) : Option (Int32 × dT) := if x2 = (-6 : Int32) then some ((1 : Int32), D) else bd (F_X6_freeStraps x2 D) (fun (r1 : Int32) (D2 : dT) => if r1 ≤ 0 then some ((0 : Int32), D2) else if x2 = (2 : Int32) then bd (F_X6_ofJobs x1 (1 : Int32) D2) (fun (r3 : Int32) (D4 : dT) => if r3 = 0 then some ((1 : Int32), D4) else some ((0 : Int32), D4)) else some ((1 : Int32), D2))
set_option maxRecDepth 20000 in
theorem e_X6_canHave (l : Launch) (E : eE) (d : Nat) (x1 : Int32) (x2 : Int32) (D : dT) : ev l E (d + 2) yX6_canHave cX6_canHave 3 (some .boolean) 0 [(0, .inr (.inr 378)), (1, .inl x1), (2, .inl x2)] [] D eI (F_X6_canHave x1 x2 D) := by
  unfold F_X6_canHave
  refine ev_s (fun Q k => rn_iload_n (j := 2) 2 rfl rfl dX6_canHave_0 k) ?_
  refine ev_s (fun Q k => rn_bipush (v := -6) (by decide) dX6_canHave_1 k) ?_
  refine ev_if (fun Q => rn_icmp_eq (tgt := 28) dX6_canHave_3 (by decide)) (fun c11 => ?_) (fun c12 => ?_)
  · refine ev_s (fun Q k => rn_iconst (v := 1) (by decide) dX6_canHave_28 k) ?_
    refine ev_s (fun Q k => rn_goto (tgt := 33) dX6_canHave_29 (by decide) k) ?_
    exact ev_ret (fun Q q => rn_ret q .boolean rfl rfl dX6_canHave_33)
  · refine ev_s (fun Q k => rn_aload_n (j := 0) 0 rfl rfl (okO_0 ok_378) dX6_canHave_6 k) ?_
    refine ev_s (fun Q k => rn_iload_n (j := 2) 2 rfl rfl dX6_canHave_7 k) ?_
    refine ev_bindI (as := [.inr (.inr 378), .inl x2]) (fun Q Q1 => rn_callV (as := [.inl x2]) (rest := []) (o := 378) m_X6_50 dX6_canHave_8 (rcv_own ok_378.1 ok_378.2.1 (by decide) (okO_1 ok_378)) rfl rfl (Nat.le_of_ble_eq_true rfl)) pl_X6_freeStraps (Nat.le_of_ble_eq_true rfl) rfl (e_X6_freeStraps l E d x2 D) (fun r1 D2 => ?_)
    refine ev_if (fun Q => rn_if_le (tgt := 32) dX6_canHave_11 (by decide)) (fun c9 => ?_) (fun c10 => ?_)
    · refine ev_s (fun Q k => rn_iconst (v := 0) (by decide) dX6_canHave_32 k) ?_
      exact ev_ret (fun Q q => rn_ret q .boolean rfl rfl dX6_canHave_33)
    · refine ev_s (fun Q k => rn_iload_n (j := 2) 2 rfl rfl dX6_canHave_14 k) ?_
      refine ev_s (fun Q k => rn_iconst (v := 2) (by decide) dX6_canHave_15 k) ?_
      refine ev_if (fun Q => rn_icmp_ne (tgt := 28) dX6_canHave_16 (by decide)) (fun c7 => ?_) (fun c8 => ?_)
      · refine ev_s (fun Q k => rn_aload_n (j := 0) 0 rfl rfl (okO_0 ok_378) dX6_canHave_19 k) ?_
        refine ev_s (fun Q k => rn_iload_n (j := 1) 1 rfl rfl dX6_canHave_20 k) ?_
        refine ev_s (fun Q k => rn_iconst (v := 1) (by decide) dX6_canHave_21 k) ?_
        refine ev_bindI (as := [.inr (.inr 378), .inl x1, .inl (1 : Int32)]) (fun Q Q1 => rn_callV (as := [.inl x1, .inl (1 : Int32)]) (rest := []) (o := 378) m_X6_43 dX6_canHave_22 (rcv_own ok_378.1 ok_378.2.1 (by decide) (okO_1 ok_378)) rfl rfl (Nat.le_of_ble_eq_true rfl)) pl_X6_ofJobs (Nat.le_of_ble_eq_true rfl) rfl (e_X6_ofJobs l E (d + 1) x1 (1 : Int32) D2) (fun r3 D4 => ?_)
        refine ev_if (fun Q => rn_if_ne (tgt := 32) dX6_canHave_25 (by decide)) (fun c5 => ?_) (fun c6 => ?_)
        · refine ev_s (fun Q k => rn_iconst (v := 1) (by decide) dX6_canHave_28 k) ?_
          refine ev_s (fun Q k => rn_goto (tgt := 33) dX6_canHave_29 (by decide) k) ?_
          exact ev_ret (fun Q q => rn_ret q .boolean rfl rfl dX6_canHave_33)
        · refine ev_s (fun Q k => rn_iconst (v := 0) (by decide) dX6_canHave_32 k) ?_
          exact ev_ret (fun Q q => rn_ret q .boolean rfl rfl dX6_canHave_33)
      · refine ev_s (fun Q k => rn_iconst (v := 1) (by decide) dX6_canHave_28 k) ?_
        refine ev_s (fun Q k => rn_goto (tgt := 33) dX6_canHave_29 (by decide) k) ?_
        exact ev_ret (fun Q q => rn_ret q .boolean rfl rfl dX6_canHave_33)

def F_X6_ofPerson (x1 : Int32) (x2 : Int32) (D : dT) : Option (Int32 × dT) := if inR (((12 : Int32) + ((4 : Int32) * x1)) + x2) 244 then some ((D 379 (((12 : Int32) + ((4 : Int32) * x1)) + x2).toNatClampNeg), D) else none
set_option maxRecDepth 20000 in
theorem e_X6_ofPerson (l : Launch) (E : eE) (d : Nat) (x1 : Int32) (x2 : Int32) (D : dT) : ev l E d yX6_ofPerson cX6_ofPerson 3 (some .int) 0 [(0, .inr (.inr 378)), (1, .inl x1), (2, .inl x2)] [] D eI (F_X6_ofPerson x1 x2 D) := by
  unfold F_X6_ofPerson
  refine ev_s (fun Q k => rn_aload_n (j := 0) 0 rfl rfl (okO_0 ok_378) dX6_ofPerson_0 k) ?_
  refine ev_s (fun Q k => rn_getr (q := 379) f_X6_7 ok_378.1 ok_378.2.1 (okO_1 ok_378) rfl rfl dX6_ofPerson_1 k) ?_
  refine ev_s (fun Q k => rn_bipush (v := 12) (by decide) dX6_ofPerson_4 k) ?_
  refine ev_s (fun Q k => rn_iconst (v := 4) (by decide) dX6_ofPerson_6 k) ?_
  refine ev_s (fun Q k => rn_iload_n (j := 1) 1 rfl rfl dX6_ofPerson_7 k) ?_
  refine ev_s (fun Q k => rn_imul dX6_ofPerson_8 k) ?_
  refine ev_s (fun Q k => rn_iadd dX6_ofPerson_9 k) ?_
  refine ev_s (fun Q k => rn_iload_n (j := 2) 2 rfl rfl dX6_ofPerson_10 k) ?_
  refine ev_s (fun Q k => rn_iadd dX6_ofPerson_11 k) ?_
  refine ev_gd (fun g1 => ?_)
  refine ev_s (fun Q k => rn_iald ok_379.1 ok_379.2.1 ok_379.2.2 (inR_vp g1) dX6_ofPerson_12 k) ?_
  exact ev_ret (fun Q q => rn_ret q .int rfl rfl dX6_ofPerson_13)

def F_X6_strength_34 (x1 : Int32) (k4 : Int32 → Int32 → dT → Option (Int32 × dT)) (v3 : Int32) (s0 : Int32) (s1 : Int32) (D : dT) : Option (Int32 × dT) := k4 (s1 + s0) (v3 + (1 : Int32)) D
def F_X6_strength_4 (fuel : Nat) (x1 : Int32)  (v2 : Int32) (v3 : Int32) (D : dT) : Option (Int32 × dT) := match fuel with
  | 0 => none
  | fu + 1 => if inR (5 : Int32) 244 then if (D 379 (5 : Int32).toNatClampNeg) ≤ v3 then some (v2, D) else if ((x1 >>> (v3 &&& 31)) &&& (1 : Int32)) = (1 : Int32) then bd (F_X6_ofPerson v3 (1 : Int32) D) (fun (r2 : Int32) (D3 : dT) => F_X6_strength_34 x1 (fun (v2_ : Int32) (v3_ : Int32) (D_ : dT) => F_X6_strength_4 fu x1 v2_ v3_ D_) v3 r2 v2 D3) else F_X6_strength_34 x1 (fun (v2_ : Int32) (v3_ : Int32) (D_ : dT) => F_X6_strength_4 fu x1 v2_ v3_ D_) v3 (0 : Int32) v2 D else none
def F_X6_strength (x1 : Int32) (D : dT) : Option (Int32 × dT) := F_X6_strength_4 lim x1 (0 : Int32) (0 : Int32) D
set_option maxRecDepth 20000 in
theorem e_X6_strength_34 (l : Launch) (E : eE) (d : Nat) (x1 : Int32) (k4 : Int32 → Int32 → dT → Option (Int32 × dT)) (hk4 : ∀ (v2 : Int32) (v3 : Int32) (D : dT), ev l E (d + 1) yX6_strength cX6_strength 4 (some .int) 4 [(0, .inr (.inr 378)), (1, .inl x1), (2, .inl v2), (3, .inl v3)] [] D eI (k4 v2 v3 D)) (v3 : Int32) (s0 : Int32) (s1 : Int32) (D : dT) : ev l E (d + 1) yX6_strength cX6_strength 4 (some .int) 34 [(0, .inr (.inr 378)), (1, .inl x1), (3, .inl v3)] [.inl s0, .inl s1] D eI (F_X6_strength_34 x1 k4 v3 s0 s1 D) := by
  unfold F_X6_strength_34
  refine ev_s (fun Q k => rn_iadd dX6_strength_34 k) ?_
  refine ev_s (fun Q k => rn_istore_n (j := 2) (ls' := [(2, .inl (s1 + s0)), (0, .inr (.inr 378)), (1, .inl x1), (3, .inl v3)]) rfl (by decide) rfl dX6_strength_35 k) ?_
  refine ev_s (fun Q k => rn_iinc (v := (v3 + (1 : Int32))) (ls' := [(3, .inl (v3 + (1 : Int32))), (2, .inl (s1 + s0)), (0, .inr (.inr 378)), (1, .inl x1)]) 3 rfl rfl (by decide) rfl dX6_strength_36 k) ?_
  refine ev_s (fun Q k => rn_goto (tgt := 4) dX6_strength_39 (by decide) k) ?_
  refine ev_s (fun Q k => rn_sub (ls' := [(0, .inr (.inr 378)), (1, .inl x1), (2, .inl (s1 + s0)), (3, .inl (v3 + (1 : Int32)))]) [2, 3, 1, 0] rfl k) ?_
  exact hk4 (s1 + s0) (v3 + (1 : Int32)) D

set_option maxRecDepth 20000 in
theorem e_X6_strength_4 (l : Launch) (E : eE) (d : Nat) (x1 : Int32)  (fuel : Nat) : ∀ (v2 : Int32) (v3 : Int32) (D : dT), ev l E (d + 1) yX6_strength cX6_strength 4 (some .int) 4 [(0, .inr (.inr 378)), (1, .inl x1), (2, .inl v2), (3, .inl v3)] [] D eI (F_X6_strength_4 fuel x1 v2 v3 D) := by
  induction fuel with
  | zero =>
    intro v2 v3 D
    exact ev_none
  | succ fu ih =>
    intro v2 v3 D
    rw [F_X6_strength_4]
    refine ev_s (fun Q k => rn_iload_n (j := 3) 3 rfl rfl dX6_strength_4 k) ?_
    refine ev_s (fun Q k => rn_aload_n (j := 0) 0 rfl rfl (okO_0 ok_378) dX6_strength_5 k) ?_
    refine ev_s (fun Q k => rn_getr (q := 379) f_X6_7 ok_378.1 ok_378.2.1 (okO_1 ok_378) rfl rfl dX6_strength_6 k) ?_
    refine ev_s (fun Q k => rn_iconst (v := 5) (by decide) dX6_strength_9 k) ?_
    refine ev_gd (fun g1 => ?_)
    refine ev_s (fun Q k => rn_iald ok_379.1 ok_379.2.1 ok_379.2.2 (inR_vp g1) dX6_strength_10 k) ?_
    refine ev_if (fun Q => rn_icmp_ge (tgt := 42) dX6_strength_11 (by decide)) (fun c6 => ?_) (fun c7 => ?_)
    · refine ev_s (fun Q k => rn_iload_n (j := 2) 2 rfl rfl dX6_strength_42 k) ?_
      exact ev_ret (fun Q q => rn_ret q .int rfl rfl dX6_strength_43)
    · refine ev_s (fun Q k => rn_iload_n (j := 2) 2 rfl rfl dX6_strength_14 k) ?_
      refine ev_s (fun Q k => rn_iload_n (j := 1) 1 rfl rfl dX6_strength_15 k) ?_
      refine ev_s (fun Q k => rn_iload_n (j := 3) 3 rfl rfl dX6_strength_16 k) ?_
      refine ev_s (fun Q k => rn_ishr dX6_strength_17 k) ?_
      refine ev_s (fun Q k => rn_iconst (v := 1) (by decide) dX6_strength_18 k) ?_
      refine ev_s (fun Q k => rn_iand dX6_strength_19 k) ?_
      refine ev_s (fun Q k => rn_iconst (v := 1) (by decide) dX6_strength_20 k) ?_
      refine ev_if (fun Q => rn_icmp_ne (tgt := 33) dX6_strength_21 (by decide)) (fun c4 => ?_) (fun c5 => ?_)
      · refine ev_s (fun Q k => rn_aload_n (j := 0) 0 rfl rfl (okO_0 ok_378) dX6_strength_24 k) ?_
        refine ev_s (fun Q k => rn_iload_n (j := 3) 3 rfl rfl dX6_strength_25 k) ?_
        refine ev_s (fun Q k => rn_iconst (v := 1) (by decide) dX6_strength_26 k) ?_
        refine ev_bindI (as := [.inr (.inr 378), .inl v3, .inl (1 : Int32)]) (fun Q Q1 => rn_callV (as := [.inl v3, .inl (1 : Int32)]) (rest := [.inl v2]) (o := 378) m_X6_47 dX6_strength_27 (rcv_own ok_378.1 ok_378.2.1 (by decide) (okO_1 ok_378)) rfl rfl (Nat.le_of_ble_eq_true rfl)) pl_X6_ofPerson (Nat.le_of_ble_eq_true rfl) rfl (e_X6_ofPerson l E d v3 (1 : Int32) D) (fun r2 D3 => ?_)
        refine ev_s (fun Q k => rn_goto (tgt := 34) dX6_strength_30 (by decide) k) ?_
        refine ev_s (fun Q k => rn_sub (ls' := [(0, .inr (.inr 378)), (1, .inl x1), (3, .inl v3)]) [0, 1, 3] rfl k) ?_
        exact e_X6_strength_34 l E d x1 (fun (v2_ : Int32) (v3_ : Int32) (D_ : dT) => F_X6_strength_4 fu x1 v2_ v3_ D_) (fun v2_ v3_ D_ => ih v2_ v3_ D_)  v3 r2 v2 D3
      · refine ev_s (fun Q k => rn_iconst (v := 0) (by decide) dX6_strength_33 k) ?_
        refine ev_s (fun Q k => rn_sub (ls' := [(0, .inr (.inr 378)), (1, .inl x1), (3, .inl v3)]) [0, 1, 3] rfl k) ?_
        exact e_X6_strength_34 l E d x1 (fun (v2_ : Int32) (v3_ : Int32) (D_ : dT) => F_X6_strength_4 fu x1 v2_ v3_ D_) (fun v2_ v3_ D_ => ih v2_ v3_ D_)  v3 (0 : Int32) v2 D

set_option maxRecDepth 20000 in
theorem e_X6_strength (l : Launch) (E : eE) (d : Nat) (x1 : Int32) (D : dT) : ev l E (d + 1) yX6_strength cX6_strength 4 (some .int) 0 [(0, .inr (.inr 378)), (1, .inl x1)] [] D eI (F_X6_strength x1 D) := by
  unfold F_X6_strength
  refine ev_s (fun Q k => rn_iconst (v := 0) (by decide) dX6_strength_0 k) ?_
  refine ev_s (fun Q k => rn_istore_n (j := 2) (ls' := [(2, .inl (0 : Int32)), (0, .inr (.inr 378)), (1, .inl x1)]) rfl (by decide) rfl dX6_strength_1 k) ?_
  refine ev_s (fun Q k => rn_iconst (v := 0) (by decide) dX6_strength_2 k) ?_
  refine ev_s (fun Q k => rn_istore_n (j := 3) (ls' := [(3, .inl (0 : Int32)), (2, .inl (0 : Int32)), (0, .inr (.inr 378)), (1, .inl x1)]) rfl (by decide) rfl dX6_strength_3 k) ?_
  refine ev_s (fun Q k => rn_sub (ls' := [(0, .inr (.inr 378)), (1, .inl x1), (2, .inl (0 : Int32)), (3, .inl (0 : Int32))]) [2, 3, 1, 0] rfl k) ?_
  exact e_X6_strength_4 l E d x1  lim (0 : Int32) (0 : Int32) D

def F_X6_loadBy_56 (x1 : Int32) (x2 : Int32)  (v3 : Int32) (s0 : Int32) (D : dT) : Option (Int32 × dT) := if x2 = (-6 : Int32) then some (v3, D) else some (((v3 * ((100 : Int32) - s0)) / (100 : Int32)), D)
def F_X6_loadBy (x1 : Int32) (x2 : Int32) (D : dT) : Option (Int32 × dT) := bd (F_X6_ofJobs x1 (0 : Int32) D) (fun (r1 : Int32) (D2 : dT) => if inR (0 : Int32) 244 then bd (F_X6_ofJobs x1 (1 : Int32) D2) (fun (r4 : Int32) (D5 : dT) => if x2 = 0 then F_X6_loadBy_56 x1 x2 ((r1 * ((100 : Int32) + ((D2 379 (0 : Int32).toNatClampNeg) * r4))) / (100 : Int32)) (5 : Int32) D5 else if x2 = (1 : Int32) then F_X6_loadBy_56 x1 x2 ((r1 * ((100 : Int32) + ((D2 379 (0 : Int32).toNatClampNeg) * r4))) / (100 : Int32)) (10 : Int32) D5 else if x2 = (2 : Int32) then F_X6_loadBy_56 x1 x2 ((r1 * ((100 : Int32) + ((D2 379 (0 : Int32).toNatClampNeg) * r4))) / (100 : Int32)) (20 : Int32) D5 else F_X6_loadBy_56 x1 x2 ((r1 * ((100 : Int32) + ((D2 379 (0 : Int32).toNatClampNeg) * r4))) / (100 : Int32)) (0 : Int32) D5) else none)
set_option maxRecDepth 20000 in
theorem e_X6_loadBy_56 (l : Launch) (E : eE) (d : Nat) (x1 : Int32) (x2 : Int32)  (v3 : Int32) (s0 : Int32) (D : dT) : ev l E (d + 1) yX6_loadBy cX6_loadBy 5 (some .int) 56 [(2, .inl x2), (3, .inl v3)] [.inl s0] D eI (F_X6_loadBy_56 x1 x2 v3 s0 D) := by
  unfold F_X6_loadBy_56
  refine ev_s (fun Q k => rn_istore (j := 4) (ls' := [(4, .inl s0), (2, .inl x2), (3, .inl v3)]) (by decide) rfl dX6_loadBy_56 k) ?_
  refine ev_s (fun Q k => rn_iload_n (j := 2) 1 rfl rfl dX6_loadBy_58 k) ?_
  refine ev_s (fun Q k => rn_bipush (v := -6) (by decide) dX6_loadBy_59 k) ?_
  refine ev_if (fun Q => rn_icmp_ne (tgt := 68) dX6_loadBy_61 (by decide)) (fun c1 => ?_) (fun c2 => ?_)
  · refine ev_s (fun Q k => rn_iload_n (j := 3) 2 rfl rfl dX6_loadBy_64 k) ?_
    refine ev_s (fun Q k => rn_goto (tgt := 78) dX6_loadBy_65 (by decide) k) ?_
    exact ev_ret (fun Q q => rn_ret q .int rfl rfl dX6_loadBy_78)
  · refine ev_s (fun Q k => rn_iload_n (j := 3) 2 rfl rfl dX6_loadBy_68 k) ?_
    refine ev_s (fun Q k => rn_bipush (v := 100) (by decide) dX6_loadBy_69 k) ?_
    refine ev_s (fun Q k => rn_iload (j := 4) 0 rfl dX6_loadBy_71 k) ?_
    refine ev_s (fun Q k => rn_isub dX6_loadBy_73 k) ?_
    refine ev_s (fun Q k => rn_imul dX6_loadBy_74 k) ?_
    refine ev_s (fun Q k => rn_bipush (v := 100) (by decide) dX6_loadBy_75 k) ?_
    refine ev_s (fun Q k => rn_idiv (by decide) dX6_loadBy_77 k) ?_
    exact ev_ret (fun Q q => rn_ret q .int rfl rfl dX6_loadBy_78)

set_option maxRecDepth 20000 in
theorem e_X6_loadBy (l : Launch) (E : eE) (d : Nat) (x1 : Int32) (x2 : Int32) (D : dT) : ev l E (d + 1) yX6_loadBy cX6_loadBy 5 (some .int) 0 [(0, .inr (.inr 378)), (1, .inl x1), (2, .inl x2)] [] D eI (F_X6_loadBy x1 x2 D) := by
  unfold F_X6_loadBy
  refine ev_s (fun Q k => rn_aload_n (j := 0) 0 rfl rfl (okO_0 ok_378) dX6_loadBy_0 k) ?_
  refine ev_s (fun Q k => rn_iload_n (j := 1) 1 rfl rfl dX6_loadBy_1 k) ?_
  refine ev_s (fun Q k => rn_iconst (v := 0) (by decide) dX6_loadBy_2 k) ?_
  refine ev_bindI (as := [.inr (.inr 378), .inl x1, .inl (0 : Int32)]) (fun Q Q1 => rn_callV (as := [.inl x1, .inl (0 : Int32)]) (rest := []) (o := 378) m_X6_43 dX6_loadBy_3 (rcv_own ok_378.1 ok_378.2.1 (by decide) (okO_1 ok_378)) rfl rfl (Nat.le_of_ble_eq_true rfl)) pl_X6_ofJobs (Nat.le_of_ble_eq_true rfl) rfl (e_X6_ofJobs l E d x1 (0 : Int32) D) (fun r1 D2 => ?_)
  refine ev_s (fun Q k => rn_bipush (v := 100) (by decide) dX6_loadBy_6 k) ?_
  refine ev_s (fun Q k => rn_aload_n (j := 0) 0 rfl rfl (okO_0 ok_378) dX6_loadBy_8 k) ?_
  refine ev_s (fun Q k => rn_getr (q := 379) f_X6_7 ok_378.1 ok_378.2.1 (okO_1 ok_378) rfl rfl dX6_loadBy_9 k) ?_
  refine ev_s (fun Q k => rn_iconst (v := 0) (by decide) dX6_loadBy_12 k) ?_
  refine ev_gd (fun g3 => ?_)
  refine ev_s (fun Q k => rn_iald ok_379.1 ok_379.2.1 ok_379.2.2 (inR_vp g3) dX6_loadBy_13 k) ?_
  refine ev_s (fun Q k => rn_aload_n (j := 0) 0 rfl rfl (okO_0 ok_378) dX6_loadBy_14 k) ?_
  refine ev_s (fun Q k => rn_iload_n (j := 1) 1 rfl rfl dX6_loadBy_15 k) ?_
  refine ev_s (fun Q k => rn_iconst (v := 1) (by decide) dX6_loadBy_16 k) ?_
  refine ev_bindI (as := [.inr (.inr 378), .inl x1, .inl (1 : Int32)]) (fun Q Q1 => rn_callV (as := [.inl x1, .inl (1 : Int32)]) (rest := [.inl (D2 379 (0 : Int32).toNatClampNeg), .inl (100 : Int32), .inl r1]) (o := 378) m_X6_43 dX6_loadBy_17 (rcv_own ok_378.1 ok_378.2.1 (by decide) (okO_1 ok_378)) rfl rfl (Nat.le_of_ble_eq_true rfl)) pl_X6_ofJobs (Nat.le_of_ble_eq_true rfl) rfl (e_X6_ofJobs l E d x1 (1 : Int32) D2) (fun r4 D5 => ?_)
  refine ev_s (fun Q k => rn_imul dX6_loadBy_20 k) ?_
  refine ev_s (fun Q k => rn_iadd dX6_loadBy_21 k) ?_
  refine ev_s (fun Q k => rn_imul dX6_loadBy_22 k) ?_
  refine ev_s (fun Q k => rn_bipush (v := 100) (by decide) dX6_loadBy_23 k) ?_
  refine ev_s (fun Q k => rn_idiv (by decide) dX6_loadBy_25 k) ?_
  refine ev_s (fun Q k => rn_istore_n (j := 3) (ls' := [(3, .inl ((r1 * ((100 : Int32) + ((D2 379 (0 : Int32).toNatClampNeg) * r4))) / (100 : Int32))), (0, .inr (.inr 378)), (1, .inl x1), (2, .inl x2)]) rfl (by decide) rfl dX6_loadBy_26 k) ?_
  refine ev_s (fun Q k => rn_iload_n (j := 2) 3 rfl rfl dX6_loadBy_27 k) ?_
  refine ev_if (fun Q => rn_if_ne (tgt := 35) dX6_loadBy_28 (by decide)) (fun c10 => ?_) (fun c11 => ?_)
  · refine ev_s (fun Q k => rn_iconst (v := 5) (by decide) dX6_loadBy_31 k) ?_
    refine ev_s (fun Q k => rn_goto (tgt := 56) dX6_loadBy_32 (by decide) k) ?_
    refine ev_s (fun Q k => rn_sub (ls' := [(2, .inl x2), (3, .inl ((r1 * ((100 : Int32) + ((D2 379 (0 : Int32).toNatClampNeg) * r4))) / (100 : Int32)))]) [3, 0] rfl k) ?_
    exact e_X6_loadBy_56 l E d x1 x2   ((r1 * ((100 : Int32) + ((D2 379 (0 : Int32).toNatClampNeg) * r4))) / (100 : Int32)) (5 : Int32) D5
  · refine ev_s (fun Q k => rn_iload_n (j := 2) 3 rfl rfl dX6_loadBy_35 k) ?_
    refine ev_s (fun Q k => rn_iconst (v := 1) (by decide) dX6_loadBy_36 k) ?_
    refine ev_if (fun Q => rn_icmp_ne (tgt := 45) dX6_loadBy_37 (by decide)) (fun c8 => ?_) (fun c9 => ?_)
    · refine ev_s (fun Q k => rn_bipush (v := 10) (by decide) dX6_loadBy_40 k) ?_
      refine ev_s (fun Q k => rn_goto (tgt := 56) dX6_loadBy_42 (by decide) k) ?_
      refine ev_s (fun Q k => rn_sub (ls' := [(2, .inl x2), (3, .inl ((r1 * ((100 : Int32) + ((D2 379 (0 : Int32).toNatClampNeg) * r4))) / (100 : Int32)))]) [3, 0] rfl k) ?_
      exact e_X6_loadBy_56 l E d x1 x2   ((r1 * ((100 : Int32) + ((D2 379 (0 : Int32).toNatClampNeg) * r4))) / (100 : Int32)) (10 : Int32) D5
    · refine ev_s (fun Q k => rn_iload_n (j := 2) 3 rfl rfl dX6_loadBy_45 k) ?_
      refine ev_s (fun Q k => rn_iconst (v := 2) (by decide) dX6_loadBy_46 k) ?_
      refine ev_if (fun Q => rn_icmp_ne (tgt := 55) dX6_loadBy_47 (by decide)) (fun c6 => ?_) (fun c7 => ?_)
      · refine ev_s (fun Q k => rn_bipush (v := 20) (by decide) dX6_loadBy_50 k) ?_
        refine ev_s (fun Q k => rn_goto (tgt := 56) dX6_loadBy_52 (by decide) k) ?_
        refine ev_s (fun Q k => rn_sub (ls' := [(2, .inl x2), (3, .inl ((r1 * ((100 : Int32) + ((D2 379 (0 : Int32).toNatClampNeg) * r4))) / (100 : Int32)))]) [3, 0] rfl k) ?_
        exact e_X6_loadBy_56 l E d x1 x2   ((r1 * ((100 : Int32) + ((D2 379 (0 : Int32).toNatClampNeg) * r4))) / (100 : Int32)) (20 : Int32) D5
      · refine ev_s (fun Q k => rn_iconst (v := 0) (by decide) dX6_loadBy_55 k) ?_
        refine ev_s (fun Q k => rn_sub (ls' := [(2, .inl x2), (3, .inl ((r1 * ((100 : Int32) + ((D2 379 (0 : Int32).toNatClampNeg) * r4))) / (100 : Int32)))]) [3, 0] rfl k) ?_
        exact e_X6_loadBy_56 l E d x1 x2   ((r1 * ((100 : Int32) + ((D2 379 (0 : Int32).toNatClampNeg) * r4))) / (100 : Int32)) (0 : Int32) D5

def F_X6_reason (x1 : Int32) (x2 : Int32) (x3 : Int32) (D : dT) : Option (Int32 × dT) := bd (F_X6_ofJobs x1 (5 : Int32) D) (fun (r1 : Int32) (D2 : dT) => if r1 = 0 then if x2 ≤ 0 then some ((2 : Int32), D2) else if inR (5 : Int32) 244 then if ((1 : Int32) <<< ((D2 379 (5 : Int32).toNatClampNeg) &&& 31)) ≤ x2 then some ((2 : Int32), D2) else bd (F_X6_ones x2 D2) (fun (r4 : Int32) (D5 : dT) => if inR (3 : Int32) 244 then if r4 ≤ (D5 379 (3 : Int32).toNatClampNeg) then bd (F_X6_busy  D5) (fun (r7 : Int32) (D8 : dT) => if (x2 &&& r7) = 0 then bd (F_X6_canHave x1 x3 D8) (fun (r9 : Int32) (D10 : dT) => if r9 = 0 then some ((4 : Int32), D10) else bd (F_X6_strength x2 D10) (fun (r11 : Int32) (D12 : dT) => bd (F_X6_loadBy x1 x3 D12) (fun (r13 : Int32) (D14 : dT) => if r13 ≤ r11 then some ((0 : Int32), D14) else some ((5 : Int32), D14)))) else some ((3 : Int32), D8)) else some ((2 : Int32), D5) else none) else none else some ((1 : Int32), D2))
set_option maxRecDepth 20000 in
theorem e_X6_reason (l : Launch) (E : eE) (d : Nat) (x1 : Int32) (x2 : Int32) (x3 : Int32) (D : dT) : ev l E (d + 3) yX6_reason cX6_reason 4 (some .int) 0 [(0, .inr (.inr 378)), (1, .inl x1), (2, .inl x2), (3, .inl x3)] [] D eI (F_X6_reason x1 x2 x3 D) := by
  unfold F_X6_reason
  refine ev_s (fun Q k => rn_aload_n (j := 0) 0 rfl rfl (okO_0 ok_378) dX6_reason_0 k) ?_
  refine ev_s (fun Q k => rn_iload_n (j := 1) 1 rfl rfl dX6_reason_1 k) ?_
  refine ev_s (fun Q k => rn_iconst (v := 5) (by decide) dX6_reason_2 k) ?_
  refine ev_bindI (as := [.inr (.inr 378), .inl x1, .inl (5 : Int32)]) (fun Q Q1 => rn_callV (as := [.inl x1, .inl (5 : Int32)]) (rest := []) (o := 378) m_X6_43 dX6_reason_3 (rcv_own ok_378.1 ok_378.2.1 (by decide) (okO_1 ok_378)) rfl rfl (Nat.le_of_ble_eq_true rfl)) pl_X6_ofJobs (Nat.le_of_ble_eq_true rfl) rfl (e_X6_ofJobs l E (d + 2) x1 (5 : Int32) D) (fun r1 D2 => ?_)
  refine ev_if (fun Q => rn_if_eq (tgt := 11) dX6_reason_6 (by decide)) (fun c27 => ?_) (fun c28 => ?_)
  · refine ev_s (fun Q k => rn_iload_n (j := 2) 2 rfl rfl dX6_reason_11 k) ?_
    refine ev_if (fun Q => rn_if_le (tgt := 40) dX6_reason_12 (by decide)) (fun c25 => ?_) (fun c26 => ?_)
    · refine ev_s (fun Q k => rn_iconst (v := 2) (by decide) dX6_reason_40 k) ?_
      exact ev_ret (fun Q q => rn_ret q .int rfl rfl dX6_reason_41)
    · refine ev_s (fun Q k => rn_iload_n (j := 2) 2 rfl rfl dX6_reason_15 k) ?_
      refine ev_s (fun Q k => rn_iconst (v := 1) (by decide) dX6_reason_16 k) ?_
      refine ev_s (fun Q k => rn_aload_n (j := 0) 0 rfl rfl (okO_0 ok_378) dX6_reason_17 k) ?_
      refine ev_s (fun Q k => rn_getr (q := 379) f_X6_7 ok_378.1 ok_378.2.1 (okO_1 ok_378) rfl rfl dX6_reason_18 k) ?_
      refine ev_s (fun Q k => rn_iconst (v := 5) (by decide) dX6_reason_21 k) ?_
      refine ev_gd (fun g3 => ?_)
      refine ev_s (fun Q k => rn_iald ok_379.1 ok_379.2.1 ok_379.2.2 (inR_vp g3) dX6_reason_22 k) ?_
      refine ev_s (fun Q k => rn_ishl dX6_reason_23 k) ?_
      refine ev_if (fun Q => rn_icmp_ge (tgt := 40) dX6_reason_24 (by decide)) (fun c23 => ?_) (fun c24 => ?_)
      · refine ev_s (fun Q k => rn_iconst (v := 2) (by decide) dX6_reason_40 k) ?_
        exact ev_ret (fun Q q => rn_ret q .int rfl rfl dX6_reason_41)
      · refine ev_s (fun Q k => rn_iload_n (j := 2) 2 rfl rfl dX6_reason_27 k) ?_
        refine ev_bindI (as := [.inl x2]) (fun Q Q1 => rn_callS (as := [.inl x2]) (rest := []) m_X6_54 dX6_reason_28 rfl rfl (Nat.le_of_ble_eq_true rfl)) pl_X6_ones (Nat.le_of_ble_eq_true rfl) rfl (e_X6_ones l E (d + 2) x2 D2) (fun r4 D5 => ?_)
        refine ev_s (fun Q k => rn_aload_n (j := 0) 0 rfl rfl (okO_0 ok_378) dX6_reason_31 k) ?_
        refine ev_s (fun Q k => rn_getr (q := 379) f_X6_7 ok_378.1 ok_378.2.1 (okO_1 ok_378) rfl rfl dX6_reason_32 k) ?_
        refine ev_s (fun Q k => rn_iconst (v := 3) (by decide) dX6_reason_35 k) ?_
        refine ev_gd (fun g6 => ?_)
        refine ev_s (fun Q k => rn_iald ok_379.1 ok_379.2.1 ok_379.2.2 (inR_vp g6) dX6_reason_36 k) ?_
        refine ev_if (fun Q => rn_icmp_le (tgt := 42) dX6_reason_37 (by decide)) (fun c21 => ?_) (fun c22 => ?_)
        · refine ev_s (fun Q k => rn_iload_n (j := 2) 2 rfl rfl dX6_reason_42 k) ?_
          refine ev_s (fun Q k => rn_aload_n (j := 0) 0 rfl rfl (okO_0 ok_378) dX6_reason_43 k) ?_
          refine ev_bindI (as := [.inr (.inr 378)]) (fun Q Q1 => rn_callV (as := []) (rest := [.inl x2]) (o := 378) m_X6_57 dX6_reason_44 (rcv_own ok_378.1 ok_378.2.1 (by decide) (okO_1 ok_378)) rfl rfl (Nat.le_of_ble_eq_true rfl)) pl_X6_busy (Nat.le_of_ble_eq_true rfl) rfl (e_X6_busy l E (d + 1)  D5) (fun r7 D8 => ?_)
          refine ev_s (fun Q k => rn_iand dX6_reason_47 k) ?_
          refine ev_if (fun Q => rn_if_eq (tgt := 53) dX6_reason_48 (by decide)) (fun c19 => ?_) (fun c20 => ?_)
          · refine ev_s (fun Q k => rn_aload_n (j := 0) 0 rfl rfl (okO_0 ok_378) dX6_reason_53 k) ?_
            refine ev_s (fun Q k => rn_iload_n (j := 1) 1 rfl rfl dX6_reason_54 k) ?_
            refine ev_s (fun Q k => rn_iload_n (j := 3) 3 rfl rfl dX6_reason_55 k) ?_
            refine ev_bindI (as := [.inr (.inr 378), .inl x1, .inl x3]) (fun Q Q1 => rn_callV (as := [.inl x1, .inl x3]) (rest := []) (o := 378) m_X6_61 dX6_reason_56 (rcv_own ok_378.1 ok_378.2.1 (by decide) (okO_1 ok_378)) rfl rfl (Nat.le_of_ble_eq_true rfl)) pl_X6_canHave (Nat.le_of_ble_eq_true rfl) rfl (e_X6_canHave l E d x1 x3 D8) (fun r9 D10 => ?_)
            refine ev_if (fun Q => rn_if_ne (tgt := 64) dX6_reason_59 (by decide)) (fun c17 => ?_) (fun c18 => ?_)
            · refine ev_s (fun Q k => rn_iconst (v := 4) (by decide) dX6_reason_62 k) ?_
              exact ev_ret (fun Q q => rn_ret q .int rfl rfl dX6_reason_63)
            · refine ev_s (fun Q k => rn_aload_n (j := 0) 0 rfl rfl (okO_0 ok_378) dX6_reason_64 k) ?_
              refine ev_s (fun Q k => rn_iload_n (j := 2) 2 rfl rfl dX6_reason_65 k) ?_
              refine ev_bindI (as := [.inr (.inr 378), .inl x2]) (fun Q Q1 => rn_callV (as := [.inl x2]) (rest := []) (o := 378) m_X6_65 dX6_reason_66 (rcv_own ok_378.1 ok_378.2.1 (by decide) (okO_1 ok_378)) rfl rfl (Nat.le_of_ble_eq_true rfl)) pl_X6_strength (Nat.le_of_ble_eq_true rfl) rfl (e_X6_strength l E (d + 1) x2 D10) (fun r11 D12 => ?_)
              refine ev_s (fun Q k => rn_aload_n (j := 0) 0 rfl rfl (okO_0 ok_378) dX6_reason_69 k) ?_
              refine ev_s (fun Q k => rn_iload_n (j := 1) 1 rfl rfl dX6_reason_70 k) ?_
              refine ev_s (fun Q k => rn_iload_n (j := 3) 3 rfl rfl dX6_reason_71 k) ?_
              refine ev_bindI (as := [.inr (.inr 378), .inl x1, .inl x3]) (fun Q Q1 => rn_callV (as := [.inl x1, .inl x3]) (rest := [.inl r11]) (o := 378) m_X6_68 dX6_reason_72 (rcv_own ok_378.1 ok_378.2.1 (by decide) (okO_1 ok_378)) rfl rfl (Nat.le_of_ble_eq_true rfl)) pl_X6_loadBy (Nat.le_of_ble_eq_true rfl) rfl (e_X6_loadBy l E (d + 1) x1 x3 D12) (fun r13 D14 => ?_)
              refine ev_if (fun Q => rn_icmp_ge (tgt := 82) dX6_reason_75 (by decide)) (fun c15 => ?_) (fun c16 => ?_)
              · refine ev_s (fun Q k => rn_iconst (v := 0) (by decide) dX6_reason_82 k) ?_
                exact ev_ret (fun Q q => rn_ret q .int rfl rfl dX6_reason_83)
              · refine ev_s (fun Q k => rn_iconst (v := 5) (by decide) dX6_reason_78 k) ?_
                refine ev_s (fun Q k => rn_goto (tgt := 83) dX6_reason_79 (by decide) k) ?_
                exact ev_ret (fun Q q => rn_ret q .int rfl rfl dX6_reason_83)
          · refine ev_s (fun Q k => rn_iconst (v := 3) (by decide) dX6_reason_51 k) ?_
            exact ev_ret (fun Q q => rn_ret q .int rfl rfl dX6_reason_52)
        · refine ev_s (fun Q k => rn_iconst (v := 2) (by decide) dX6_reason_40 k) ?_
          exact ev_ret (fun Q q => rn_ret q .int rfl rfl dX6_reason_41)
  · refine ev_s (fun Q k => rn_iconst (v := 1) (by decide) dX6_reason_9 k) ?_
    exact ev_ret (fun Q q => rn_ret q .int rfl rfl dX6_reason_10)

def F_X6_refusesBegin (x1 : Int32) (x2 : Int32) (x3 : Int32) (D : dT) : Option (Int32 × dT) := bd (F_X6_isJob x1 D) (fun (r1 : Int32) (D2 : dT) => if r1 = 0 then some ((-1 : Int32), D2) else bd (F_X6_isStraps x3 D2) (fun (r3 : Int32) (D4 : dT) => if r3 = 0 then some ((-2 : Int32), D4) else bd (F_X6_reason x1 x2 x3 D4) (fun (r5 : Int32) (D6 : dT) => if r5 ≤ 0 then some ((0 : Int32), D6) else some ((-5 : Int32), D6))))
set_option maxRecDepth 20000 in
theorem e_X6_refusesBegin (l : Launch) (E : eE) (d : Nat) (x1 : Int32) (x2 : Int32) (x3 : Int32) (D : dT) : ev l E (d + 4) yX6_refusesBegin cX6_refusesBegin 4 (some .int) 0 [(0, .inr (.inr 378)), (1, .inl x1), (2, .inl x2), (3, .inl x3)] [] D eI (F_X6_refusesBegin x1 x2 x3 D) := by
  unfold F_X6_refusesBegin
  refine ev_s (fun Q k => rn_aload_n (j := 0) 0 rfl rfl (okO_0 ok_378) dX6_refusesBegin_0 k) ?_
  refine ev_s (fun Q k => rn_iload_n (j := 1) 1 rfl rfl dX6_refusesBegin_1 k) ?_
  refine ev_bindI (as := [.inr (.inr 378), .inl x1]) (fun Q Q1 => rn_callV (as := [.inl x1]) (rest := []) (o := 378) m_X6_133 dX6_refusesBegin_2 (rcv_own ok_378.1 ok_378.2.1 (by decide) (okO_1 ok_378)) rfl rfl (Nat.le_of_ble_eq_true rfl)) pl_X6_isJob (Nat.le_of_ble_eq_true rfl) rfl (e_X6_isJob l E (d + 2) x1 D) (fun r1 D2 => ?_)
  refine ev_if (fun Q => rn_if_ne (tgt := 10) dX6_refusesBegin_5 (by decide)) (fun c11 => ?_) (fun c12 => ?_)
  · refine ev_s (fun Q k => rn_iconst (v := -1) (by decide) dX6_refusesBegin_8 k) ?_
    exact ev_ret (fun Q q => rn_ret q .int rfl rfl dX6_refusesBegin_9)
  · refine ev_s (fun Q k => rn_iload_n (j := 3) 3 rfl rfl dX6_refusesBegin_10 k) ?_
    refine ev_bindI (as := [.inl x3]) (fun Q Q1 => rn_callS (as := [.inl x3]) (rest := []) m_X6_136 dX6_refusesBegin_11 rfl rfl (Nat.le_of_ble_eq_true rfl)) pl_X6_isStraps (Nat.le_of_ble_eq_true rfl) rfl (e_X6_isStraps l E (d + 2) x3 D2) (fun r3 D4 => ?_)
    refine ev_if (fun Q => rn_if_ne (tgt := 20) dX6_refusesBegin_14 (by decide)) (fun c9 => ?_) (fun c10 => ?_)
    · refine ev_s (fun Q k => rn_bipush (v := -2) (by decide) dX6_refusesBegin_17 k) ?_
      exact ev_ret (fun Q q => rn_ret q .int rfl rfl dX6_refusesBegin_19)
    · refine ev_s (fun Q k => rn_aload_n (j := 0) 0 rfl rfl (okO_0 ok_378) dX6_refusesBegin_20 k) ?_
      refine ev_s (fun Q k => rn_iload_n (j := 1) 1 rfl rfl dX6_refusesBegin_21 k) ?_
      refine ev_s (fun Q k => rn_iload_n (j := 2) 2 rfl rfl dX6_refusesBegin_22 k) ?_
      refine ev_s (fun Q k => rn_iload_n (j := 3) 3 rfl rfl dX6_refusesBegin_23 k) ?_
      refine ev_bindI (as := [.inr (.inr 378), .inl x1, .inl x2, .inl x3]) (fun Q Q1 => rn_callV (as := [.inl x1, .inl x2, .inl x3]) (rest := []) (o := 378) m_X6_139 dX6_refusesBegin_24 (rcv_own ok_378.1 ok_378.2.1 (by decide) (okO_1 ok_378)) rfl rfl (Nat.le_of_ble_eq_true rfl)) pl_X6_reason (Nat.le_of_ble_eq_true rfl) rfl (e_X6_reason l E d x1 x2 x3 D4) (fun r5 D6 => ?_)
      refine ev_if (fun Q => rn_if_le (tgt := 35) dX6_refusesBegin_27 (by decide)) (fun c7 => ?_) (fun c8 => ?_)
      · refine ev_s (fun Q k => rn_iconst (v := 0) (by decide) dX6_refusesBegin_35 k) ?_
        exact ev_ret (fun Q q => rn_ret q .int rfl rfl dX6_refusesBegin_36)
      · refine ev_s (fun Q k => rn_bipush (v := -5) (by decide) dX6_refusesBegin_30 k) ?_
        refine ev_s (fun Q k => rn_goto (tgt := 36) dX6_refusesBegin_32 (by decide) k) ?_
        exact ev_ret (fun Q q => rn_ret q .int rfl rfl dX6_refusesBegin_36)

def F_X6_begins (x1 : Int32) (x2 : Int32) (x3 : Int32) (D : dT) : Option (Int32 × dT) := bd (F_X6_loadBy x1 x3 D) (fun (r1 : Int32) (D2 : dT) => bd (F_X6_lay x1 (6 : Int32) r1 D2) (fun (r3 : Int32) (D4 : dT) => bd (F_X6_lay x1 (7 : Int32) x2 D4) (fun (r5 : Int32) (D6 : dT) => bd (F_X6_lay x1 (8 : Int32) x3 D6) (fun (r7 : Int32) (D8 : dT) => bd (F_X6_lay x1 (5 : Int32) (1 : Int32) D8) (fun (r9 : Int32) (D10 : dT) => some (r1, D10))))))
set_option maxRecDepth 20000 in
theorem e_X6_begins (l : Launch) (E : eE) (d : Nat) (x1 : Int32) (x2 : Int32) (x3 : Int32) (D : dT) : ev l E (d + 2) yX6_begins cX6_begins 5 (some .int) 0 [(0, .inr (.inr 378)), (1, .inl x1), (2, .inl x2), (3, .inl x3)] [] D eI (F_X6_begins x1 x2 x3 D) := by
  unfold F_X6_begins
  refine ev_s (fun Q k => rn_aload_n (j := 0) 0 rfl rfl (okO_0 ok_378) dX6_begins_0 k) ?_
  refine ev_s (fun Q k => rn_iload_n (j := 1) 1 rfl rfl dX6_begins_1 k) ?_
  refine ev_s (fun Q k => rn_iload_n (j := 3) 3 rfl rfl dX6_begins_2 k) ?_
  refine ev_bindI (as := [.inr (.inr 378), .inl x1, .inl x3]) (fun Q Q1 => rn_callV (as := [.inl x1, .inl x3]) (rest := []) (o := 378) m_X6_68 dX6_begins_3 (rcv_own ok_378.1 ok_378.2.1 (by decide) (okO_1 ok_378)) rfl rfl (Nat.le_of_ble_eq_true rfl)) pl_X6_loadBy (Nat.le_of_ble_eq_true rfl) rfl (e_X6_loadBy l E d x1 x3 D) (fun r1 D2 => ?_)
  refine ev_s (fun Q k => rn_istore (j := 4) (ls' := [(4, .inl r1), (0, .inr (.inr 378)), (1, .inl x1), (2, .inl x2), (3, .inl x3)]) (by decide) rfl dX6_begins_6 k) ?_
  refine ev_s (fun Q k => rn_aload_n (j := 0) 1 rfl rfl (okO_0 ok_378) dX6_begins_8 k) ?_
  refine ev_s (fun Q k => rn_iload_n (j := 1) 2 rfl rfl dX6_begins_9 k) ?_
  refine ev_s (fun Q k => rn_bipush (v := 6) (by decide) dX6_begins_10 k) ?_
  refine ev_s (fun Q k => rn_iload (j := 4) 0 rfl dX6_begins_12 k) ?_
  refine ev_bindU (as := [.inr (.inr 378), .inl x1, .inl (6 : Int32), .inl r1]) (fun Q Q1 => rn_callV (as := [.inl x1, .inl (6 : Int32), .inl r1]) (rest := []) (o := 378) m_X6_77 dX6_begins_14 (rcv_own ok_378.1 ok_378.2.1 (by decide) (okO_1 ok_378)) rfl rfl (Nat.le_of_ble_eq_true rfl)) pl_X6_lay (Nat.le_of_ble_eq_true rfl) rfl (e_X6_lay l E (d + 1) x1 (6 : Int32) r1 D2) (fun r3 D4 => ?_)
  refine ev_s (fun Q k => rn_aload_n (j := 0) 1 rfl rfl (okO_0 ok_378) dX6_begins_17 k) ?_
  refine ev_s (fun Q k => rn_iload_n (j := 1) 2 rfl rfl dX6_begins_18 k) ?_
  refine ev_s (fun Q k => rn_bipush (v := 7) (by decide) dX6_begins_19 k) ?_
  refine ev_s (fun Q k => rn_iload_n (j := 2) 3 rfl rfl dX6_begins_21 k) ?_
  refine ev_bindU (as := [.inr (.inr 378), .inl x1, .inl (7 : Int32), .inl x2]) (fun Q Q1 => rn_callV (as := [.inl x1, .inl (7 : Int32), .inl x2]) (rest := []) (o := 378) m_X6_77 dX6_begins_22 (rcv_own ok_378.1 ok_378.2.1 (by decide) (okO_1 ok_378)) rfl rfl (Nat.le_of_ble_eq_true rfl)) pl_X6_lay (Nat.le_of_ble_eq_true rfl) rfl (e_X6_lay l E (d + 1) x1 (7 : Int32) x2 D4) (fun r5 D6 => ?_)
  refine ev_s (fun Q k => rn_aload_n (j := 0) 1 rfl rfl (okO_0 ok_378) dX6_begins_25 k) ?_
  refine ev_s (fun Q k => rn_iload_n (j := 1) 2 rfl rfl dX6_begins_26 k) ?_
  refine ev_s (fun Q k => rn_bipush (v := 8) (by decide) dX6_begins_27 k) ?_
  refine ev_s (fun Q k => rn_iload_n (j := 3) 4 rfl rfl dX6_begins_29 k) ?_
  refine ev_bindU (as := [.inr (.inr 378), .inl x1, .inl (8 : Int32), .inl x3]) (fun Q Q1 => rn_callV (as := [.inl x1, .inl (8 : Int32), .inl x3]) (rest := []) (o := 378) m_X6_77 dX6_begins_30 (rcv_own ok_378.1 ok_378.2.1 (by decide) (okO_1 ok_378)) rfl rfl (Nat.le_of_ble_eq_true rfl)) pl_X6_lay (Nat.le_of_ble_eq_true rfl) rfl (e_X6_lay l E (d + 1) x1 (8 : Int32) x3 D6) (fun r7 D8 => ?_)
  refine ev_s (fun Q k => rn_aload_n (j := 0) 1 rfl rfl (okO_0 ok_378) dX6_begins_33 k) ?_
  refine ev_s (fun Q k => rn_iload_n (j := 1) 2 rfl rfl dX6_begins_34 k) ?_
  refine ev_s (fun Q k => rn_iconst (v := 5) (by decide) dX6_begins_35 k) ?_
  refine ev_s (fun Q k => rn_iconst (v := 1) (by decide) dX6_begins_36 k) ?_
  refine ev_bindU (as := [.inr (.inr 378), .inl x1, .inl (5 : Int32), .inl (1 : Int32)]) (fun Q Q1 => rn_callV (as := [.inl x1, .inl (5 : Int32), .inl (1 : Int32)]) (rest := []) (o := 378) m_X6_77 dX6_begins_37 (rcv_own ok_378.1 ok_378.2.1 (by decide) (okO_1 ok_378)) rfl rfl (Nat.le_of_ble_eq_true rfl)) pl_X6_lay (Nat.le_of_ble_eq_true rfl) rfl (e_X6_lay l E (d + 1) x1 (5 : Int32) (1 : Int32) D8) (fun r9 D10 => ?_)
  refine ev_s (fun Q k => rn_iload (j := 4) 0 rfl dX6_begins_40 k) ?_
  exact ev_ret (fun Q q => rn_ret q .int rfl rfl dX6_begins_42)

def F_X6_begin (x1 : Int32) (x2 : Int32) (x3 : Int32) (D : dT) : Option (Int32 × dT) := bd (F_X6_refusesBegin x1 x2 x3 (up2 D 378 0 (0 : Int32))) (fun (r1 : Int32) (D2 : dT) => if r1 = 0 then bd (F_X6_records  D2) (fun (r3 : Int32) (D4 : dT) => bd (F_X6_begins x1 x2 x3 D4) (fun (r5 : Int32) (D6 : dT) => some (r5, D6))) else some (r1, D2))
set_option maxRecDepth 20000 in
theorem e_X6_begin (l : Launch) (E : eE) (d : Nat) (x1 : Int32) (x2 : Int32) (x3 : Int32) (D : dT) : ev l E (d + 5) yX6_begin cX6_begin 5 (some .int) 0 [(0, .inr (.inr 378)), (1, .inl x1), (2, .inl x2), (3, .inl x3)] [] D eI (F_X6_begin x1 x2 x3 D) := by
  unfold F_X6_begin
  refine ev_s (fun Q k => rn_aload_n (j := 0) 0 rfl rfl (okO_0 ok_378) dX6_begin_0 k) ?_
  refine ev_s (fun Q k => rn_iconst (v := 0) (by decide) dX6_begin_1 k) ?_
  refine ev_s (fun Q k => rn_puti f_X6_32 ok_378.1 ok_378.2.1 (okO_1 ok_378) rfl rfl rfl rfl dX6_begin_2 k) ?_
  refine ev_s (fun Q k => rn_aload_n (j := 0) 0 rfl rfl (okO_0 ok_378) dX6_begin_5 k) ?_
  refine ev_s (fun Q k => rn_iload_n (j := 1) 1 rfl rfl dX6_begin_6 k) ?_
  refine ev_s (fun Q k => rn_iload_n (j := 2) 2 rfl rfl dX6_begin_7 k) ?_
  refine ev_s (fun Q k => rn_iload_n (j := 3) 3 rfl rfl dX6_begin_8 k) ?_
  refine ev_bindI (as := [.inr (.inr 378), .inl x1, .inl x2, .inl x3]) (fun Q Q1 => rn_callV (as := [.inl x1, .inl x2, .inl x3]) (rest := []) (o := 378) m_X6_142 dX6_begin_9 (rcv_own ok_378.1 ok_378.2.1 (by decide) (okO_1 ok_378)) rfl rfl (Nat.le_of_ble_eq_true rfl)) pl_X6_refusesBegin (Nat.le_of_ble_eq_true rfl) rfl (e_X6_refusesBegin l E d x1 x2 x3 (up2 D 378 0 (0 : Int32))) (fun r1 D2 => ?_)
  refine ev_s (fun Q k => rn_istore (j := 4) (ls' := [(4, .inl r1), (0, .inr (.inr 378)), (1, .inl x1), (2, .inl x2), (3, .inl x3)]) (by decide) rfl dX6_begin_12 k) ?_
  refine ev_s (fun Q k => rn_iload (j := 4) 0 rfl dX6_begin_14 k) ?_
  refine ev_if (fun Q => rn_if_eq (tgt := 22) dX6_begin_16 (by decide)) (fun c7 => ?_) (fun c8 => ?_)
  · refine ev_s (fun Q k => rn_aload_n (j := 0) 1 rfl rfl (okO_0 ok_378) dX6_begin_22 k) ?_
    refine ev_bindU (as := [.inr (.inr 378)]) (fun Q Q1 => rn_callV (as := []) (rest := []) (o := 378) m_X6_117 dX6_begin_23 (rcv_own ok_378.1 ok_378.2.1 (by decide) (okO_1 ok_378)) rfl rfl (Nat.le_of_ble_eq_true rfl)) pl_X6_records (Nat.le_of_ble_eq_true rfl) rfl (e_X6_records l E (d + 4)  D2) (fun r3 D4 => ?_)
    refine ev_s (fun Q k => rn_aload_n (j := 0) 1 rfl rfl (okO_0 ok_378) dX6_begin_26 k) ?_
    refine ev_s (fun Q k => rn_iload_n (j := 1) 2 rfl rfl dX6_begin_27 k) ?_
    refine ev_s (fun Q k => rn_iload_n (j := 2) 3 rfl rfl dX6_begin_28 k) ?_
    refine ev_s (fun Q k => rn_iload_n (j := 3) 4 rfl rfl dX6_begin_29 k) ?_
    refine ev_bindI (as := [.inr (.inr 378), .inl x1, .inl x2, .inl x3]) (fun Q Q1 => rn_callV (as := [.inl x1, .inl x2, .inl x3]) (rest := []) (o := 378) m_X6_90 dX6_begin_30 (rcv_own ok_378.1 ok_378.2.1 (by decide) (okO_1 ok_378)) rfl rfl (Nat.le_of_ble_eq_true rfl)) pl_X6_begins (Nat.le_of_ble_eq_true rfl) rfl (e_X6_begins l E (d + 2) x1 x2 x3 D4) (fun r5 D6 => ?_)
    exact ev_ret (fun Q q => rn_ret q .int rfl rfl dX6_begin_33)
  · refine ev_s (fun Q k => rn_iload (j := 4) 0 rfl dX6_begin_19 k) ?_
    exact ev_ret (fun Q q => rn_ret q .int rfl rfl dX6_begin_21)

def F_X6_isAhead_35 (x1 : Int32) (x2 : Int32)  (s0 : Int32) (D : dT) : Option (Int32 × dT) := if s0 < 0 then some ((1 : Int32), D) else if s0 = 0 then if x2 ≤ x1 then some ((0 : Int32), D) else some ((1 : Int32), D) else some ((0 : Int32), D)
def F_X6_isAhead (x1 : Int32) (x2 : Int32) (D : dT) : Option (Int32 × dT) := bd (F_X6_ofJobs x2 (3 : Int32) D) (fun (r1 : Int32) (D2 : dT) => bd (F_X6_ofJobs x1 (3 : Int32) D2) (fun (r3 : Int32) (D4 : dT) => if (r1 - r3) = 0 then bd (F_X6_ofJobs x1 (4 : Int32) D4) (fun (r5 : Int32) (D6 : dT) => bd (F_X6_ofJobs x2 (4 : Int32) D6) (fun (r7 : Int32) (D8 : dT) => F_X6_isAhead_35 x1 x2 (r5 - r7) D8)) else F_X6_isAhead_35 x1 x2 (r1 - r3) D4))
set_option maxRecDepth 20000 in
theorem e_X6_isAhead_35 (l : Launch) (E : eE) (d : Nat) (x1 : Int32) (x2 : Int32)  (s0 : Int32) (D : dT) : ev l E (d + 1) yX6_isAhead cX6_isAhead 4 (some .boolean) 35 [(1, .inl x1), (2, .inl x2)] [.inl s0] D eI (F_X6_isAhead_35 x1 x2 s0 D) := by
  unfold F_X6_isAhead_35
  refine ev_s (fun Q k => rn_istore_n (j := 3) (ls' := [(3, .inl s0), (1, .inl x1), (2, .inl x2)]) rfl (by decide) rfl dX6_isAhead_35 k) ?_
  refine ev_s (fun Q k => rn_iload_n (j := 3) 0 rfl rfl dX6_isAhead_36 k) ?_
  refine ev_if (fun Q => rn_if_lt (tgt := 49) dX6_isAhead_37 (by decide)) (fun c5 => ?_) (fun c6 => ?_)
  · refine ev_s (fun Q k => rn_iconst (v := 1) (by decide) dX6_isAhead_49 k) ?_
    refine ev_s (fun Q k => rn_goto (tgt := 54) dX6_isAhead_50 (by decide) k) ?_
    exact ev_ret (fun Q q => rn_ret q .boolean rfl rfl dX6_isAhead_54)
  · refine ev_s (fun Q k => rn_iload_n (j := 3) 0 rfl rfl dX6_isAhead_40 k) ?_
    refine ev_if (fun Q => rn_if_ne (tgt := 53) dX6_isAhead_41 (by decide)) (fun c3 => ?_) (fun c4 => ?_)
    · refine ev_s (fun Q k => rn_iload_n (j := 1) 1 rfl rfl dX6_isAhead_44 k) ?_
      refine ev_s (fun Q k => rn_iload_n (j := 2) 2 rfl rfl dX6_isAhead_45 k) ?_
      refine ev_if (fun Q => rn_icmp_ge (tgt := 53) dX6_isAhead_46 (by decide)) (fun c1 => ?_) (fun c2 => ?_)
      · refine ev_s (fun Q k => rn_iconst (v := 0) (by decide) dX6_isAhead_53 k) ?_
        exact ev_ret (fun Q q => rn_ret q .boolean rfl rfl dX6_isAhead_54)
      · refine ev_s (fun Q k => rn_iconst (v := 1) (by decide) dX6_isAhead_49 k) ?_
        refine ev_s (fun Q k => rn_goto (tgt := 54) dX6_isAhead_50 (by decide) k) ?_
        exact ev_ret (fun Q q => rn_ret q .boolean rfl rfl dX6_isAhead_54)
    · refine ev_s (fun Q k => rn_iconst (v := 0) (by decide) dX6_isAhead_53 k) ?_
      exact ev_ret (fun Q q => rn_ret q .boolean rfl rfl dX6_isAhead_54)

set_option maxRecDepth 20000 in
theorem e_X6_isAhead (l : Launch) (E : eE) (d : Nat) (x1 : Int32) (x2 : Int32) (D : dT) : ev l E (d + 1) yX6_isAhead cX6_isAhead 4 (some .boolean) 0 [(0, .inr (.inr 378)), (1, .inl x1), (2, .inl x2)] [] D eI (F_X6_isAhead x1 x2 D) := by
  unfold F_X6_isAhead
  refine ev_s (fun Q k => rn_aload_n (j := 0) 0 rfl rfl (okO_0 ok_378) dX6_isAhead_0 k) ?_
  refine ev_s (fun Q k => rn_iload_n (j := 2) 2 rfl rfl dX6_isAhead_1 k) ?_
  refine ev_s (fun Q k => rn_iconst (v := 3) (by decide) dX6_isAhead_2 k) ?_
  refine ev_bindI (as := [.inr (.inr 378), .inl x2, .inl (3 : Int32)]) (fun Q Q1 => rn_callV (as := [.inl x2, .inl (3 : Int32)]) (rest := []) (o := 378) m_X6_43 dX6_isAhead_3 (rcv_own ok_378.1 ok_378.2.1 (by decide) (okO_1 ok_378)) rfl rfl (Nat.le_of_ble_eq_true rfl)) pl_X6_ofJobs (Nat.le_of_ble_eq_true rfl) rfl (e_X6_ofJobs l E d x2 (3 : Int32) D) (fun r1 D2 => ?_)
  refine ev_s (fun Q k => rn_aload_n (j := 0) 0 rfl rfl (okO_0 ok_378) dX6_isAhead_6 k) ?_
  refine ev_s (fun Q k => rn_iload_n (j := 1) 1 rfl rfl dX6_isAhead_7 k) ?_
  refine ev_s (fun Q k => rn_iconst (v := 3) (by decide) dX6_isAhead_8 k) ?_
  refine ev_bindI (as := [.inr (.inr 378), .inl x1, .inl (3 : Int32)]) (fun Q Q1 => rn_callV (as := [.inl x1, .inl (3 : Int32)]) (rest := [.inl r1]) (o := 378) m_X6_43 dX6_isAhead_9 (rcv_own ok_378.1 ok_378.2.1 (by decide) (okO_1 ok_378)) rfl rfl (Nat.le_of_ble_eq_true rfl)) pl_X6_ofJobs (Nat.le_of_ble_eq_true rfl) rfl (e_X6_ofJobs l E d x1 (3 : Int32) D2) (fun r3 D4 => ?_)
  refine ev_s (fun Q k => rn_isub dX6_isAhead_12 k) ?_
  refine ev_s (fun Q k => rn_istore_n (j := 3) (ls' := [(3, .inl (r1 - r3)), (0, .inr (.inr 378)), (1, .inl x1), (2, .inl x2)]) rfl (by decide) rfl dX6_isAhead_13 k) ?_
  refine ev_s (fun Q k => rn_iload_n (j := 3) 0 rfl rfl dX6_isAhead_14 k) ?_
  refine ev_if (fun Q => rn_if_ne (tgt := 34) dX6_isAhead_15 (by decide)) (fun c9 => ?_) (fun c10 => ?_)
  · refine ev_s (fun Q k => rn_aload_n (j := 0) 1 rfl rfl (okO_0 ok_378) dX6_isAhead_18 k) ?_
    refine ev_s (fun Q k => rn_iload_n (j := 1) 2 rfl rfl dX6_isAhead_19 k) ?_
    refine ev_s (fun Q k => rn_iconst (v := 4) (by decide) dX6_isAhead_20 k) ?_
    refine ev_bindI (as := [.inr (.inr 378), .inl x1, .inl (4 : Int32)]) (fun Q Q1 => rn_callV (as := [.inl x1, .inl (4 : Int32)]) (rest := []) (o := 378) m_X6_43 dX6_isAhead_21 (rcv_own ok_378.1 ok_378.2.1 (by decide) (okO_1 ok_378)) rfl rfl (Nat.le_of_ble_eq_true rfl)) pl_X6_ofJobs (Nat.le_of_ble_eq_true rfl) rfl (e_X6_ofJobs l E d x1 (4 : Int32) D4) (fun r5 D6 => ?_)
    refine ev_s (fun Q k => rn_aload_n (j := 0) 1 rfl rfl (okO_0 ok_378) dX6_isAhead_24 k) ?_
    refine ev_s (fun Q k => rn_iload_n (j := 2) 3 rfl rfl dX6_isAhead_25 k) ?_
    refine ev_s (fun Q k => rn_iconst (v := 4) (by decide) dX6_isAhead_26 k) ?_
    refine ev_bindI (as := [.inr (.inr 378), .inl x2, .inl (4 : Int32)]) (fun Q Q1 => rn_callV (as := [.inl x2, .inl (4 : Int32)]) (rest := [.inl r5]) (o := 378) m_X6_43 dX6_isAhead_27 (rcv_own ok_378.1 ok_378.2.1 (by decide) (okO_1 ok_378)) rfl rfl (Nat.le_of_ble_eq_true rfl)) pl_X6_ofJobs (Nat.le_of_ble_eq_true rfl) rfl (e_X6_ofJobs l E d x2 (4 : Int32) D6) (fun r7 D8 => ?_)
    refine ev_s (fun Q k => rn_isub dX6_isAhead_30 k) ?_
    refine ev_s (fun Q k => rn_goto (tgt := 35) dX6_isAhead_31 (by decide) k) ?_
    refine ev_s (fun Q k => rn_sub (ls' := [(1, .inl x1), (2, .inl x2)]) [2, 3] rfl k) ?_
    exact e_X6_isAhead_35 l E d x1 x2   (r5 - r7) D8
  · refine ev_s (fun Q k => rn_iload_n (j := 3) 0 rfl rfl dX6_isAhead_34 k) ?_
    refine ev_s (fun Q k => rn_sub (ls' := [(1, .inl x1), (2, .inl x2)]) [2, 3] rfl k) ?_
    exact e_X6_isAhead_35 l E d x1 x2   (r1 - r3) D4

def F_X6_waitingAt_85 (x1 : Int32) (x2 : Int32) (k2 : Int32 → dT → Option (Int32 × dT)) (k19 : Int32 → Int32 → Int32 → dT → Option (Int32 × dT)) (v3 : Int32) (v5 : Int32) (s0 : Int32) (s1 : Int32) (D : dT) : Option (Int32 × dT) := k19 v3 (s1 + s0) (v5 + (1 : Int32)) D
def F_X6_waitingAt_84 (x1 : Int32) (x2 : Int32) (k2 : Int32 → dT → Option (Int32 × dT)) (k19 : Int32 → Int32 → Int32 → dT → Option (Int32 × dT)) (v3 : Int32) (v5 : Int32) (s0 : Int32) (D : dT) : Option (Int32 × dT) := F_X6_waitingAt_85 x1 x2 k2 k19 v3 v5 (0 : Int32) s0 D
def F_X6_waitingAt_55 (x1 : Int32) (x2 : Int32) (k2 : Int32 → dT → Option (Int32 × dT)) (k19 : Int32 → Int32 → Int32 → dT → Option (Int32 × dT)) (v3 : Int32) (v4 : Int32) (v5 : Int32) (s0 : Int32) (D : dT) : Option (Int32 × dT) := if s0 = 0 then F_X6_waitingAt_84 x1 x2 k2 k19 v3 v5 v4 D else if v5 = v3 then F_X6_waitingAt_84 x1 x2 k2 k19 v3 v5 v4 D else bd (F_X6_isAhead v5 v3 D) (fun (r1 : Int32) (D2 : dT) => if r1 = 0 then F_X6_waitingAt_84 x1 x2 k2 k19 v3 v5 v4 D2 else F_X6_waitingAt_85 x1 x2 k2 k19 v3 v5 (1 : Int32) v4 D2)
def F_X6_waitingAt_54 (x1 : Int32) (x2 : Int32) (k2 : Int32 → dT → Option (Int32 × dT)) (k19 : Int32 → Int32 → Int32 → dT → Option (Int32 × dT)) (v3 : Int32) (v4 : Int32) (v5 : Int32) (D : dT) : Option (Int32 × dT) := F_X6_waitingAt_55 x1 x2 k2 k19 v3 v4 v5 (0 : Int32) D
def F_X6_waitingAt_19 (fuel : Nat) (x1 : Int32) (x2 : Int32) (k2 : Int32 → dT → Option (Int32 × dT)) (v3 : Int32) (v4 : Int32) (v5 : Int32) (D : dT) : Option (Int32 × dT) := match fuel with
  | 0 => none
  | fu + 1 => if inR (6 : Int32) 244 then if (D 379 (6 : Int32).toNatClampNeg) ≤ v5 then bd (F_X6_ofJobs v3 (5 : Int32) D) (fun (r2 : Int32) (D3 : dT) => if r2 = 0 then if ((x2 >>> (v3 &&& 31)) &&& (1 : Int32)) = 0 then if v4 = x1 then some (v3, D3) else k2 (v3 + (1 : Int32)) D3 else k2 (v3 + (1 : Int32)) D3 else k2 (v3 + (1 : Int32)) D3) else bd (F_X6_ofJobs v5 (5 : Int32) D) (fun (r10 : Int32) (D11 : dT) => if r10 = 0 then if ((x2 >>> (v5 &&& 31)) &&& (1 : Int32)) = 0 then F_X6_waitingAt_55 x1 x2 k2 (fun (v3_ : Int32) (v4_ : Int32) (v5_ : Int32) (D_ : dT) => F_X6_waitingAt_19 fu x1 x2 k2 v3_ v4_ v5_ D_) v3 v4 v5 (1 : Int32) D11 else F_X6_waitingAt_54 x1 x2 k2 (fun (v3_ : Int32) (v4_ : Int32) (v5_ : Int32) (D_ : dT) => F_X6_waitingAt_19 fu x1 x2 k2 v3_ v4_ v5_ D_) v3 v4 v5 D11 else F_X6_waitingAt_54 x1 x2 k2 (fun (v3_ : Int32) (v4_ : Int32) (v5_ : Int32) (D_ : dT) => F_X6_waitingAt_19 fu x1 x2 k2 v3_ v4_ v5_ D_) v3 v4 v5 D11) else none
def F_X6_waitingAt_2 (fuel : Nat) (x1 : Int32) (x2 : Int32)  (v3 : Int32) (D : dT) : Option (Int32 × dT) := match fuel with
  | 0 => none
  | fu + 1 => if inR (6 : Int32) 244 then if (D 379 (6 : Int32).toNatClampNeg) ≤ v3 then some ((-6 : Int32), D) else F_X6_waitingAt_19 lim x1 x2 (fun (v3_ : Int32) (D_ : dT) => F_X6_waitingAt_2 fu x1 x2 v3_ D_) v3 (0 : Int32) (0 : Int32) D else none
def F_X6_waitingAt (x1 : Int32) (x2 : Int32) (D : dT) : Option (Int32 × dT) := F_X6_waitingAt_2 lim x1 x2 (0 : Int32) D
set_option maxRecDepth 20000 in
theorem e_X6_waitingAt_85 (l : Launch) (E : eE) (d : Nat) (x1 : Int32) (x2 : Int32) (k2 : Int32 → dT → Option (Int32 × dT)) (hk2 : ∀ (v3 : Int32) (D : dT), ev l E (d + 2) yX6_waitingAt cX6_waitingAt 7 (some .int) 2 [(0, .inr (.inr 378)), (1, .inl x1), (2, .inl x2), (3, .inl v3)] [] D eI (k2 v3 D)) (k19 : Int32 → Int32 → Int32 → dT → Option (Int32 × dT)) (hk19 : ∀ (v3 : Int32) (v4 : Int32) (v5 : Int32) (D : dT), ev l E (d + 2) yX6_waitingAt cX6_waitingAt 7 (some .int) 19 [(0, .inr (.inr 378)), (1, .inl x1), (2, .inl x2), (3, .inl v3), (4, .inl v4), (5, .inl v5)] [] D eI (k19 v3 v4 v5 D)) (v3 : Int32) (v5 : Int32) (s0 : Int32) (s1 : Int32) (D : dT) : ev l E (d + 2) yX6_waitingAt cX6_waitingAt 7 (some .int) 85 [(0, .inr (.inr 378)), (1, .inl x1), (2, .inl x2), (3, .inl v3), (5, .inl v5)] [.inl s0, .inl s1] D eI (F_X6_waitingAt_85 x1 x2 k2 k19 v3 v5 s0 s1 D) := by
  unfold F_X6_waitingAt_85
  refine ev_s (fun Q k => rn_iadd dX6_waitingAt_85 k) ?_
  refine ev_s (fun Q k => rn_istore (j := 4) (ls' := [(4, .inl (s1 + s0)), (0, .inr (.inr 378)), (1, .inl x1), (2, .inl x2), (3, .inl v3), (5, .inl v5)]) (by decide) rfl dX6_waitingAt_86 k) ?_
  refine ev_s (fun Q k => rn_iinc (v := (v5 + (1 : Int32))) (ls' := [(5, .inl (v5 + (1 : Int32))), (4, .inl (s1 + s0)), (0, .inr (.inr 378)), (1, .inl x1), (2, .inl x2), (3, .inl v3)]) 5 rfl rfl (by decide) rfl dX6_waitingAt_88 k) ?_
  refine ev_s (fun Q k => rn_goto (tgt := 19) dX6_waitingAt_91 (by decide) k) ?_
  refine ev_s (fun Q k => rn_sub (ls' := [(0, .inr (.inr 378)), (1, .inl x1), (2, .inl x2), (3, .inl v3), (4, .inl (s1 + s0)), (5, .inl (v5 + (1 : Int32)))]) [2, 3, 4, 5, 1, 0] rfl k) ?_
  exact hk19 v3 (s1 + s0) (v5 + (1 : Int32)) D

set_option maxRecDepth 20000 in
theorem e_X6_waitingAt_84 (l : Launch) (E : eE) (d : Nat) (x1 : Int32) (x2 : Int32) (k2 : Int32 → dT → Option (Int32 × dT)) (hk2 : ∀ (v3 : Int32) (D : dT), ev l E (d + 2) yX6_waitingAt cX6_waitingAt 7 (some .int) 2 [(0, .inr (.inr 378)), (1, .inl x1), (2, .inl x2), (3, .inl v3)] [] D eI (k2 v3 D)) (k19 : Int32 → Int32 → Int32 → dT → Option (Int32 × dT)) (hk19 : ∀ (v3 : Int32) (v4 : Int32) (v5 : Int32) (D : dT), ev l E (d + 2) yX6_waitingAt cX6_waitingAt 7 (some .int) 19 [(0, .inr (.inr 378)), (1, .inl x1), (2, .inl x2), (3, .inl v3), (4, .inl v4), (5, .inl v5)] [] D eI (k19 v3 v4 v5 D)) (v3 : Int32) (v5 : Int32) (s0 : Int32) (D : dT) : ev l E (d + 2) yX6_waitingAt cX6_waitingAt 7 (some .int) 84 [(0, .inr (.inr 378)), (1, .inl x1), (2, .inl x2), (3, .inl v3), (5, .inl v5)] [.inl s0] D eI (F_X6_waitingAt_84 x1 x2 k2 k19 v3 v5 s0 D) := by
  unfold F_X6_waitingAt_84
  refine ev_s (fun Q k => rn_iconst (v := 0) (by decide) dX6_waitingAt_84 k) ?_
  exact e_X6_waitingAt_85 l E d x1 x2 k2 hk2 k19 hk19  v3 v5 (0 : Int32) s0 D

set_option maxRecDepth 20000 in
theorem e_X6_waitingAt_55 (l : Launch) (E : eE) (d : Nat) (x1 : Int32) (x2 : Int32) (k2 : Int32 → dT → Option (Int32 × dT)) (hk2 : ∀ (v3 : Int32) (D : dT), ev l E (d + 2) yX6_waitingAt cX6_waitingAt 7 (some .int) 2 [(0, .inr (.inr 378)), (1, .inl x1), (2, .inl x2), (3, .inl v3)] [] D eI (k2 v3 D)) (k19 : Int32 → Int32 → Int32 → dT → Option (Int32 × dT)) (hk19 : ∀ (v3 : Int32) (v4 : Int32) (v5 : Int32) (D : dT), ev l E (d + 2) yX6_waitingAt cX6_waitingAt 7 (some .int) 19 [(0, .inr (.inr 378)), (1, .inl x1), (2, .inl x2), (3, .inl v3), (4, .inl v4), (5, .inl v5)] [] D eI (k19 v3 v4 v5 D)) (v3 : Int32) (v4 : Int32) (v5 : Int32) (s0 : Int32) (D : dT) : ev l E (d + 2) yX6_waitingAt cX6_waitingAt 7 (some .int) 55 [(0, .inr (.inr 378)), (1, .inl x1), (2, .inl x2), (3, .inl v3), (4, .inl v4), (5, .inl v5)] [.inl s0] D eI (F_X6_waitingAt_55 x1 x2 k2 k19 v3 v4 v5 s0 D) := by
  unfold F_X6_waitingAt_55
  refine ev_s (fun Q k => rn_istore (j := 6) (ls' := [(6, .inl s0), (0, .inr (.inr 378)), (1, .inl x1), (2, .inl x2), (3, .inl v3), (4, .inl v4), (5, .inl v5)]) (by decide) rfl dX6_waitingAt_55 k) ?_
  refine ev_s (fun Q k => rn_iload (j := 4) 5 rfl dX6_waitingAt_57 k) ?_
  refine ev_s (fun Q k => rn_iload (j := 6) 0 rfl dX6_waitingAt_59 k) ?_
  refine ev_if (fun Q => rn_if_eq (tgt := 84) dX6_waitingAt_61 (by decide)) (fun c7 => ?_) (fun c8 => ?_)
  · refine ev_s (fun Q k => rn_sub (ls' := [(0, .inr (.inr 378)), (1, .inl x1), (2, .inl x2), (3, .inl v3), (5, .inl v5)]) [1, 2, 3, 4, 6] rfl k) ?_
    exact e_X6_waitingAt_84 l E d x1 x2 k2 hk2 k19 hk19  v3 v5 v4 D
  · refine ev_s (fun Q k => rn_iload (j := 5) 6 rfl dX6_waitingAt_64 k) ?_
    refine ev_s (fun Q k => rn_iload_n (j := 3) 4 rfl rfl dX6_waitingAt_66 k) ?_
    refine ev_if (fun Q => rn_icmp_eq (tgt := 84) dX6_waitingAt_67 (by decide)) (fun c5 => ?_) (fun c6 => ?_)
    · refine ev_s (fun Q k => rn_sub (ls' := [(0, .inr (.inr 378)), (1, .inl x1), (2, .inl x2), (3, .inl v3), (5, .inl v5)]) [1, 2, 3, 4, 6] rfl k) ?_
      exact e_X6_waitingAt_84 l E d x1 x2 k2 hk2 k19 hk19  v3 v5 v4 D
    · refine ev_s (fun Q k => rn_aload_n (j := 0) 1 rfl rfl (okO_0 ok_378) dX6_waitingAt_70 k) ?_
      refine ev_s (fun Q k => rn_iload (j := 5) 6 rfl dX6_waitingAt_71 k) ?_
      refine ev_s (fun Q k => rn_iload_n (j := 3) 4 rfl rfl dX6_waitingAt_73 k) ?_
      refine ev_bindI (as := [.inr (.inr 378), .inl v5, .inl v3]) (fun Q Q1 => rn_callV (as := [.inl v5, .inl v3]) (rest := [.inl v4]) (o := 378) m_X6_81 dX6_waitingAt_74 (rcv_own ok_378.1 ok_378.2.1 (by decide) (okO_1 ok_378)) rfl rfl (Nat.le_of_ble_eq_true rfl)) pl_X6_isAhead (Nat.le_of_ble_eq_true rfl) rfl (e_X6_isAhead l E d v5 v3 D) (fun r1 D2 => ?_)
      refine ev_if (fun Q => rn_if_eq (tgt := 84) dX6_waitingAt_77 (by decide)) (fun c3 => ?_) (fun c4 => ?_)
      · refine ev_s (fun Q k => rn_sub (ls' := [(0, .inr (.inr 378)), (1, .inl x1), (2, .inl x2), (3, .inl v3), (5, .inl v5)]) [1, 2, 3, 4, 6] rfl k) ?_
        exact e_X6_waitingAt_84 l E d x1 x2 k2 hk2 k19 hk19  v3 v5 v4 D2
      · refine ev_s (fun Q k => rn_iconst (v := 1) (by decide) dX6_waitingAt_80 k) ?_
        refine ev_s (fun Q k => rn_goto (tgt := 85) dX6_waitingAt_81 (by decide) k) ?_
        refine ev_s (fun Q k => rn_sub (ls' := [(0, .inr (.inr 378)), (1, .inl x1), (2, .inl x2), (3, .inl v3), (5, .inl v5)]) [1, 2, 3, 4, 6] rfl k) ?_
        exact e_X6_waitingAt_85 l E d x1 x2 k2 hk2 k19 hk19  v3 v5 (1 : Int32) v4 D2

set_option maxRecDepth 20000 in
theorem e_X6_waitingAt_54 (l : Launch) (E : eE) (d : Nat) (x1 : Int32) (x2 : Int32) (k2 : Int32 → dT → Option (Int32 × dT)) (hk2 : ∀ (v3 : Int32) (D : dT), ev l E (d + 2) yX6_waitingAt cX6_waitingAt 7 (some .int) 2 [(0, .inr (.inr 378)), (1, .inl x1), (2, .inl x2), (3, .inl v3)] [] D eI (k2 v3 D)) (k19 : Int32 → Int32 → Int32 → dT → Option (Int32 × dT)) (hk19 : ∀ (v3 : Int32) (v4 : Int32) (v5 : Int32) (D : dT), ev l E (d + 2) yX6_waitingAt cX6_waitingAt 7 (some .int) 19 [(0, .inr (.inr 378)), (1, .inl x1), (2, .inl x2), (3, .inl v3), (4, .inl v4), (5, .inl v5)] [] D eI (k19 v3 v4 v5 D)) (v3 : Int32) (v4 : Int32) (v5 : Int32) (D : dT) : ev l E (d + 2) yX6_waitingAt cX6_waitingAt 7 (some .int) 54 [(0, .inr (.inr 378)), (1, .inl x1), (2, .inl x2), (3, .inl v3), (4, .inl v4), (5, .inl v5)] [] D eI (F_X6_waitingAt_54 x1 x2 k2 k19 v3 v4 v5 D) := by
  unfold F_X6_waitingAt_54
  refine ev_s (fun Q k => rn_iconst (v := 0) (by decide) dX6_waitingAt_54 k) ?_
  exact e_X6_waitingAt_55 l E d x1 x2 k2 hk2 k19 hk19  v3 v4 v5 (0 : Int32) D

set_option maxRecDepth 20000 in
theorem e_X6_waitingAt_19 (l : Launch) (E : eE) (d : Nat) (x1 : Int32) (x2 : Int32) (k2 : Int32 → dT → Option (Int32 × dT)) (hk2 : ∀ (v3 : Int32) (D : dT), ev l E (d + 2) yX6_waitingAt cX6_waitingAt 7 (some .int) 2 [(0, .inr (.inr 378)), (1, .inl x1), (2, .inl x2), (3, .inl v3)] [] D eI (k2 v3 D)) (fuel : Nat) : ∀ (v3 : Int32) (v4 : Int32) (v5 : Int32) (D : dT), ev l E (d + 2) yX6_waitingAt cX6_waitingAt 7 (some .int) 19 [(0, .inr (.inr 378)), (1, .inl x1), (2, .inl x2), (3, .inl v3), (4, .inl v4), (5, .inl v5)] [] D eI (F_X6_waitingAt_19 fuel x1 x2 k2 v3 v4 v5 D) := by
  induction fuel with
  | zero =>
    intro v3 v4 v5 D
    exact ev_none
  | succ fu ih =>
    intro v3 v4 v5 D
    rw [F_X6_waitingAt_19]
    refine ev_s (fun Q k => rn_iload (j := 5) 5 rfl dX6_waitingAt_19 k) ?_
    refine ev_s (fun Q k => rn_aload_n (j := 0) 0 rfl rfl (okO_0 ok_378) dX6_waitingAt_21 k) ?_
    refine ev_s (fun Q k => rn_getr (q := 379) f_X6_7 ok_378.1 ok_378.2.1 (okO_1 ok_378) rfl rfl dX6_waitingAt_22 k) ?_
    refine ev_s (fun Q k => rn_bipush (v := 6) (by decide) dX6_waitingAt_25 k) ?_
    refine ev_gd (fun g1 => ?_)
    refine ev_s (fun Q k => rn_iald ok_379.1 ok_379.2.1 ok_379.2.2 (inR_vp g1) dX6_waitingAt_27 k) ?_
    refine ev_if (fun Q => rn_icmp_ge (tgt := 94) dX6_waitingAt_28 (by decide)) (fun c16 => ?_) (fun c17 => ?_)
    · refine ev_s (fun Q k => rn_aload_n (j := 0) 0 rfl rfl (okO_0 ok_378) dX6_waitingAt_94 k) ?_
      refine ev_s (fun Q k => rn_iload_n (j := 3) 3 rfl rfl dX6_waitingAt_95 k) ?_
      refine ev_s (fun Q k => rn_iconst (v := 5) (by decide) dX6_waitingAt_96 k) ?_
      refine ev_bindI (as := [.inr (.inr 378), .inl v3, .inl (5 : Int32)]) (fun Q Q1 => rn_callV (as := [.inl v3, .inl (5 : Int32)]) (rest := []) (o := 378) m_X6_43 dX6_waitingAt_97 (rcv_own ok_378.1 ok_378.2.1 (by decide) (okO_1 ok_378)) rfl rfl (Nat.le_of_ble_eq_true rfl)) pl_X6_ofJobs (Nat.le_of_ble_eq_true rfl) rfl (e_X6_ofJobs l E (d + 1) v3 (5 : Int32) D) (fun r2 D3 => ?_)
      refine ev_if (fun Q => rn_if_ne (tgt := 119) dX6_waitingAt_100 (by decide)) (fun c8 => ?_) (fun c9 => ?_)
      · refine ev_s (fun Q k => rn_iload_n (j := 2) 2 rfl rfl dX6_waitingAt_103 k) ?_
        refine ev_s (fun Q k => rn_iload_n (j := 3) 3 rfl rfl dX6_waitingAt_104 k) ?_
        refine ev_s (fun Q k => rn_ishr dX6_waitingAt_105 k) ?_
        refine ev_s (fun Q k => rn_iconst (v := 1) (by decide) dX6_waitingAt_106 k) ?_
        refine ev_s (fun Q k => rn_iand dX6_waitingAt_107 k) ?_
        refine ev_if (fun Q => rn_if_ne (tgt := 119) dX6_waitingAt_108 (by decide)) (fun c6 => ?_) (fun c7 => ?_)
        · refine ev_s (fun Q k => rn_iload (j := 4) 4 rfl dX6_waitingAt_111 k) ?_
          refine ev_s (fun Q k => rn_iload_n (j := 1) 1 rfl rfl dX6_waitingAt_113 k) ?_
          refine ev_if (fun Q => rn_icmp_ne (tgt := 119) dX6_waitingAt_114 (by decide)) (fun c4 => ?_) (fun c5 => ?_)
          · refine ev_s (fun Q k => rn_iload_n (j := 3) 3 rfl rfl dX6_waitingAt_117 k) ?_
            exact ev_ret (fun Q q => rn_ret q .int rfl rfl dX6_waitingAt_118)
          · refine ev_s (fun Q k => rn_iinc (v := (v3 + (1 : Int32))) (ls' := [(3, .inl (v3 + (1 : Int32))), (0, .inr (.inr 378)), (1, .inl x1), (2, .inl x2), (4, .inl v4), (5, .inl v5)]) 3 rfl rfl (by decide) rfl dX6_waitingAt_119 k) ?_
            refine ev_s (fun Q k => rn_goto (tgt := 2) dX6_waitingAt_122 (by decide) k) ?_
            refine ev_s (fun Q k => rn_sub (ls' := [(0, .inr (.inr 378)), (1, .inl x1), (2, .inl x2), (3, .inl (v3 + (1 : Int32)))]) [1, 2, 3, 0] rfl k) ?_
            exact hk2 (v3 + (1 : Int32)) D3
        · refine ev_s (fun Q k => rn_iinc (v := (v3 + (1 : Int32))) (ls' := [(3, .inl (v3 + (1 : Int32))), (0, .inr (.inr 378)), (1, .inl x1), (2, .inl x2), (4, .inl v4), (5, .inl v5)]) 3 rfl rfl (by decide) rfl dX6_waitingAt_119 k) ?_
          refine ev_s (fun Q k => rn_goto (tgt := 2) dX6_waitingAt_122 (by decide) k) ?_
          refine ev_s (fun Q k => rn_sub (ls' := [(0, .inr (.inr 378)), (1, .inl x1), (2, .inl x2), (3, .inl (v3 + (1 : Int32)))]) [1, 2, 3, 0] rfl k) ?_
          exact hk2 (v3 + (1 : Int32)) D3
      · refine ev_s (fun Q k => rn_iinc (v := (v3 + (1 : Int32))) (ls' := [(3, .inl (v3 + (1 : Int32))), (0, .inr (.inr 378)), (1, .inl x1), (2, .inl x2), (4, .inl v4), (5, .inl v5)]) 3 rfl rfl (by decide) rfl dX6_waitingAt_119 k) ?_
        refine ev_s (fun Q k => rn_goto (tgt := 2) dX6_waitingAt_122 (by decide) k) ?_
        refine ev_s (fun Q k => rn_sub (ls' := [(0, .inr (.inr 378)), (1, .inl x1), (2, .inl x2), (3, .inl (v3 + (1 : Int32)))]) [1, 2, 3, 0] rfl k) ?_
        exact hk2 (v3 + (1 : Int32)) D3
    · refine ev_s (fun Q k => rn_aload_n (j := 0) 0 rfl rfl (okO_0 ok_378) dX6_waitingAt_31 k) ?_
      refine ev_s (fun Q k => rn_iload (j := 5) 5 rfl dX6_waitingAt_32 k) ?_
      refine ev_s (fun Q k => rn_iconst (v := 5) (by decide) dX6_waitingAt_34 k) ?_
      refine ev_bindI (as := [.inr (.inr 378), .inl v5, .inl (5 : Int32)]) (fun Q Q1 => rn_callV (as := [.inl v5, .inl (5 : Int32)]) (rest := []) (o := 378) m_X6_43 dX6_waitingAt_35 (rcv_own ok_378.1 ok_378.2.1 (by decide) (okO_1 ok_378)) rfl rfl (Nat.le_of_ble_eq_true rfl)) pl_X6_ofJobs (Nat.le_of_ble_eq_true rfl) rfl (e_X6_ofJobs l E (d + 1) v5 (5 : Int32) D) (fun r10 D11 => ?_)
      refine ev_if (fun Q => rn_if_ne (tgt := 54) dX6_waitingAt_38 (by decide)) (fun c14 => ?_) (fun c15 => ?_)
      · refine ev_s (fun Q k => rn_iload_n (j := 2) 2 rfl rfl dX6_waitingAt_41 k) ?_
        refine ev_s (fun Q k => rn_iload (j := 5) 5 rfl dX6_waitingAt_42 k) ?_
        refine ev_s (fun Q k => rn_ishr dX6_waitingAt_44 k) ?_
        refine ev_s (fun Q k => rn_iconst (v := 1) (by decide) dX6_waitingAt_45 k) ?_
        refine ev_s (fun Q k => rn_iand dX6_waitingAt_46 k) ?_
        refine ev_if (fun Q => rn_if_ne (tgt := 54) dX6_waitingAt_47 (by decide)) (fun c12 => ?_) (fun c13 => ?_)
        · refine ev_s (fun Q k => rn_iconst (v := 1) (by decide) dX6_waitingAt_50 k) ?_
          refine ev_s (fun Q k => rn_goto (tgt := 55) dX6_waitingAt_51 (by decide) k) ?_
          exact e_X6_waitingAt_55 l E d x1 x2 k2 hk2 (fun (v3_ : Int32) (v4_ : Int32) (v5_ : Int32) (D_ : dT) => F_X6_waitingAt_19 fu x1 x2 k2 v3_ v4_ v5_ D_) (fun v3_ v4_ v5_ D_ => ih v3_ v4_ v5_ D_)  v3 v4 v5 (1 : Int32) D11
        · exact e_X6_waitingAt_54 l E d x1 x2 k2 hk2 (fun (v3_ : Int32) (v4_ : Int32) (v5_ : Int32) (D_ : dT) => F_X6_waitingAt_19 fu x1 x2 k2 v3_ v4_ v5_ D_) (fun v3_ v4_ v5_ D_ => ih v3_ v4_ v5_ D_)  v3 v4 v5 D11
      · exact e_X6_waitingAt_54 l E d x1 x2 k2 hk2 (fun (v3_ : Int32) (v4_ : Int32) (v5_ : Int32) (D_ : dT) => F_X6_waitingAt_19 fu x1 x2 k2 v3_ v4_ v5_ D_) (fun v3_ v4_ v5_ D_ => ih v3_ v4_ v5_ D_)  v3 v4 v5 D11

set_option maxRecDepth 20000 in
theorem e_X6_waitingAt_2 (l : Launch) (E : eE) (d : Nat) (x1 : Int32) (x2 : Int32)  (fuel : Nat) : ∀ (v3 : Int32) (D : dT), ev l E (d + 2) yX6_waitingAt cX6_waitingAt 7 (some .int) 2 [(0, .inr (.inr 378)), (1, .inl x1), (2, .inl x2), (3, .inl v3)] [] D eI (F_X6_waitingAt_2 fuel x1 x2 v3 D) := by
  induction fuel with
  | zero =>
    intro v3 D
    exact ev_none
  | succ fu ih =>
    intro v3 D
    rw [F_X6_waitingAt_2]
    refine ev_s (fun Q k => rn_iload_n (j := 3) 3 rfl rfl dX6_waitingAt_2 k) ?_
    refine ev_s (fun Q k => rn_aload_n (j := 0) 0 rfl rfl (okO_0 ok_378) dX6_waitingAt_3 k) ?_
    refine ev_s (fun Q k => rn_getr (q := 379) f_X6_7 ok_378.1 ok_378.2.1 (okO_1 ok_378) rfl rfl dX6_waitingAt_4 k) ?_
    refine ev_s (fun Q k => rn_bipush (v := 6) (by decide) dX6_waitingAt_7 k) ?_
    refine ev_gd (fun g1 => ?_)
    refine ev_s (fun Q k => rn_iald ok_379.1 ok_379.2.1 ok_379.2.2 (inR_vp g1) dX6_waitingAt_9 k) ?_
    refine ev_if (fun Q => rn_icmp_ge (tgt := 125) dX6_waitingAt_10 (by decide)) (fun c2 => ?_) (fun c3 => ?_)
    · refine ev_s (fun Q k => rn_bipush (v := -6) (by decide) dX6_waitingAt_125 k) ?_
      exact ev_ret (fun Q q => rn_ret q .int rfl rfl dX6_waitingAt_127)
    · refine ev_s (fun Q k => rn_iconst (v := 0) (by decide) dX6_waitingAt_13 k) ?_
      refine ev_s (fun Q k => rn_istore (j := 4) (ls' := [(4, .inl (0 : Int32)), (0, .inr (.inr 378)), (1, .inl x1), (2, .inl x2), (3, .inl v3)]) (by decide) rfl dX6_waitingAt_14 k) ?_
      refine ev_s (fun Q k => rn_iconst (v := 0) (by decide) dX6_waitingAt_16 k) ?_
      refine ev_s (fun Q k => rn_istore (j := 5) (ls' := [(5, .inl (0 : Int32)), (4, .inl (0 : Int32)), (0, .inr (.inr 378)), (1, .inl x1), (2, .inl x2), (3, .inl v3)]) (by decide) rfl dX6_waitingAt_17 k) ?_
      refine ev_s (fun Q k => rn_sub (ls' := [(0, .inr (.inr 378)), (1, .inl x1), (2, .inl x2), (3, .inl v3), (4, .inl (0 : Int32)), (5, .inl (0 : Int32))]) [2, 3, 4, 5, 1, 0] rfl k) ?_
      exact e_X6_waitingAt_19 l E d x1 x2 (fun (v3_ : Int32) (D_ : dT) => F_X6_waitingAt_2 fu x1 x2 v3_ D_) (fun v3_ D_ => ih v3_ D_) lim v3 (0 : Int32) (0 : Int32) D

set_option maxRecDepth 20000 in
theorem e_X6_waitingAt (l : Launch) (E : eE) (d : Nat) (x1 : Int32) (x2 : Int32) (D : dT) : ev l E (d + 2) yX6_waitingAt cX6_waitingAt 7 (some .int) 0 [(0, .inr (.inr 378)), (1, .inl x1), (2, .inl x2)] [] D eI (F_X6_waitingAt x1 x2 D) := by
  unfold F_X6_waitingAt
  refine ev_s (fun Q k => rn_iconst (v := 0) (by decide) dX6_waitingAt_0 k) ?_
  refine ev_s (fun Q k => rn_istore_n (j := 3) (ls' := [(3, .inl (0 : Int32)), (0, .inr (.inr 378)), (1, .inl x1), (2, .inl x2)]) rfl (by decide) rfl dX6_waitingAt_1 k) ?_
  refine ev_s (fun Q k => rn_sub (ls' := [(0, .inr (.inr 378)), (1, .inl x1), (2, .inl x2), (3, .inl (0 : Int32))]) [1, 2, 3, 0] rfl k) ?_
  exact e_X6_waitingAt_2 l E d x1 x2  lim (0 : Int32) D

