def F_X0_strongestOutside_8 (fuel : Nat) (B : Nat) (x1 : Int32)  (v2 : Int32) (v3 : Int32) (v4 : Int32) (D : dT) : Option (Int32 × dT) := match fuel with
  | 0 => none
  | fu + 1 => if (D B 5) ≤ v4 then some (v2, D) else bd (F_X5_isIn v4 x1 D) (fun (r1 : Int32) (D2 : dT) => if r1 = 0 then if inR v4 10 then if (D2 (B + 6 + v4.toNatClampNeg) 1) ≤ v3 then F_X0_strongestOutside_8 fu B x1 v2 v3 (v4 + (1 : Int32)) D2 else if inR v4 10 then F_X0_strongestOutside_8 fu B x1 v4 (D2 (B + 6 + v4.toNatClampNeg) 1) (v4 + (1 : Int32)) D2 else none else none else F_X0_strongestOutside_8 fu B x1 v2 v3 (v4 + (1 : Int32)) D2)
def F_X0_strongestOutside (B : Nat) (x1 : Int32) (D : dT) : Option (Int32 × dT) := F_X0_strongestOutside_8 lim B x1 (-6 : Int32) (-1 : Int32) (0 : Int32) D
set_option maxRecDepth 20000 in
theorem e_X0_strongestOutside_8 (l : Launch) (E : eE) (d : Nat) (B : Nat) (hB : isF B) (x1 : Int32)  (fuel : Nat) : ∀ (v2 : Int32) (v3 : Int32) (v4 : Int32) (D : dT), ev l E (d + 1) yX0_strongestOutside cX0_strongestOutside 5 (some .int) 8 [(0, .inr (.inr B)), (1, .inl x1), (2, .inl v2), (3, .inl v3), (4, .inl v4)] [] D eI (F_X0_strongestOutside_8 fuel B x1 v2 v3 v4 D) := by
  induction fuel with
  | zero =>
    intro v2 v3 v4 D
    exact ev_none
  | succ fu ih =>
    intro v2 v3 v4 D
    rw [F_X0_strongestOutside_8]
    refine ev_s (fun Q k => rn_iload (j := 4) 4 rfl dX0_strongestOutside_8 k) ?_
    refine ev_s (fun Q k => rn_aload_n (j := 0) 0 rfl rfl (okO_0 (oF hB)) dX0_strongestOutside_10 k) ?_
    refine ev_s (fun Q k => rn_geti f_X0_41 (oF hB).1 (oF hB).2.1 (okO_1 (oF hB)) rfl dX0_strongestOutside_11 k) ?_
    refine ev_if (fun Q => rn_icmp_ge (tgt := 60) dX0_strongestOutside_14 (by decide)) (fun c9 => ?_) (fun c10 => ?_)
    · refine ev_s (fun Q k => rn_iload_n (j := 2) 2 rfl rfl dX0_strongestOutside_60 k) ?_
      exact ev_ret (fun Q q => rn_ret q .int rfl rfl dX0_strongestOutside_61)
    · refine ev_s (fun Q k => rn_iload (j := 4) 4 rfl dX0_strongestOutside_17 k) ?_
      refine ev_s (fun Q k => rn_iload_n (j := 1) 1 rfl rfl dX0_strongestOutside_19 k) ?_
      refine ev_bindI (as := [.inl v4, .inl x1]) (fun Q Q1 => rn_callSN (as := [.inl v4, .inl x1]) (rest := []) m_X0_101 dX0_strongestOutside_20 rfl rfl (Nat.le_of_ble_eq_true rfl)) pl_X5_isIn (Nat.le_of_ble_eq_true rfl) rfl (e_X5_isIn l E d v4 x1 D) (fun r1 D2 => ?_)
      refine ev_if (fun Q => rn_if_ne (tgt := 54) dX0_strongestOutside_23 (by decide)) (fun c7 => ?_) (fun c8 => ?_)
      · refine ev_s (fun Q k => rn_aload_n (j := 0) 0 rfl rfl (okO_0 (oF hB)) dX0_strongestOutside_26 k) ?_
        refine ev_s (fun Q k => rn_getr (q := (B + 4)) f_X0_23 (oF hB).1 (oF hB).2.1 (okO_1 (oF hB)) rfl (rF3 hB) dX0_strongestOutside_27 k) ?_
        refine ev_s (fun Q k => rn_iload (j := 4) 4 rfl dX0_strongestOutside_30 k) ?_
        refine ev_gd (fun g3 => ?_)
        refine ev_s (fun Q k => rn_aald (q := (B + 6 + v4.toNatClampNeg)) (oF4 hB).1 (oF4 hB).2.1 (by decide) (by decide) (oF4 hB).2.2 (inR_vp g3) (rP hB g3.2) dX0_strongestOutside_32 k) ?_
        refine ev_s (fun Q k => rn_geti f_X0_105 (oP hB g3.2).1 (oP hB g3.2).2.1 (okO_1 (oP hB g3.2)) rfl dX0_strongestOutside_33 k) ?_
        refine ev_s (fun Q k => rn_iload_n (j := 3) 3 rfl rfl dX0_strongestOutside_36 k) ?_
        refine ev_if (fun Q => rn_icmp_le (tgt := 54) dX0_strongestOutside_37 (by decide)) (fun c5 => ?_) (fun c6 => ?_)
        · refine ev_s (fun Q k => rn_iinc (v := (v4 + (1 : Int32))) (ls' := [(4, .inl (v4 + (1 : Int32))), (0, .inr (.inr B)), (1, .inl x1), (2, .inl v2), (3, .inl v3)]) 4 rfl rfl (by decide) rfl dX0_strongestOutside_54 k) ?_
          refine ev_s (fun Q k => rn_goto (tgt := 8) dX0_strongestOutside_57 (by decide) k) ?_
          refine ev_s (fun Q k => rn_sub (ls' := [(0, .inr (.inr B)), (1, .inl x1), (2, .inl v2), (3, .inl v3), (4, .inl (v4 + (1 : Int32)))]) [1, 2, 3, 4, 0] rfl k) ?_
          exact ih v2 v3 (v4 + (1 : Int32)) D2
        · refine ev_s (fun Q k => rn_iload (j := 4) 4 rfl dX0_strongestOutside_40 k) ?_
          refine ev_s (fun Q k => rn_istore_n (j := 2) (ls' := [(2, .inl v4), (0, .inr (.inr B)), (1, .inl x1), (3, .inl v3), (4, .inl v4)]) rfl (by decide) rfl dX0_strongestOutside_42 k) ?_
          refine ev_s (fun Q k => rn_aload_n (j := 0) 1 rfl rfl (okO_0 (oF hB)) dX0_strongestOutside_43 k) ?_
          refine ev_s (fun Q k => rn_getr (q := (B + 4)) f_X0_23 (oF hB).1 (oF hB).2.1 (okO_1 (oF hB)) rfl (rF3 hB) dX0_strongestOutside_44 k) ?_
          refine ev_s (fun Q k => rn_iload (j := 4) 4 rfl dX0_strongestOutside_47 k) ?_
          refine ev_gd (fun g4 => ?_)
          refine ev_s (fun Q k => rn_aald (q := (B + 6 + v4.toNatClampNeg)) (oF4 hB).1 (oF4 hB).2.1 (by decide) (by decide) (oF4 hB).2.2 (inR_vp g4) (rP hB g4.2) dX0_strongestOutside_49 k) ?_
          refine ev_s (fun Q k => rn_geti f_X0_105 (oP hB g4.2).1 (oP hB g4.2).2.1 (okO_1 (oP hB g4.2)) rfl dX0_strongestOutside_50 k) ?_
          refine ev_s (fun Q k => rn_istore_n (j := 3) (ls' := [(3, .inl (D2 (B + 6 + v4.toNatClampNeg) 1)), (2, .inl v4), (0, .inr (.inr B)), (1, .inl x1), (4, .inl v4)]) rfl (by decide) rfl dX0_strongestOutside_53 k) ?_
          refine ev_s (fun Q k => rn_iinc (v := (v4 + (1 : Int32))) (ls' := [(4, .inl (v4 + (1 : Int32))), (3, .inl (D2 (B + 6 + v4.toNatClampNeg) 1)), (2, .inl v4), (0, .inr (.inr B)), (1, .inl x1)]) 4 rfl rfl (by decide) rfl dX0_strongestOutside_54 k) ?_
          refine ev_s (fun Q k => rn_goto (tgt := 8) dX0_strongestOutside_57 (by decide) k) ?_
          refine ev_s (fun Q k => rn_sub (ls' := [(0, .inr (.inr B)), (1, .inl x1), (2, .inl v4), (3, .inl (D2 (B + 6 + v4.toNatClampNeg) 1)), (4, .inl (v4 + (1 : Int32)))]) [3, 4, 2, 1, 0] rfl k) ?_
          exact ih v4 (D2 (B + 6 + v4.toNatClampNeg) 1) (v4 + (1 : Int32)) D2
      · refine ev_s (fun Q k => rn_iinc (v := (v4 + (1 : Int32))) (ls' := [(4, .inl (v4 + (1 : Int32))), (0, .inr (.inr B)), (1, .inl x1), (2, .inl v2), (3, .inl v3)]) 4 rfl rfl (by decide) rfl dX0_strongestOutside_54 k) ?_
        refine ev_s (fun Q k => rn_goto (tgt := 8) dX0_strongestOutside_57 (by decide) k) ?_
        refine ev_s (fun Q k => rn_sub (ls' := [(0, .inr (.inr B)), (1, .inl x1), (2, .inl v2), (3, .inl v3), (4, .inl (v4 + (1 : Int32)))]) [1, 2, 3, 4, 0] rfl k) ?_
        exact ih v2 v3 (v4 + (1 : Int32)) D2

set_option maxRecDepth 20000 in
theorem e_X0_strongestOutside (l : Launch) (E : eE) (d : Nat) (B : Nat) (hB : isF B) (x1 : Int32) (D : dT) : ev l E (d + 1) yX0_strongestOutside cX0_strongestOutside 5 (some .int) 0 [(0, .inr (.inr B)), (1, .inl x1)] [] D eI (F_X0_strongestOutside B x1 D) := by
  unfold F_X0_strongestOutside
  refine ev_s (fun Q k => rn_bipush (v := -6) (by decide) dX0_strongestOutside_0 k) ?_
  refine ev_s (fun Q k => rn_istore_n (j := 2) (ls' := [(2, .inl (-6 : Int32)), (0, .inr (.inr B)), (1, .inl x1)]) rfl (by decide) rfl dX0_strongestOutside_2 k) ?_
  refine ev_s (fun Q k => rn_iconst (v := -1) (by decide) dX0_strongestOutside_3 k) ?_
  refine ev_s (fun Q k => rn_istore_n (j := 3) (ls' := [(3, .inl (-1 : Int32)), (2, .inl (-6 : Int32)), (0, .inr (.inr B)), (1, .inl x1)]) rfl (by decide) rfl dX0_strongestOutside_4 k) ?_
  refine ev_s (fun Q k => rn_iconst (v := 0) (by decide) dX0_strongestOutside_5 k) ?_
  refine ev_s (fun Q k => rn_istore (j := 4) (ls' := [(4, .inl (0 : Int32)), (3, .inl (-1 : Int32)), (2, .inl (-6 : Int32)), (0, .inr (.inr B)), (1, .inl x1)]) (by decide) rfl dX0_strongestOutside_6 k) ?_
  refine ev_s (fun Q k => rn_sub (ls' := [(0, .inr (.inr B)), (1, .inl x1), (2, .inl (-6 : Int32)), (3, .inl (-1 : Int32)), (4, .inl (0 : Int32))]) [3, 4, 2, 1, 0] rfl k) ?_
  exact e_X0_strongestOutside_8 l E d B hB x1  lim (-6 : Int32) (-1 : Int32) (0 : Int32) D

def F_X0_crewByItself_34 (fuel : Nat) (B : Nat) (o1 : Nat) (x2 : Int32)  (v3 : Int32) (v4 : Int32) (v5 : Int32) (v6 : Int32) (v7 : Int32) (D : dT) : Option (Int32 × dT) := match fuel with
  | 0 => none
  | fu + 1 => if inR (3 : Int32) 4 then if (D (B + 1) (3 : Int32).toNatClampNeg) ≤ v7 then some ((-6 : Int32), D) else bd (F_X0_strongestOutside B (v4 ||| v5) D) (fun (r2 : Int32) (D3 : dT) => bd (F_X0_hasPerson B r2 D3) (fun (r4 : Int32) (D5 : dT) => if r4 = 0 then some ((-6 : Int32), D5) else if inR r2 10 then if (v6 + (D5 (B + 6 + r2.toNatClampNeg) 1)) < v3 then F_X0_crewByItself_34 fu B o1 x2 v3 v4 (v5 ||| ((1 : Int32) <<< (r2 &&& 31))) (v6 + (D5 (B + 6 + r2.toNatClampNeg) 1)) (v7 + (1 : Int32)) D5 else some ((v5 ||| ((1 : Int32) <<< (r2 &&& 31))), D5) else none)) else none
def F_X0_crewByItself (B : Nat) (o1 : Nat) (x2 : Int32) (D : dT) : Option (Int32 × dT) := bd (F_X0_canHaveStraps B o1 x2 D) (fun (r1 : Int32) (D2 : dT) => if r1 = 0 then some ((-6 : Int32), D2) else bd (F_X0_loadWith B o1 x2 D2) (fun (r3 : Int32) (D4 : dT) => bd (F_X0_busyPeople B D4) (fun (r5 : Int32) (D6 : dT) => F_X0_crewByItself_34 lim B o1 x2 r3 r5 (0 : Int32) (0 : Int32) (0 : Int32) D6)))
set_option maxRecDepth 20000 in
theorem e_X0_crewByItself_34 (l : Launch) (E : eE) (d : Nat) (B : Nat) (hB : isF B) (o1 : Nat) (ho1 : okO o1 2 0) (x2 : Int32)  (fuel : Nat) : ∀ (v3 : Int32) (v4 : Int32) (v5 : Int32) (v6 : Int32) (v7 : Int32) (D : dT), ev l E (d + 2) yX0_crewByItself cX0_crewByItself 9 (some .int) 34 [(0, .inr (.inr B)), (3, .inl v3), (4, .inl v4), (5, .inl v5), (6, .inl v6), (7, .inl v7)] [] D eI (F_X0_crewByItself_34 fuel B o1 x2 v3 v4 v5 v6 v7 D) := by
  induction fuel with
  | zero =>
    intro v3 v4 v5 v6 v7 D
    exact ev_none
  | succ fu ih =>
    intro v3 v4 v5 v6 v7 D
    rw [F_X0_crewByItself_34]
    refine ev_s (fun Q k => rn_iload (j := 7) 5 rfl dX0_crewByItself_34 k) ?_
    refine ev_s (fun Q k => rn_aload_n (j := 0) 0 rfl rfl (okO_0 (oF hB)) dX0_crewByItself_36 k) ?_
    refine ev_s (fun Q k => rn_getr (q := (B + 1)) f_X0_9 (oF hB).1 (oF hB).2.1 (okO_1 (oF hB)) rfl (rF0 hB) dX0_crewByItself_37 k) ?_
    refine ev_s (fun Q k => rn_iconst (v := 3) (by decide) dX0_crewByItself_40 k) ?_
    refine ev_gd (fun g1 => ?_)
    refine ev_s (fun Q k => rn_iald (oF1 hB).1 (oF1 hB).2.1 (oF1 hB).2.2 (inR_vp g1) dX0_crewByItself_41 k) ?_
    refine ev_if (fun Q => rn_icmp_ge (tgt := 107) dX0_crewByItself_42 (by decide)) (fun c11 => ?_) (fun c12 => ?_)
    · refine ev_s (fun Q k => rn_bipush (v := -6) (by decide) dX0_crewByItself_107 k) ?_
      exact ev_ret (fun Q q => rn_ret q .int rfl rfl dX0_crewByItself_109)
    · refine ev_s (fun Q k => rn_aload_n (j := 0) 0 rfl rfl (okO_0 (oF hB)) dX0_crewByItself_45 k) ?_
      refine ev_s (fun Q k => rn_iload (j := 4) 2 rfl dX0_crewByItself_46 k) ?_
      refine ev_s (fun Q k => rn_iload (j := 5) 3 rfl dX0_crewByItself_48 k) ?_
      refine ev_s (fun Q k => rn_ior dX0_crewByItself_50 k) ?_
      refine ev_bindI (as := [.inr (.inr B), .inl (v4 ||| v5)]) (fun Q Q1 => rn_callV (as := [.inl (v4 ||| v5)]) (rest := []) (o := B) m_X0_141 dX0_crewByItself_51 (rcv_own (oF hB).1 (oF hB).2.1 (by decide) (okO_1 (oF hB))) rfl rfl (Nat.le_of_ble_eq_true rfl)) pl_X0_strongestOutside (Nat.le_of_ble_eq_true rfl) rfl (e_X0_strongestOutside l E d B hB (v4 ||| v5) D) (fun r2 D3 => ?_)
      refine ev_s (fun Q k => rn_istore (j := 8) (ls' := [(8, .inl r2), (0, .inr (.inr B)), (3, .inl v3), (4, .inl v4), (5, .inl v5), (6, .inl v6), (7, .inl v7)]) (by decide) rfl dX0_crewByItself_54 k) ?_
      refine ev_s (fun Q k => rn_aload_n (j := 0) 1 rfl rfl (okO_0 (oF hB)) dX0_crewByItself_56 k) ?_
      refine ev_s (fun Q k => rn_iload (j := 8) 0 rfl dX0_crewByItself_57 k) ?_
      refine ev_bindI (as := [.inr (.inr B), .inl r2]) (fun Q Q1 => rn_callV (as := [.inl r2]) (rest := []) (o := B) m_X0_144 dX0_crewByItself_59 (rcv_own (oF hB).1 (oF hB).2.1 (by decide) (okO_1 (oF hB))) rfl rfl (Nat.le_of_ble_eq_true rfl)) pl_X0_hasPerson (Nat.le_of_ble_eq_true rfl) rfl (e_X0_hasPerson l E (d + 1) B hB r2 D3) (fun r4 D5 => ?_)
      refine ev_if (fun Q => rn_if_ne (tgt := 68) dX0_crewByItself_62 (by decide)) (fun c9 => ?_) (fun c10 => ?_)
      · refine ev_s (fun Q k => rn_bipush (v := -6) (by decide) dX0_crewByItself_65 k) ?_
        exact ev_ret (fun Q q => rn_ret q .int rfl rfl dX0_crewByItself_67)
      · refine ev_s (fun Q k => rn_iload (j := 5) 4 rfl dX0_crewByItself_68 k) ?_
        refine ev_s (fun Q k => rn_iconst (v := 1) (by decide) dX0_crewByItself_70 k) ?_
        refine ev_s (fun Q k => rn_iload (j := 8) 0 rfl dX0_crewByItself_71 k) ?_
        refine ev_s (fun Q k => rn_ishl dX0_crewByItself_73 k) ?_
        refine ev_s (fun Q k => rn_ior dX0_crewByItself_74 k) ?_
        refine ev_s (fun Q k => rn_istore (j := 5) (ls' := [(5, .inl (v5 ||| ((1 : Int32) <<< (r2 &&& 31)))), (8, .inl r2), (0, .inr (.inr B)), (3, .inl v3), (4, .inl v4), (6, .inl v6), (7, .inl v7)]) (by decide) rfl dX0_crewByItself_75 k) ?_
        refine ev_s (fun Q k => rn_iload (j := 6) 5 rfl dX0_crewByItself_77 k) ?_
        refine ev_s (fun Q k => rn_aload_n (j := 0) 2 rfl rfl (okO_0 (oF hB)) dX0_crewByItself_79 k) ?_
        refine ev_s (fun Q k => rn_getr (q := (B + 4)) f_X0_23 (oF hB).1 (oF hB).2.1 (okO_1 (oF hB)) rfl (rF3 hB) dX0_crewByItself_80 k) ?_
        refine ev_s (fun Q k => rn_iload (j := 8) 1 rfl dX0_crewByItself_83 k) ?_
        refine ev_gd (fun g6 => ?_)
        refine ev_s (fun Q k => rn_aald (q := (B + 6 + r2.toNatClampNeg)) (oF4 hB).1 (oF4 hB).2.1 (by decide) (by decide) (oF4 hB).2.2 (inR_vp g6) (rP hB g6.2) dX0_crewByItself_85 k) ?_
        refine ev_s (fun Q k => rn_geti f_X0_105 (oP hB g6.2).1 (oP hB g6.2).2.1 (okO_1 (oP hB g6.2)) rfl dX0_crewByItself_86 k) ?_
        refine ev_s (fun Q k => rn_iadd dX0_crewByItself_89 k) ?_
        refine ev_s (fun Q k => rn_istore (j := 6) (ls' := [(6, .inl (v6 + (D5 (B + 6 + r2.toNatClampNeg) 1))), (5, .inl (v5 ||| ((1 : Int32) <<< (r2 &&& 31)))), (8, .inl r2), (0, .inr (.inr B)), (3, .inl v3), (4, .inl v4), (7, .inl v7)]) (by decide) rfl dX0_crewByItself_90 k) ?_
        refine ev_s (fun Q k => rn_iload (j := 6) 0 rfl dX0_crewByItself_92 k) ?_
        refine ev_s (fun Q k => rn_iload_n (j := 3) 4 rfl rfl dX0_crewByItself_94 k) ?_
        refine ev_if (fun Q => rn_icmp_lt (tgt := 101) dX0_crewByItself_95 (by decide)) (fun c7 => ?_) (fun c8 => ?_)
        · refine ev_s (fun Q k => rn_iinc (v := (v7 + (1 : Int32))) (ls' := [(7, .inl (v7 + (1 : Int32))), (6, .inl (v6 + (D5 (B + 6 + r2.toNatClampNeg) 1))), (5, .inl (v5 ||| ((1 : Int32) <<< (r2 &&& 31)))), (8, .inl r2), (0, .inr (.inr B)), (3, .inl v3), (4, .inl v4)]) 6 rfl rfl (by decide) rfl dX0_crewByItself_101 k) ?_
          refine ev_s (fun Q k => rn_goto (tgt := 34) dX0_crewByItself_104 (by decide) k) ?_
          refine ev_s (fun Q k => rn_sub (ls' := [(0, .inr (.inr B)), (3, .inl v3), (4, .inl v4), (5, .inl (v5 ||| ((1 : Int32) <<< (r2 &&& 31)))), (6, .inl (v6 + (D5 (B + 6 + r2.toNatClampNeg) 1))), (7, .inl (v7 + (1 : Int32)))]) [4, 5, 6, 2, 1, 0] rfl k) ?_
          exact ih v3 v4 (v5 ||| ((1 : Int32) <<< (r2 &&& 31))) (v6 + (D5 (B + 6 + r2.toNatClampNeg) 1)) (v7 + (1 : Int32)) D5
        · refine ev_s (fun Q k => rn_iload (j := 5) 1 rfl dX0_crewByItself_98 k) ?_
          exact ev_ret (fun Q q => rn_ret q .int rfl rfl dX0_crewByItself_100)

set_option maxRecDepth 20000 in
theorem e_X0_crewByItself (l : Launch) (E : eE) (d : Nat) (B : Nat) (hB : isF B) (o1 : Nat) (ho1 : okO o1 2 0) (x2 : Int32) (D : dT) : ev l E (d + 2) yX0_crewByItself cX0_crewByItself 9 (some .int) 0 [(0, .inr (.inr B)), (1, .inr (.inr o1)), (2, .inl x2)] [] D eI (F_X0_crewByItself B o1 x2 D) := by
  unfold F_X0_crewByItself
  refine ev_s (fun Q k => rn_aload_n (j := 0) 0 rfl rfl (okO_0 (oF hB)) dX0_crewByItself_0 k) ?_
  refine ev_s (fun Q k => rn_aload_n (j := 1) 1 rfl rfl (okO_0 ho1) dX0_crewByItself_1 k) ?_
  refine ev_s (fun Q k => rn_iload_n (j := 2) 2 rfl rfl dX0_crewByItself_2 k) ?_
  refine ev_bindI (as := [.inr (.inr B), .inr (.inr o1), .inl x2]) (fun Q Q1 => rn_callV (as := [.inr (.inr o1), .inl x2]) (rest := []) (o := B) m_X0_130 dX0_crewByItself_3 (rcv_own (oF hB).1 (oF hB).2.1 (by decide) (okO_1 (oF hB))) rfl rfl (Nat.le_of_ble_eq_true rfl)) pl_X0_canHaveStraps (Nat.le_of_ble_eq_true rfl) rfl (e_X0_canHaveStraps l E d B hB o1 ho1 x2 D) (fun r1 D2 => ?_)
  refine ev_if (fun Q => rn_if_ne (tgt := 12) dX0_crewByItself_6 (by decide)) (fun c7 => ?_) (fun c8 => ?_)
  · refine ev_s (fun Q k => rn_bipush (v := -6) (by decide) dX0_crewByItself_9 k) ?_
    exact ev_ret (fun Q q => rn_ret q .int rfl rfl dX0_crewByItself_11)
  · refine ev_s (fun Q k => rn_aload_n (j := 0) 0 rfl rfl (okO_0 (oF hB)) dX0_crewByItself_12 k) ?_
    refine ev_s (fun Q k => rn_aload_n (j := 1) 1 rfl rfl (okO_0 ho1) dX0_crewByItself_13 k) ?_
    refine ev_s (fun Q k => rn_iload_n (j := 2) 2 rfl rfl dX0_crewByItself_14 k) ?_
    refine ev_bindI (as := [.inr (.inr B), .inr (.inr o1), .inl x2]) (fun Q Q1 => rn_callV (as := [.inr (.inr o1), .inl x2]) (rest := []) (o := B) m_X0_137 dX0_crewByItself_15 (rcv_own (oF hB).1 (oF hB).2.1 (by decide) (okO_1 (oF hB))) rfl rfl (Nat.le_of_ble_eq_true rfl)) pl_X0_loadWith (Nat.le_of_ble_eq_true rfl) rfl (e_X0_loadWith l E d B hB o1 ho1 x2 D2) (fun r3 D4 => ?_)
    refine ev_s (fun Q k => rn_istore_n (j := 3) (ls' := [(3, .inl r3), (0, .inr (.inr B)), (1, .inr (.inr o1)), (2, .inl x2)]) rfl (by decide) rfl dX0_crewByItself_18 k) ?_
    refine ev_s (fun Q k => rn_aload_n (j := 0) 1 rfl rfl (okO_0 (oF hB)) dX0_crewByItself_19 k) ?_
    refine ev_bindI (as := [.inr (.inr B)]) (fun Q Q1 => rn_callV (as := []) (rest := []) (o := B) m_X0_126 dX0_crewByItself_20 (rcv_own (oF hB).1 (oF hB).2.1 (by decide) (okO_1 (oF hB))) rfl rfl (Nat.le_of_ble_eq_true rfl)) pl_X0_busyPeople (Nat.le_of_ble_eq_true rfl) rfl (e_X0_busyPeople l E (d + 1) B hB D4) (fun r5 D6 => ?_)
    refine ev_s (fun Q k => rn_istore (j := 4) (ls' := [(4, .inl r5), (3, .inl r3), (0, .inr (.inr B)), (1, .inr (.inr o1)), (2, .inl x2)]) (by decide) rfl dX0_crewByItself_23 k) ?_
    refine ev_s (fun Q k => rn_iconst (v := 0) (by decide) dX0_crewByItself_25 k) ?_
    refine ev_s (fun Q k => rn_istore (j := 5) (ls' := [(5, .inl (0 : Int32)), (4, .inl r5), (3, .inl r3), (0, .inr (.inr B)), (1, .inr (.inr o1)), (2, .inl x2)]) (by decide) rfl dX0_crewByItself_26 k) ?_
    refine ev_s (fun Q k => rn_iconst (v := 0) (by decide) dX0_crewByItself_28 k) ?_
    refine ev_s (fun Q k => rn_istore (j := 6) (ls' := [(6, .inl (0 : Int32)), (5, .inl (0 : Int32)), (4, .inl r5), (3, .inl r3), (0, .inr (.inr B)), (1, .inr (.inr o1)), (2, .inl x2)]) (by decide) rfl dX0_crewByItself_29 k) ?_
    refine ev_s (fun Q k => rn_iconst (v := 0) (by decide) dX0_crewByItself_31 k) ?_
    refine ev_s (fun Q k => rn_istore (j := 7) (ls' := [(7, .inl (0 : Int32)), (6, .inl (0 : Int32)), (5, .inl (0 : Int32)), (4, .inl r5), (3, .inl r3), (0, .inr (.inr B)), (1, .inr (.inr o1)), (2, .inl x2)]) (by decide) rfl dX0_crewByItself_32 k) ?_
    refine ev_s (fun Q k => rn_sub (ls' := [(0, .inr (.inr B)), (3, .inl r3), (4, .inl r5), (5, .inl (0 : Int32)), (6, .inl (0 : Int32)), (7, .inl (0 : Int32))]) [5, 4, 3, 2, 1, 0] rfl k) ?_
    exact e_X0_crewByItself_34 l E d B hB o1 ho1 x2  lim r3 r5 (0 : Int32) (0 : Int32) (0 : Int32) D6

def F_X0_fewestPeopleStraps_33 (fuel : Nat) (B : Nat) (o1 : Nat)  (v2 : Int32) (v3 : Int32) (v5 : Int32) (D : dT) : Option (Int32 × dT) := match fuel with
  | 0 => none
  | fu + 1 => if (3 : Int32) ≤ v5 then some (v2, D) else bd (F_X0_crewByItself B o1 v5 D) (fun (r1 : Int32) (D2 : dT) => if r1 = (-6 : Int32) then F_X0_fewestPeopleStraps_33 fu B o1 v2 v3 (v5 + (1 : Int32)) D2 else bd (F_J6_bitCount_0f7a4 r1 D2) (fun (r3 : Int32) (D4 : dT) => if v3 ≤ r3 then F_X0_fewestPeopleStraps_33 fu B o1 v2 v3 (v5 + (1 : Int32)) D4 else bd (F_J6_bitCount_0f7a4 r1 D4) (fun (r5 : Int32) (D6 : dT) => F_X0_fewestPeopleStraps_33 fu B o1 v5 r5 (v5 + (1 : Int32)) D6)))
def F_X0_fewestPeopleStraps (B : Nat) (o1 : Nat) (D : dT) : Option (Int32 × dT) := bd (F_X0_crewByItself B o1 (-6 : Int32) D) (fun (r1 : Int32) (D2 : dT) => if r1 = (-6 : Int32) then F_X0_fewestPeopleStraps_33 lim B o1 (-6 : Int32) (11 : Int32) (0 : Int32) D2 else bd (F_J6_bitCount_0f7a4 r1 D2) (fun (r3 : Int32) (D4 : dT) => F_X0_fewestPeopleStraps_33 lim B o1 (3 : Int32) r3 (0 : Int32) D4))
set_option maxRecDepth 20000 in
theorem e_X0_fewestPeopleStraps_33 (l : Launch) (E : eE) (d : Nat) (B : Nat) (hB : isF B) (o1 : Nat) (ho1 : okO o1 2 0)  (fuel : Nat) : ∀ (v2 : Int32) (v3 : Int32) (v5 : Int32) (D : dT), ev l E (d + 3) yX0_fewestPeopleStraps cX0_fewestPeopleStraps 6 (some .int) 33 [(0, .inr (.inr B)), (1, .inr (.inr o1)), (2, .inl v2), (3, .inl v3), (5, .inl v5)] [] D eI (F_X0_fewestPeopleStraps_33 fuel B o1 v2 v3 v5 D) := by
  induction fuel with
  | zero =>
    intro v2 v3 v5 D
    exact ev_none
  | succ fu ih =>
    intro v2 v3 v5 D
    rw [F_X0_fewestPeopleStraps_33]
    refine ev_s (fun Q k => rn_iload (j := 5) 4 rfl dX0_fewestPeopleStraps_33 k) ?_
    refine ev_s (fun Q k => rn_iconst (v := 3) (by decide) dX0_fewestPeopleStraps_35 k) ?_
    refine ev_if (fun Q => rn_icmp_ge (tgt := 79) dX0_fewestPeopleStraps_36 (by decide)) (fun c11 => ?_) (fun c12 => ?_)
    · refine ev_s (fun Q k => rn_iload_n (j := 2) 2 rfl rfl dX0_fewestPeopleStraps_79 k) ?_
      exact ev_ret (fun Q q => rn_ret q .int rfl rfl dX0_fewestPeopleStraps_80)
    · refine ev_s (fun Q k => rn_aload_n (j := 0) 0 rfl rfl (okO_0 (oF hB)) dX0_fewestPeopleStraps_39 k) ?_
      refine ev_s (fun Q k => rn_aload_n (j := 1) 1 rfl rfl (okO_0 ho1) dX0_fewestPeopleStraps_40 k) ?_
      refine ev_s (fun Q k => rn_iload (j := 5) 4 rfl dX0_fewestPeopleStraps_41 k) ?_
      refine ev_bindI (as := [.inr (.inr B), .inr (.inr o1), .inl v5]) (fun Q Q1 => rn_callV (as := [.inr (.inr o1), .inl v5]) (rest := []) (o := B) m_X0_147 dX0_fewestPeopleStraps_43 (rcv_own (oF hB).1 (oF hB).2.1 (by decide) (okO_1 (oF hB))) rfl rfl (Nat.le_of_ble_eq_true rfl)) pl_X0_crewByItself (Nat.le_of_ble_eq_true rfl) rfl (e_X0_crewByItself l E d B hB o1 ho1 v5 D) (fun r1 D2 => ?_)
      refine ev_s (fun Q k => rn_istore (j := 4) (ls' := [(4, .inl r1), (0, .inr (.inr B)), (1, .inr (.inr o1)), (2, .inl v2), (3, .inl v3), (5, .inl v5)]) (by decide) rfl dX0_fewestPeopleStraps_46 k) ?_
      refine ev_s (fun Q k => rn_iload (j := 4) 0 rfl dX0_fewestPeopleStraps_48 k) ?_
      refine ev_s (fun Q k => rn_bipush (v := -6) (by decide) dX0_fewestPeopleStraps_50 k) ?_
      refine ev_if (fun Q => rn_icmp_eq (tgt := 73) dX0_fewestPeopleStraps_52 (by decide)) (fun c9 => ?_) (fun c10 => ?_)
      · refine ev_s (fun Q k => rn_iinc (v := (v5 + (1 : Int32))) (ls' := [(5, .inl (v5 + (1 : Int32))), (4, .inl r1), (0, .inr (.inr B)), (1, .inr (.inr o1)), (2, .inl v2), (3, .inl v3)]) 5 rfl rfl (by decide) rfl dX0_fewestPeopleStraps_73 k) ?_
        refine ev_s (fun Q k => rn_goto (tgt := 33) dX0_fewestPeopleStraps_76 (by decide) k) ?_
        refine ev_s (fun Q k => rn_sub (ls' := [(0, .inr (.inr B)), (1, .inr (.inr o1)), (2, .inl v2), (3, .inl v3), (5, .inl (v5 + (1 : Int32)))]) [2, 3, 4, 5, 0] rfl k) ?_
        exact ih v2 v3 (v5 + (1 : Int32)) D2
      · refine ev_s (fun Q k => rn_iload (j := 4) 0 rfl dX0_fewestPeopleStraps_55 k) ?_
        refine ev_bindI (as := [.inl r1]) (fun Q Q1 => rn_callS (as := [.inl r1]) (rest := []) m_X0_108 dX0_fewestPeopleStraps_57 rfl rfl (Nat.le_of_ble_eq_true rfl)) pl_J6_bitCount_0f7a4 (Nat.le_of_ble_eq_true rfl) rfl (e_J6_bitCount_0f7a4 l E (d + 2) r1 D2) (fun r3 D4 => ?_)
        refine ev_s (fun Q k => rn_iload_n (j := 3) 4 rfl rfl dX0_fewestPeopleStraps_60 k) ?_
        refine ev_if (fun Q => rn_icmp_ge (tgt := 73) dX0_fewestPeopleStraps_61 (by decide)) (fun c7 => ?_) (fun c8 => ?_)
        · refine ev_s (fun Q k => rn_iinc (v := (v5 + (1 : Int32))) (ls' := [(5, .inl (v5 + (1 : Int32))), (4, .inl r1), (0, .inr (.inr B)), (1, .inr (.inr o1)), (2, .inl v2), (3, .inl v3)]) 5 rfl rfl (by decide) rfl dX0_fewestPeopleStraps_73 k) ?_
          refine ev_s (fun Q k => rn_goto (tgt := 33) dX0_fewestPeopleStraps_76 (by decide) k) ?_
          refine ev_s (fun Q k => rn_sub (ls' := [(0, .inr (.inr B)), (1, .inr (.inr o1)), (2, .inl v2), (3, .inl v3), (5, .inl (v5 + (1 : Int32)))]) [2, 3, 4, 5, 0] rfl k) ?_
          exact ih v2 v3 (v5 + (1 : Int32)) D4
        · refine ev_s (fun Q k => rn_iload (j := 5) 5 rfl dX0_fewestPeopleStraps_64 k) ?_
          refine ev_s (fun Q k => rn_istore_n (j := 2) (ls' := [(2, .inl v5), (4, .inl r1), (0, .inr (.inr B)), (1, .inr (.inr o1)), (3, .inl v3), (5, .inl v5)]) rfl (by decide) rfl dX0_fewestPeopleStraps_66 k) ?_
          refine ev_s (fun Q k => rn_iload (j := 4) 1 rfl dX0_fewestPeopleStraps_67 k) ?_
          refine ev_bindI (as := [.inl r1]) (fun Q Q1 => rn_callS (as := [.inl r1]) (rest := []) m_X0_108 dX0_fewestPeopleStraps_69 rfl rfl (Nat.le_of_ble_eq_true rfl)) pl_J6_bitCount_0f7a4 (Nat.le_of_ble_eq_true rfl) rfl (e_J6_bitCount_0f7a4 l E (d + 2) r1 D4) (fun r5 D6 => ?_)
          refine ev_s (fun Q k => rn_istore_n (j := 3) (ls' := [(3, .inl r5), (2, .inl v5), (4, .inl r1), (0, .inr (.inr B)), (1, .inr (.inr o1)), (5, .inl v5)]) rfl (by decide) rfl dX0_fewestPeopleStraps_72 k) ?_
          refine ev_s (fun Q k => rn_iinc (v := (v5 + (1 : Int32))) (ls' := [(5, .inl (v5 + (1 : Int32))), (3, .inl r5), (2, .inl v5), (4, .inl r1), (0, .inr (.inr B)), (1, .inr (.inr o1))]) 5 rfl rfl (by decide) rfl dX0_fewestPeopleStraps_73 k) ?_
          refine ev_s (fun Q k => rn_goto (tgt := 33) dX0_fewestPeopleStraps_76 (by decide) k) ?_
          refine ev_s (fun Q k => rn_sub (ls' := [(0, .inr (.inr B)), (1, .inr (.inr o1)), (2, .inl v5), (3, .inl r5), (5, .inl (v5 + (1 : Int32)))]) [4, 5, 2, 1, 0] rfl k) ?_
          exact ih v5 r5 (v5 + (1 : Int32)) D6

set_option maxRecDepth 20000 in
theorem e_X0_fewestPeopleStraps (l : Launch) (E : eE) (d : Nat) (B : Nat) (hB : isF B) (o1 : Nat) (ho1 : okO o1 2 0) (D : dT) : ev l E (d + 3) yX0_fewestPeopleStraps cX0_fewestPeopleStraps 6 (some .int) 0 [(0, .inr (.inr B)), (1, .inr (.inr o1))] [] D eI (F_X0_fewestPeopleStraps B o1 D) := by
  unfold F_X0_fewestPeopleStraps
  refine ev_s (fun Q k => rn_bipush (v := -6) (by decide) dX0_fewestPeopleStraps_0 k) ?_
  refine ev_s (fun Q k => rn_istore_n (j := 2) (ls' := [(2, .inl (-6 : Int32)), (0, .inr (.inr B)), (1, .inr (.inr o1))]) rfl (by decide) rfl dX0_fewestPeopleStraps_2 k) ?_
  refine ev_s (fun Q k => rn_bipush (v := 11) (by decide) dX0_fewestPeopleStraps_3 k) ?_
  refine ev_s (fun Q k => rn_istore_n (j := 3) (ls' := [(3, .inl (11 : Int32)), (2, .inl (-6 : Int32)), (0, .inr (.inr B)), (1, .inr (.inr o1))]) rfl (by decide) rfl dX0_fewestPeopleStraps_5 k) ?_
  refine ev_s (fun Q k => rn_aload_n (j := 0) 2 rfl rfl (okO_0 (oF hB)) dX0_fewestPeopleStraps_6 k) ?_
  refine ev_s (fun Q k => rn_aload_n (j := 1) 3 rfl rfl (okO_0 ho1) dX0_fewestPeopleStraps_7 k) ?_
  refine ev_s (fun Q k => rn_bipush (v := -6) (by decide) dX0_fewestPeopleStraps_8 k) ?_
  refine ev_bindI (as := [.inr (.inr B), .inr (.inr o1), .inl (-6 : Int32)]) (fun Q Q1 => rn_callV (as := [.inr (.inr o1), .inl (-6 : Int32)]) (rest := []) (o := B) m_X0_147 dX0_fewestPeopleStraps_10 (rcv_own (oF hB).1 (oF hB).2.1 (by decide) (okO_1 (oF hB))) rfl rfl (Nat.le_of_ble_eq_true rfl)) pl_X0_crewByItself (Nat.le_of_ble_eq_true rfl) rfl (e_X0_crewByItself l E d B hB o1 ho1 (-6 : Int32) D) (fun r1 D2 => ?_)
  refine ev_s (fun Q k => rn_istore (j := 4) (ls' := [(4, .inl r1), (3, .inl (11 : Int32)), (2, .inl (-6 : Int32)), (0, .inr (.inr B)), (1, .inr (.inr o1))]) (by decide) rfl dX0_fewestPeopleStraps_13 k) ?_
  refine ev_s (fun Q k => rn_iload (j := 4) 0 rfl dX0_fewestPeopleStraps_15 k) ?_
  refine ev_s (fun Q k => rn_bipush (v := -6) (by decide) dX0_fewestPeopleStraps_17 k) ?_
  refine ev_if (fun Q => rn_icmp_eq (tgt := 30) dX0_fewestPeopleStraps_19 (by decide)) (fun c5 => ?_) (fun c6 => ?_)
  · refine ev_s (fun Q k => rn_iconst (v := 0) (by decide) dX0_fewestPeopleStraps_30 k) ?_
    refine ev_s (fun Q k => rn_istore (j := 5) (ls' := [(5, .inl (0 : Int32)), (4, .inl r1), (3, .inl (11 : Int32)), (2, .inl (-6 : Int32)), (0, .inr (.inr B)), (1, .inr (.inr o1))]) (by decide) rfl dX0_fewestPeopleStraps_31 k) ?_
    refine ev_s (fun Q k => rn_sub (ls' := [(0, .inr (.inr B)), (1, .inr (.inr o1)), (2, .inl (-6 : Int32)), (3, .inl (11 : Int32)), (5, .inl (0 : Int32))]) [4, 5, 3, 2, 0] rfl k) ?_
    exact e_X0_fewestPeopleStraps_33 l E d B hB o1 ho1  lim (-6 : Int32) (11 : Int32) (0 : Int32) D2
  · refine ev_s (fun Q k => rn_iconst (v := 3) (by decide) dX0_fewestPeopleStraps_22 k) ?_
    refine ev_s (fun Q k => rn_istore_n (j := 2) (ls' := [(2, .inl (3 : Int32)), (4, .inl r1), (3, .inl (11 : Int32)), (0, .inr (.inr B)), (1, .inr (.inr o1))]) rfl (by decide) rfl dX0_fewestPeopleStraps_23 k) ?_
    refine ev_s (fun Q k => rn_iload (j := 4) 1 rfl dX0_fewestPeopleStraps_24 k) ?_
    refine ev_bindI (as := [.inl r1]) (fun Q Q1 => rn_callS (as := [.inl r1]) (rest := []) m_X0_108 dX0_fewestPeopleStraps_26 rfl rfl (Nat.le_of_ble_eq_true rfl)) pl_J6_bitCount_0f7a4 (Nat.le_of_ble_eq_true rfl) rfl (e_J6_bitCount_0f7a4 l E (d + 2) r1 D2) (fun r3 D4 => ?_)
    refine ev_s (fun Q k => rn_istore_n (j := 3) (ls' := [(3, .inl r3), (2, .inl (3 : Int32)), (4, .inl r1), (0, .inr (.inr B)), (1, .inr (.inr o1))]) rfl (by decide) rfl dX0_fewestPeopleStraps_29 k) ?_
    refine ev_s (fun Q k => rn_iconst (v := 0) (by decide) dX0_fewestPeopleStraps_30 k) ?_
    refine ev_s (fun Q k => rn_istore (j := 5) (ls' := [(5, .inl (0 : Int32)), (3, .inl r3), (2, .inl (3 : Int32)), (4, .inl r1), (0, .inr (.inr B)), (1, .inr (.inr o1))]) (by decide) rfl dX0_fewestPeopleStraps_31 k) ?_
    refine ev_s (fun Q k => rn_sub (ls' := [(0, .inr (.inr B)), (1, .inr (.inr o1)), (2, .inl (3 : Int32)), (3, .inl r3), (5, .inl (0 : Int32))]) [4, 5, 2, 1, 0] rfl k) ?_
    exact e_X0_fewestPeopleStraps_33 l E d B hB o1 ho1  lim (3 : Int32) r3 (0 : Int32) D4

def F_X0_assignJobs_88 (B : Nat) (k10 : Int32 → Int32 → Int32 → dT → Option (Int32 × dT)) (v1 : Int32) (v2 : Int32) (v3 : Int32) (D : dT) : Option (Int32 × dT) := bd (F_X0_nextWaiting B v2 D) (fun (r1 : Int32) (D2 : dT) => k10 v1 r1 (v3 + (1 : Int32)) D2)
def F_X0_assignJobs_51 (B : Nat) (k10 : Int32 → Int32 → Int32 → dT → Option (Int32 × dT)) (v1 : Int32) (v2 : Int32) (v3 : Int32) (v4 : Int32) (s0 : Int32) (D : dT) : Option (Int32 × dT) := if v4 = (-6 : Int32) then F_X0_assignJobs_88 B k10 v1 v2 v3 D else if inR v2 16 then bd (F_X0_crewByItself B (B + 16 + v2.toNatClampNeg) s0 D) (fun (r2 : Int32) (D3 : dT) => bd (F_X0_beginJob B v2 r2 s0 D3) (fun (r4 : Int32) (D5 : dT) => if r4 < 0 then F_X0_assignJobs_88 B k10 v1 v2 v3 D5 else F_X0_assignJobs_88 B k10 (v1 ||| ((1 : Int32) <<< (v2 &&& 31))) v2 v3 D5)) else none
def F_X0_assignJobs_10 (fuel : Nat) (B : Nat)  (v1 : Int32) (v2 : Int32) (v3 : Int32) (D : dT) : Option (Int32 × dT) := match fuel with
  | 0 => none
  | fu + 1 => if (16 : Int32) ≤ v3 then some (v1, D) else bd (F_X0_hasJob B v2 D) (fun (r1 : Int32) (D2 : dT) => if r1 = 0 then some (v1, D2) else if inR v2 16 then bd (F_X0_fewestPeopleStraps B (B + 16 + v2.toNatClampNeg) D2) (fun (r4 : Int32) (D5 : dT) => bd (F_X5_isKind r4 D5) (fun (r6 : Int32) (D7 : dT) => if r6 = 0 then F_X0_assignJobs_51 B (fun (v1_ : Int32) (v2_ : Int32) (v3_ : Int32) (D_ : dT) => F_X0_assignJobs_10 fu B v1_ v2_ v3_ D_) v1 v2 v3 r4 (-6 : Int32) D7 else F_X0_assignJobs_51 B (fun (v1_ : Int32) (v2_ : Int32) (v3_ : Int32) (D_ : dT) => F_X0_assignJobs_10 fu B v1_ v2_ v3_ D_) v1 v2 v3 r4 r4 D7)) else none)
def F_X0_assignJobs (B : Nat) (D : dT) : Option (Int32 × dT) := bd (F_X0_nextWaiting B (-1 : Int32) D) (fun (r1 : Int32) (D2 : dT) => F_X0_assignJobs_10 lim B (0 : Int32) r1 (0 : Int32) D2)
set_option maxRecDepth 20000 in
theorem e_X0_assignJobs_88 (l : Launch) (E : eE) (d : Nat) (B : Nat) (hB : isF B) (k10 : Int32 → Int32 → Int32 → dT → Option (Int32 × dT)) (hk10 : ∀ (v1 : Int32) (v2 : Int32) (v3 : Int32) (D : dT), ev l E (d + 4) yX0_assignJobs cX0_assignJobs 6 (some .int) 10 [(0, .inr (.inr B)), (1, .inl v1), (2, .inl v2), (3, .inl v3)] [] D eI (k10 v1 v2 v3 D)) (v1 : Int32) (v2 : Int32) (v3 : Int32) (D : dT) : ev l E (d + 4) yX0_assignJobs cX0_assignJobs 6 (some .int) 88 [(0, .inr (.inr B)), (1, .inl v1), (2, .inl v2), (3, .inl v3)] [] D eI (F_X0_assignJobs_88 B k10 v1 v2 v3 D) := by
  unfold F_X0_assignJobs_88
  refine ev_s (fun Q k => rn_aload_n (j := 0) 0 rfl rfl (okO_0 (oF hB)) dX0_assignJobs_88 k) ?_
  refine ev_s (fun Q k => rn_iload_n (j := 2) 2 rfl rfl dX0_assignJobs_89 k) ?_
  refine ev_bindI (as := [.inr (.inr B), .inl v2]) (fun Q Q1 => rn_callV (as := [.inl v2]) (rest := []) (o := B) m_X0_167 dX0_assignJobs_90 (rcv_own (oF hB).1 (oF hB).2.1 (by decide) (okO_1 (oF hB))) rfl rfl (Nat.le_of_ble_eq_true rfl)) pl_X0_nextWaiting (Nat.le_of_ble_eq_true rfl) rfl (e_X0_nextWaiting l E (d + 1) B hB v2 D) (fun r1 D2 => ?_)
  refine ev_s (fun Q k => rn_istore_n (j := 2) (ls' := [(2, .inl r1), (0, .inr (.inr B)), (1, .inl v1), (3, .inl v3)]) rfl (by decide) rfl dX0_assignJobs_93 k) ?_
  refine ev_s (fun Q k => rn_iinc (v := (v3 + (1 : Int32))) (ls' := [(3, .inl (v3 + (1 : Int32))), (2, .inl r1), (0, .inr (.inr B)), (1, .inl v1)]) 3 rfl rfl (by decide) rfl dX0_assignJobs_94 k) ?_
  refine ev_s (fun Q k => rn_goto (tgt := 10) dX0_assignJobs_97 (by decide) k) ?_
  refine ev_s (fun Q k => rn_sub (ls' := [(0, .inr (.inr B)), (1, .inl v1), (2, .inl r1), (3, .inl (v3 + (1 : Int32)))]) [2, 3, 1, 0] rfl k) ?_
  exact hk10 v1 r1 (v3 + (1 : Int32)) D2

set_option maxRecDepth 20000 in
theorem e_X0_assignJobs_51 (l : Launch) (E : eE) (d : Nat) (B : Nat) (hB : isF B) (k10 : Int32 → Int32 → Int32 → dT → Option (Int32 × dT)) (hk10 : ∀ (v1 : Int32) (v2 : Int32) (v3 : Int32) (D : dT), ev l E (d + 4) yX0_assignJobs cX0_assignJobs 6 (some .int) 10 [(0, .inr (.inr B)), (1, .inl v1), (2, .inl v2), (3, .inl v3)] [] D eI (k10 v1 v2 v3 D)) (v1 : Int32) (v2 : Int32) (v3 : Int32) (v4 : Int32) (s0 : Int32) (D : dT) : ev l E (d + 4) yX0_assignJobs cX0_assignJobs 6 (some .int) 51 [(0, .inr (.inr B)), (1, .inl v1), (2, .inl v2), (3, .inl v3), (4, .inl v4)] [.inl s0] D eI (F_X0_assignJobs_51 B k10 v1 v2 v3 v4 s0 D) := by
  unfold F_X0_assignJobs_51
  refine ev_s (fun Q k => rn_istore (j := 5) (ls' := [(5, .inl s0), (0, .inr (.inr B)), (1, .inl v1), (2, .inl v2), (3, .inl v3), (4, .inl v4)]) (by decide) rfl dX0_assignJobs_51 k) ?_
  refine ev_s (fun Q k => rn_iload (j := 4) 5 rfl dX0_assignJobs_53 k) ?_
  refine ev_s (fun Q k => rn_bipush (v := -6) (by decide) dX0_assignJobs_55 k) ?_
  refine ev_if (fun Q => rn_icmp_eq (tgt := 88) dX0_assignJobs_57 (by decide)) (fun c8 => ?_) (fun c9 => ?_)
  · refine ev_s (fun Q k => rn_sub (ls' := [(0, .inr (.inr B)), (1, .inl v1), (2, .inl v2), (3, .inl v3)]) [1, 2, 3, 4] rfl k) ?_
    exact e_X0_assignJobs_88 l E d B hB k10 hk10  v1 v2 v3 D
  · refine ev_s (fun Q k => rn_aload_n (j := 0) 1 rfl rfl (okO_0 (oF hB)) dX0_assignJobs_60 k) ?_
    refine ev_s (fun Q k => rn_iload_n (j := 2) 3 rfl rfl dX0_assignJobs_61 k) ?_
    refine ev_s (fun Q k => rn_aload_n (j := 0) 1 rfl rfl (okO_0 (oF hB)) dX0_assignJobs_62 k) ?_
    refine ev_s (fun Q k => rn_aload_n (j := 0) 1 rfl rfl (okO_0 (oF hB)) dX0_assignJobs_63 k) ?_
    refine ev_s (fun Q k => rn_getr (q := (B + 5)) f_X0_29 (oF hB).1 (oF hB).2.1 (okO_1 (oF hB)) rfl (rF4 hB) dX0_assignJobs_64 k) ?_
    refine ev_s (fun Q k => rn_iload_n (j := 2) 3 rfl rfl dX0_assignJobs_67 k) ?_
    refine ev_gd (fun g1 => ?_)
    refine ev_s (fun Q k => rn_aald (q := (B + 16 + v2.toNatClampNeg)) (oF5 hB).1 (oF5 hB).2.1 (by decide) (by decide) (oF5 hB).2.2 (inR_vp g1) (rJ hB g1.2) dX0_assignJobs_68 k) ?_
    refine ev_s (fun Q k => rn_iload (j := 5) 0 rfl dX0_assignJobs_69 k) ?_
    refine ev_bindI (as := [.inr (.inr B), .inr (.inr (B + 16 + v2.toNatClampNeg)), .inl s0]) (fun Q Q1 => rn_callV (as := [.inr (.inr (B + 16 + v2.toNatClampNeg)), .inl s0]) (rest := [.inl v2, .inr (.inr B)]) (o := B) m_X0_147 dX0_assignJobs_71 (rcv_own (oF hB).1 (oF hB).2.1 (by decide) (okO_1 (oF hB))) rfl rfl (Nat.le_of_ble_eq_true rfl)) pl_X0_crewByItself (Nat.le_of_ble_eq_true rfl) rfl (e_X0_crewByItself l E (d + 1) B hB (B + 16 + v2.toNatClampNeg) (oJ hB g1.2) s0 D) (fun r2 D3 => ?_)
    refine ev_s (fun Q k => rn_iload (j := 5) 0 rfl dX0_assignJobs_74 k) ?_
    refine ev_bindI (as := [.inr (.inr B), .inl v2, .inl r2, .inl s0]) (fun Q Q1 => rn_callV (as := [.inl v2, .inl r2, .inl s0]) (rest := []) (o := B) m_X0_173 dX0_assignJobs_76 (rcv_own (oF hB).1 (oF hB).2.1 (by decide) (okO_1 (oF hB))) rfl rfl (Nat.le_of_ble_eq_true rfl)) pl_X0_beginJob (Nat.le_of_ble_eq_true rfl) rfl (e_X0_beginJob l E d B hB v2 r2 s0 D3) (fun r4 D5 => ?_)
    refine ev_if (fun Q => rn_if_lt (tgt := 88) dX0_assignJobs_79 (by decide)) (fun c6 => ?_) (fun c7 => ?_)
    · refine ev_s (fun Q k => rn_sub (ls' := [(0, .inr (.inr B)), (1, .inl v1), (2, .inl v2), (3, .inl v3)]) [1, 2, 3, 4] rfl k) ?_
      exact e_X0_assignJobs_88 l E d B hB k10 hk10  v1 v2 v3 D5
    · refine ev_s (fun Q k => rn_iload_n (j := 1) 2 rfl rfl dX0_assignJobs_82 k) ?_
      refine ev_s (fun Q k => rn_iconst (v := 1) (by decide) dX0_assignJobs_83 k) ?_
      refine ev_s (fun Q k => rn_iload_n (j := 2) 3 rfl rfl dX0_assignJobs_84 k) ?_
      refine ev_s (fun Q k => rn_ishl dX0_assignJobs_85 k) ?_
      refine ev_s (fun Q k => rn_ior dX0_assignJobs_86 k) ?_
      refine ev_s (fun Q k => rn_istore_n (j := 1) (ls' := [(1, .inl (v1 ||| ((1 : Int32) <<< (v2 &&& 31)))), (5, .inl s0), (0, .inr (.inr B)), (2, .inl v2), (3, .inl v3), (4, .inl v4)]) rfl (by decide) rfl dX0_assignJobs_87 k) ?_
      refine ev_s (fun Q k => rn_sub (ls' := [(0, .inr (.inr B)), (1, .inl (v1 ||| ((1 : Int32) <<< (v2 &&& 31)))), (2, .inl v2), (3, .inl v3)]) [2, 0, 3, 4] rfl k) ?_
      exact e_X0_assignJobs_88 l E d B hB k10 hk10  (v1 ||| ((1 : Int32) <<< (v2 &&& 31))) v2 v3 D5

set_option maxRecDepth 20000 in
theorem e_X0_assignJobs_10 (l : Launch) (E : eE) (d : Nat) (B : Nat) (hB : isF B)  (fuel : Nat) : ∀ (v1 : Int32) (v2 : Int32) (v3 : Int32) (D : dT), ev l E (d + 4) yX0_assignJobs cX0_assignJobs 6 (some .int) 10 [(0, .inr (.inr B)), (1, .inl v1), (2, .inl v2), (3, .inl v3)] [] D eI (F_X0_assignJobs_10 fuel B v1 v2 v3 D) := by
  induction fuel with
  | zero =>
    intro v1 v2 v3 D
    exact ev_none
  | succ fu ih =>
    intro v1 v2 v3 D
    rw [F_X0_assignJobs_10]
    refine ev_s (fun Q k => rn_iload_n (j := 3) 3 rfl rfl dX0_assignJobs_10 k) ?_
    refine ev_s (fun Q k => rn_bipush (v := 16) (by decide) dX0_assignJobs_11 k) ?_
    refine ev_if (fun Q => rn_icmp_ge (tgt := 100) dX0_assignJobs_13 (by decide)) (fun c12 => ?_) (fun c13 => ?_)
    · refine ev_s (fun Q k => rn_iload_n (j := 1) 1 rfl rfl dX0_assignJobs_100 k) ?_
      exact ev_ret (fun Q q => rn_ret q .int rfl rfl dX0_assignJobs_101)
    · refine ev_s (fun Q k => rn_aload_n (j := 0) 0 rfl rfl (okO_0 (oF hB)) dX0_assignJobs_16 k) ?_
      refine ev_s (fun Q k => rn_iload_n (j := 2) 2 rfl rfl dX0_assignJobs_17 k) ?_
      refine ev_bindI (as := [.inr (.inr B), .inl v2]) (fun Q Q1 => rn_callV (as := [.inl v2]) (rest := []) (o := B) m_X0_114 dX0_assignJobs_18 (rcv_own (oF hB).1 (oF hB).2.1 (by decide) (okO_1 (oF hB))) rfl rfl (Nat.le_of_ble_eq_true rfl)) pl_X0_hasJob (Nat.le_of_ble_eq_true rfl) rfl (e_X0_hasJob l E (d + 3) B hB v2 D) (fun r1 D2 => ?_)
      refine ev_if (fun Q => rn_if_eq (tgt := 100) dX0_assignJobs_21 (by decide)) (fun c10 => ?_) (fun c11 => ?_)
      · refine ev_s (fun Q k => rn_iload_n (j := 1) 1 rfl rfl dX0_assignJobs_100 k) ?_
        exact ev_ret (fun Q q => rn_ret q .int rfl rfl dX0_assignJobs_101)
      · refine ev_s (fun Q k => rn_aload_n (j := 0) 0 rfl rfl (okO_0 (oF hB)) dX0_assignJobs_24 k) ?_
        refine ev_s (fun Q k => rn_aload_n (j := 0) 0 rfl rfl (okO_0 (oF hB)) dX0_assignJobs_25 k) ?_
        refine ev_s (fun Q k => rn_getr (q := (B + 5)) f_X0_29 (oF hB).1 (oF hB).2.1 (okO_1 (oF hB)) rfl (rF4 hB) dX0_assignJobs_26 k) ?_
        refine ev_s (fun Q k => rn_iload_n (j := 2) 2 rfl rfl dX0_assignJobs_29 k) ?_
        refine ev_gd (fun g3 => ?_)
        refine ev_s (fun Q k => rn_aald (q := (B + 16 + v2.toNatClampNeg)) (oF5 hB).1 (oF5 hB).2.1 (by decide) (by decide) (oF5 hB).2.2 (inR_vp g3) (rJ hB g3.2) dX0_assignJobs_30 k) ?_
        refine ev_bindI (as := [.inr (.inr B), .inr (.inr (B + 16 + v2.toNatClampNeg))]) (fun Q Q1 => rn_callV (as := [.inr (.inr (B + 16 + v2.toNatClampNeg))]) (rest := []) (o := B) m_X0_170 dX0_assignJobs_31 (rcv_own (oF hB).1 (oF hB).2.1 (by decide) (okO_1 (oF hB))) rfl rfl (Nat.le_of_ble_eq_true rfl)) pl_X0_fewestPeopleStraps (Nat.le_of_ble_eq_true rfl) rfl (e_X0_fewestPeopleStraps l E d B hB (B + 16 + v2.toNatClampNeg) (oJ hB g3.2) D2) (fun r4 D5 => ?_)
        refine ev_s (fun Q k => rn_istore (j := 4) (ls' := [(4, .inl r4), (0, .inr (.inr B)), (1, .inl v1), (2, .inl v2), (3, .inl v3)]) (by decide) rfl dX0_assignJobs_34 k) ?_
        refine ev_s (fun Q k => rn_iload (j := 4) 0 rfl dX0_assignJobs_36 k) ?_
        refine ev_bindI (as := [.inl r4]) (fun Q Q1 => rn_callSN (as := [.inl r4]) (rest := []) m_X0_78 dX0_assignJobs_38 rfl rfl (Nat.le_of_ble_eq_true rfl)) pl_X5_isKind (Nat.le_of_ble_eq_true rfl) rfl (e_X5_isKind l E (d + 3) r4 D5) (fun r6 D7 => ?_)
        refine ev_if (fun Q => rn_if_eq (tgt := 49) dX0_assignJobs_41 (by decide)) (fun c8 => ?_) (fun c9 => ?_)
        · refine ev_s (fun Q k => rn_bipush (v := -6) (by decide) dX0_assignJobs_49 k) ?_
          refine ev_s (fun Q k => rn_sub (ls' := [(0, .inr (.inr B)), (1, .inl v1), (2, .inl v2), (3, .inl v3), (4, .inl r4)]) [1, 2, 3, 4, 0] rfl k) ?_
          exact e_X0_assignJobs_51 l E d B hB (fun (v1_ : Int32) (v2_ : Int32) (v3_ : Int32) (D_ : dT) => F_X0_assignJobs_10 fu B v1_ v2_ v3_ D_) (fun v1_ v2_ v3_ D_ => ih v1_ v2_ v3_ D_)  v1 v2 v3 r4 (-6 : Int32) D7
        · refine ev_s (fun Q k => rn_iload (j := 4) 0 rfl dX0_assignJobs_44 k) ?_
          refine ev_s (fun Q k => rn_goto (tgt := 51) dX0_assignJobs_46 (by decide) k) ?_
          refine ev_s (fun Q k => rn_sub (ls' := [(0, .inr (.inr B)), (1, .inl v1), (2, .inl v2), (3, .inl v3), (4, .inl r4)]) [1, 2, 3, 4, 0] rfl k) ?_
          exact e_X0_assignJobs_51 l E d B hB (fun (v1_ : Int32) (v2_ : Int32) (v3_ : Int32) (D_ : dT) => F_X0_assignJobs_10 fu B v1_ v2_ v3_ D_) (fun v1_ v2_ v3_ D_ => ih v1_ v2_ v3_ D_)  v1 v2 v3 r4 r4 D7

set_option maxRecDepth 20000 in
theorem e_X0_assignJobs (l : Launch) (E : eE) (d : Nat) (B : Nat) (hB : isF B) (D : dT) : ev l E (d + 4) yX0_assignJobs cX0_assignJobs 6 (some .int) 0 [(0, .inr (.inr B))] [] D eI (F_X0_assignJobs B D) := by
  unfold F_X0_assignJobs
  refine ev_s (fun Q k => rn_iconst (v := 0) (by decide) dX0_assignJobs_0 k) ?_
  refine ev_s (fun Q k => rn_istore_n (j := 1) (ls' := [(1, .inl (0 : Int32)), (0, .inr (.inr B))]) rfl (by decide) rfl dX0_assignJobs_1 k) ?_
  refine ev_s (fun Q k => rn_aload_n (j := 0) 1 rfl rfl (okO_0 (oF hB)) dX0_assignJobs_2 k) ?_
  refine ev_s (fun Q k => rn_iconst (v := -1) (by decide) dX0_assignJobs_3 k) ?_
  refine ev_bindI (as := [.inr (.inr B), .inl (-1 : Int32)]) (fun Q Q1 => rn_callV (as := [.inl (-1 : Int32)]) (rest := []) (o := B) m_X0_167 dX0_assignJobs_4 (rcv_own (oF hB).1 (oF hB).2.1 (by decide) (okO_1 (oF hB))) rfl rfl (Nat.le_of_ble_eq_true rfl)) pl_X0_nextWaiting (Nat.le_of_ble_eq_true rfl) rfl (e_X0_nextWaiting l E (d + 1) B hB (-1 : Int32) D) (fun r1 D2 => ?_)
  refine ev_s (fun Q k => rn_istore_n (j := 2) (ls' := [(2, .inl r1), (1, .inl (0 : Int32)), (0, .inr (.inr B))]) rfl (by decide) rfl dX0_assignJobs_7 k) ?_
  refine ev_s (fun Q k => rn_iconst (v := 0) (by decide) dX0_assignJobs_8 k) ?_
  refine ev_s (fun Q k => rn_istore_n (j := 3) (ls' := [(3, .inl (0 : Int32)), (2, .inl r1), (1, .inl (0 : Int32)), (0, .inr (.inr B))]) rfl (by decide) rfl dX0_assignJobs_9 k) ?_
  refine ev_s (fun Q k => rn_sub (ls' := [(0, .inr (.inr B)), (1, .inl (0 : Int32)), (2, .inl r1), (3, .inl (0 : Int32))]) [3, 2, 1, 0] rfl k) ?_
  exact e_X0_assignJobs_10 l E d B hB  lim (0 : Int32) r1 (0 : Int32) D2

def F_X5_assign  (D : dT) : Option (Int32 × dT) := bd (F_X1_note 19 D) (fun (r1 : Int32) (D2 : dT) => bd (F_X0_assignJobs 19 D2) (fun (r3 : Int32) (D4 : dT) => bd (F_X1_keepUnlessError r3 D4) (fun (r5 : Int32) (D6 : dT) => some (r5, D6))))
set_option maxRecDepth 20000 in
theorem e_X5_assign (l : Launch) (E : eE) (d : Nat)  (D : dT) : ev l E (d + 5) yX5_assign cX5_assign 1 (some .int) 0 [(0, .inr (.inr 18))] [] D eI (F_X5_assign D) := by
  unfold F_X5_assign
  refine ev_s (fun Q k => rn_aload_n (j := 0) 0 rfl rfl (okO_0 ok_18) dX5_assign_0 k) ?_
  refine ev_s (fun Q k => rn_getr (q := 85) f_X5_30 ok_18.1 ok_18.2.1 (okO_1 ok_18) rfl rfl dX5_assign_1 k) ?_
  refine ev_s (fun Q k => rn_aload_n (j := 0) 0 rfl rfl (okO_0 ok_18) dX5_assign_4 k) ?_
  refine ev_s (fun Q k => rn_getr (q := 19) f_X5_10 ok_18.1 ok_18.2.1 (okO_1 ok_18) rfl rfl dX5_assign_5 k) ?_
  refine ev_bindU (as := [.inr (.inr 85), .inr (.inr 19)]) (fun Q Q1 => rn_callV (as := [.inr (.inr 19)]) (rest := []) (o := 85) m_X5_41 dX5_assign_8 (rcv_own ok_85.1 ok_85.2.1 (by decide) (okO_1 ok_85)) rfl rfl (Nat.le_of_ble_eq_true rfl)) pl_X1_note (Nat.le_of_ble_eq_true rfl) rfl (e_X1_note l E (d + 2) 19 isF_19 D) (fun r1 D2 => ?_)
  refine ev_s (fun Q k => rn_aload_n (j := 0) 0 rfl rfl (okO_0 ok_18) dX5_assign_11 k) ?_
  refine ev_s (fun Q k => rn_getr (q := 85) f_X5_30 ok_18.1 ok_18.2.1 (okO_1 ok_18) rfl rfl dX5_assign_12 k) ?_
  refine ev_s (fun Q k => rn_aload_n (j := 0) 0 rfl rfl (okO_0 ok_18) dX5_assign_15 k) ?_
  refine ev_s (fun Q k => rn_getr (q := 19) f_X5_10 ok_18.1 ok_18.2.1 (okO_1 ok_18) rfl rfl dX5_assign_16 k) ?_
  refine ev_bindI (as := [.inr (.inr 19)]) (fun Q Q1 => rn_callV (as := []) (rest := [.inr (.inr 85)]) (o := 19) m_X5_67 dX5_assign_19 (rcv_own (oF isF_19).1 (oF isF_19).2.1 (by decide) (okO_1 (oF isF_19))) rfl rfl (Nat.le_of_ble_eq_true rfl)) pl_X0_assignJobs (Nat.le_of_ble_eq_true rfl) rfl (e_X0_assignJobs l E d 19 isF_19 D2) (fun r3 D4 => ?_)
  refine ev_bindI (as := [.inr (.inr 85), .inl r3]) (fun Q Q1 => rn_callV (as := [.inl r3]) (rest := []) (o := 85) m_X5_49 dX5_assign_22 (rcv_own ok_85.1 ok_85.2.1 (by decide) (okO_1 ok_85)) rfl rfl (Nat.le_of_ble_eq_true rfl)) pl_X1_keepUnlessError (Nat.le_of_ble_eq_true rfl) rfl (e_X1_keepUnlessError l E (d + 2) r3 D4) (fun r5 D6 => ?_)
  exact ev_ret (fun Q q => rn_ret q .int rfl rfl dX5_assign_25)

def F_X0_delayJob (B : Nat) (x1 : Int32) (x2 : Int32) (D : dT) : Option (Int32 × dT) := bd (F_X0_hasJob B x1 D) (fun (r1 : Int32) (D2 : dT) => if r1 = 0 then some ((-1 : Int32), D2) else bd (F_X5_isWithin x2 (1 : Int32) (20 : Int32) D2) (fun (r3 : Int32) (D4 : dT) => if r3 = 0 then some ((-2 : Int32), D4) else if inR x1 16 then if (D4 (B + 16 + x1.toNatClampNeg) 5) = (1 : Int32) then if inR x1 16 then if ((D4 (B + 16 + x1.toNatClampNeg) 9) + x2) ≤ (60 : Int32) then if inR x1 16 then if inR x1 16 then some (((up2 D4 (B + 16 + x1.toNatClampNeg) 9 ((D4 (B + 16 + x1.toNatClampNeg) 9) + x2)) (B + 16 + x1.toNatClampNeg) 9), (up2 D4 (B + 16 + x1.toNatClampNeg) 9 ((D4 (B + 16 + x1.toNatClampNeg) 9) + x2))) else none else none else some ((-5 : Int32), D4) else none else some ((-5 : Int32), D4) else none))
set_option maxRecDepth 20000 in
theorem e_X0_delayJob (l : Launch) (E : eE) (d : Nat) (B : Nat) (hB : isF B) (x1 : Int32) (x2 : Int32) (D : dT) : ev l E (d + 1) yX0_delayJob cX0_delayJob 3 (some .int) 0 [(0, .inr (.inr B)), (1, .inl x1), (2, .inl x2)] [] D eI (F_X0_delayJob B x1 x2 D) := by
  unfold F_X0_delayJob
  refine ev_s (fun Q k => rn_aload_n (j := 0) 0 rfl rfl (okO_0 (oF hB)) dX0_delayJob_0 k) ?_
  refine ev_s (fun Q k => rn_iload_n (j := 1) 1 rfl rfl dX0_delayJob_1 k) ?_
  refine ev_bindI (as := [.inr (.inr B), .inl x1]) (fun Q Q1 => rn_callV (as := [.inl x1]) (rest := []) (o := B) m_X0_114 dX0_delayJob_2 (rcv_own (oF hB).1 (oF hB).2.1 (by decide) (okO_1 (oF hB))) rfl rfl (Nat.le_of_ble_eq_true rfl)) pl_X0_hasJob (Nat.le_of_ble_eq_true rfl) rfl (e_X0_hasJob l E d B hB x1 D) (fun r1 D2 => ?_)
  refine ev_if (fun Q => rn_if_ne (tgt := 10) dX0_delayJob_5 (by decide)) (fun c15 => ?_) (fun c16 => ?_)
  · refine ev_s (fun Q k => rn_iconst (v := -1) (by decide) dX0_delayJob_8 k) ?_
    exact ev_ret (fun Q q => rn_ret q .int rfl rfl dX0_delayJob_9)
  · refine ev_s (fun Q k => rn_iload_n (j := 2) 2 rfl rfl dX0_delayJob_10 k) ?_
    refine ev_s (fun Q k => rn_iconst (v := 1) (by decide) dX0_delayJob_11 k) ?_
    refine ev_s (fun Q k => rn_bipush (v := 20) (by decide) dX0_delayJob_12 k) ?_
    refine ev_bindI (as := [.inl x2, .inl (1 : Int32), .inl (20 : Int32)]) (fun Q Q1 => rn_callSN (as := [.inl x2, .inl (1 : Int32), .inl (20 : Int32)]) (rest := []) m_X0_64 dX0_delayJob_14 rfl rfl (Nat.le_of_ble_eq_true rfl)) pl_X5_isWithin (Nat.le_of_ble_eq_true rfl) rfl (e_X5_isWithin l E d x2 (1 : Int32) (20 : Int32) D2) (fun r3 D4 => ?_)
    refine ev_if (fun Q => rn_if_ne (tgt := 23) dX0_delayJob_17 (by decide)) (fun c13 => ?_) (fun c14 => ?_)
    · refine ev_s (fun Q k => rn_bipush (v := -2) (by decide) dX0_delayJob_20 k) ?_
      exact ev_ret (fun Q q => rn_ret q .int rfl rfl dX0_delayJob_22)
    · refine ev_s (fun Q k => rn_aload_n (j := 0) 0 rfl rfl (okO_0 (oF hB)) dX0_delayJob_23 k) ?_
      refine ev_s (fun Q k => rn_getr (q := (B + 5)) f_X0_29 (oF hB).1 (oF hB).2.1 (okO_1 (oF hB)) rfl (rF4 hB) dX0_delayJob_24 k) ?_
      refine ev_s (fun Q k => rn_iload_n (j := 1) 1 rfl rfl dX0_delayJob_27 k) ?_
      refine ev_gd (fun g5 => ?_)
      refine ev_s (fun Q k => rn_aald (q := (B + 16 + x1.toNatClampNeg)) (oF5 hB).1 (oF5 hB).2.1 (by decide) (by decide) (oF5 hB).2.2 (inR_vp g5) (rJ hB g5.2) dX0_delayJob_28 k) ?_
      refine ev_s (fun Q k => rn_geti f_X0_120 (oJ hB g5.2).1 (oJ hB g5.2).2.1 (okO_1 (oJ hB g5.2)) rfl dX0_delayJob_29 k) ?_
      refine ev_s (fun Q k => rn_iconst (v := 1) (by decide) dX0_delayJob_32 k) ?_
      refine ev_if (fun Q => rn_icmp_ne (tgt := 52) dX0_delayJob_33 (by decide)) (fun c11 => ?_) (fun c12 => ?_)
      · refine ev_s (fun Q k => rn_aload_n (j := 0) 0 rfl rfl (okO_0 (oF hB)) dX0_delayJob_36 k) ?_
        refine ev_s (fun Q k => rn_getr (q := (B + 5)) f_X0_29 (oF hB).1 (oF hB).2.1 (okO_1 (oF hB)) rfl (rF4 hB) dX0_delayJob_37 k) ?_
        refine ev_s (fun Q k => rn_iload_n (j := 1) 1 rfl rfl dX0_delayJob_40 k) ?_
        refine ev_gd (fun g6 => ?_)
        refine ev_s (fun Q k => rn_aald (q := (B + 16 + x1.toNatClampNeg)) (oF5 hB).1 (oF5 hB).2.1 (by decide) (by decide) (oF5 hB).2.2 (inR_vp g6) (rJ hB g6.2) dX0_delayJob_41 k) ?_
        refine ev_s (fun Q k => rn_geti f_X0_183 (oJ hB g6.2).1 (oJ hB g6.2).2.1 (okO_1 (oJ hB g6.2)) rfl dX0_delayJob_42 k) ?_
        refine ev_s (fun Q k => rn_iload_n (j := 2) 2 rfl rfl dX0_delayJob_45 k) ?_
        refine ev_s (fun Q k => rn_iadd dX0_delayJob_46 k) ?_
        refine ev_s (fun Q k => rn_bipush (v := 60) (by decide) dX0_delayJob_47 k) ?_
        refine ev_if (fun Q => rn_icmp_le (tgt := 55) dX0_delayJob_49 (by decide)) (fun c9 => ?_) (fun c10 => ?_)
        · refine ev_s (fun Q k => rn_aload_n (j := 0) 0 rfl rfl (okO_0 (oF hB)) dX0_delayJob_55 k) ?_
          refine ev_s (fun Q k => rn_getr (q := (B + 5)) f_X0_29 (oF hB).1 (oF hB).2.1 (okO_1 (oF hB)) rfl (rF4 hB) dX0_delayJob_56 k) ?_
          refine ev_s (fun Q k => rn_iload_n (j := 1) 1 rfl rfl dX0_delayJob_59 k) ?_
          refine ev_gd (fun g7 => ?_)
          refine ev_s (fun Q k => rn_aald (q := (B + 16 + x1.toNatClampNeg)) (oF5 hB).1 (oF5 hB).2.1 (by decide) (by decide) (oF5 hB).2.2 (inR_vp g7) (rJ hB g7.2) dX0_delayJob_60 k) ?_
          refine ev_s (fun Q k => rn_dup rfl dX0_delayJob_61 k) ?_
          refine ev_s (fun Q k => rn_geti f_X0_183 (oJ hB g7.2).1 (oJ hB g7.2).2.1 (okO_1 (oJ hB g7.2)) rfl dX0_delayJob_62 k) ?_
          refine ev_s (fun Q k => rn_iload_n (j := 2) 2 rfl rfl dX0_delayJob_65 k) ?_
          refine ev_s (fun Q k => rn_iadd dX0_delayJob_66 k) ?_
          refine ev_s (fun Q k => rn_puti f_X0_183 (oJ hB g7.2).1 (oJ hB g7.2).2.1 (okO_1 (oJ hB g7.2)) rfl rfl rfl rfl dX0_delayJob_67 k) ?_
          refine ev_s (fun Q k => rn_aload_n (j := 0) 0 rfl rfl (okO_0 (oF hB)) dX0_delayJob_70 k) ?_
          refine ev_s (fun Q k => rn_getr (q := (B + 5)) f_X0_29 (oF hB).1 (oF hB).2.1 (okO_1 (oF hB)) rfl (rF4 hB) dX0_delayJob_71 k) ?_
          refine ev_s (fun Q k => rn_iload_n (j := 1) 1 rfl rfl dX0_delayJob_74 k) ?_
          refine ev_gd (fun g8 => ?_)
          refine ev_s (fun Q k => rn_aald (q := (B + 16 + x1.toNatClampNeg)) (oF5 hB).1 (oF5 hB).2.1 (by decide) (by decide) (oF5 hB).2.2 (inR_vp g8) (rJ hB g8.2) dX0_delayJob_75 k) ?_
          refine ev_s (fun Q k => rn_geti f_X0_183 (oJ hB g8.2).1 (oJ hB g8.2).2.1 (okO_1 (oJ hB g8.2)) rfl dX0_delayJob_76 k) ?_
          exact ev_ret (fun Q q => rn_ret q .int rfl rfl dX0_delayJob_79)
        · refine ev_s (fun Q k => rn_bipush (v := -5) (by decide) dX0_delayJob_52 k) ?_
          exact ev_ret (fun Q q => rn_ret q .int rfl rfl dX0_delayJob_54)
      · refine ev_s (fun Q k => rn_bipush (v := -5) (by decide) dX0_delayJob_52 k) ?_
        exact ev_ret (fun Q q => rn_ret q .int rfl rfl dX0_delayJob_54)

def F_X5_delay (x1 : Int32) (x2 : Int32) (D : dT) : Option (Int32 × dT) := bd (F_X1_note 19 D) (fun (r1 : Int32) (D2 : dT) => bd (F_X0_delayJob 19 x1 x2 D2) (fun (r3 : Int32) (D4 : dT) => bd (F_X1_keepUnlessError r3 D4) (fun (r5 : Int32) (D6 : dT) => some (r5, D6))))
set_option maxRecDepth 20000 in
theorem e_X5_delay (l : Launch) (E : eE) (d : Nat) (x1 : Int32) (x2 : Int32) (D : dT) : ev l E (d + 3) yX5_delay cX5_delay 3 (some .int) 0 [(0, .inr (.inr 18)), (1, .inl x1), (2, .inl x2)] [] D eI (F_X5_delay x1 x2 D) := by
  unfold F_X5_delay
  refine ev_s (fun Q k => rn_aload_n (j := 0) 0 rfl rfl (okO_0 ok_18) dX5_delay_0 k) ?_
  refine ev_s (fun Q k => rn_getr (q := 85) f_X5_30 ok_18.1 ok_18.2.1 (okO_1 ok_18) rfl rfl dX5_delay_1 k) ?_
  refine ev_s (fun Q k => rn_aload_n (j := 0) 0 rfl rfl (okO_0 ok_18) dX5_delay_4 k) ?_
  refine ev_s (fun Q k => rn_getr (q := 19) f_X5_10 ok_18.1 ok_18.2.1 (okO_1 ok_18) rfl rfl dX5_delay_5 k) ?_
  refine ev_bindU (as := [.inr (.inr 85), .inr (.inr 19)]) (fun Q Q1 => rn_callV (as := [.inr (.inr 19)]) (rest := []) (o := 85) m_X5_41 dX5_delay_8 (rcv_own ok_85.1 ok_85.2.1 (by decide) (okO_1 ok_85)) rfl rfl (Nat.le_of_ble_eq_true rfl)) pl_X1_note (Nat.le_of_ble_eq_true rfl) rfl (e_X1_note l E d 19 isF_19 D) (fun r1 D2 => ?_)
  refine ev_s (fun Q k => rn_aload_n (j := 0) 0 rfl rfl (okO_0 ok_18) dX5_delay_11 k) ?_
  refine ev_s (fun Q k => rn_getr (q := 85) f_X5_30 ok_18.1 ok_18.2.1 (okO_1 ok_18) rfl rfl dX5_delay_12 k) ?_
  refine ev_s (fun Q k => rn_aload_n (j := 0) 0 rfl rfl (okO_0 ok_18) dX5_delay_15 k) ?_
  refine ev_s (fun Q k => rn_getr (q := 19) f_X5_10 ok_18.1 ok_18.2.1 (okO_1 ok_18) rfl rfl dX5_delay_16 k) ?_
  refine ev_s (fun Q k => rn_iload_n (j := 1) 1 rfl rfl dX5_delay_19 k) ?_
  refine ev_s (fun Q k => rn_iload_n (j := 2) 2 rfl rfl dX5_delay_20 k) ?_
  refine ev_bindI (as := [.inr (.inr 19), .inl x1, .inl x2]) (fun Q Q1 => rn_callV (as := [.inl x1, .inl x2]) (rest := [.inr (.inr 85)]) (o := 19) m_X5_71 dX5_delay_21 (rcv_own (oF isF_19).1 (oF isF_19).2.1 (by decide) (okO_1 (oF isF_19))) rfl rfl (Nat.le_of_ble_eq_true rfl)) pl_X0_delayJob (Nat.le_of_ble_eq_true rfl) rfl (e_X0_delayJob l E (d + 1) 19 isF_19 x1 x2 D2) (fun r3 D4 => ?_)
  refine ev_bindI (as := [.inr (.inr 85), .inl r3]) (fun Q Q1 => rn_callV (as := [.inl r3]) (rest := []) (o := 85) m_X5_49 dX5_delay_24 (rcv_own ok_85.1 ok_85.2.1 (by decide) (okO_1 ok_85)) rfl rfl (Nat.le_of_ble_eq_true rfl)) pl_X1_keepUnlessError (Nat.le_of_ble_eq_true rfl) rfl (e_X1_keepUnlessError l E d r3 D4) (fun r5 D6 => ?_)
  exact ev_ret (fun Q q => rn_ret q .int rfl rfl dX5_delay_27)

def F_X0_endJob (B : Nat) (o1 : Nat) (x2 : Int32) (D : dT) : Option (Int32 × dT) := if (D o1 5) = (1 : Int32) then bd (F_X0_placeCrew B (D o1 7) (-6 : Int32) D) (fun (r1 : Int32) (D2 : dT) => bd (F_X5_isKind (D2 o1 8) D2) (fun (r3 : Int32) (D4 : dT) => if r3 = 0 then some ((0 : Int32), (up2 D4 o1 5 x2)) else if inR (D4 o1 8) 3 then if inR (D4 o1 8) 3 then some ((0 : Int32), (up2 (up2 D4 (B + 3) (D4 o1 8).toNatClampNeg ((D4 (B + 3) (D4 o1 8).toNatClampNeg) + (1 : Int32))) o1 5 x2)) else none else none)) else some ((0 : Int32), (up2 D o1 5 x2))
set_option maxRecDepth 20000 in
theorem e_X0_endJob (l : Launch) (E : eE) (d : Nat) (B : Nat) (hB : isF B) (o1 : Nat) (ho1 : okO o1 2 0) (x2 : Int32) (D : dT) : ev l E (d + 2) yX0_endJob cX0_endJob 3 none 0 [(0, .inr (.inr B)), (1, .inr (.inr o1)), (2, .inl x2)] [] D eU (F_X0_endJob B o1 x2 D) := by
  unfold F_X0_endJob
  refine ev_s (fun Q k => rn_aload_n (j := 1) 1 rfl rfl (okO_0 ho1) dX0_endJob_0 k) ?_
  refine ev_s (fun Q k => rn_geti f_X0_120 ho1.1 ho1.2.1 (okO_1 ho1) rfl dX0_endJob_1 k) ?_
  refine ev_s (fun Q k => rn_iconst (v := 1) (by decide) dX0_endJob_4 k) ?_
  refine ev_if (fun Q => rn_icmp_ne (tgt := 41) dX0_endJob_5 (by decide)) (fun c9 => ?_) (fun c10 => ?_)
  · refine ev_s (fun Q k => rn_aload_n (j := 0) 0 rfl rfl (okO_0 (oF hB)) dX0_endJob_8 k) ?_
    refine ev_s (fun Q k => rn_aload_n (j := 1) 1 rfl rfl (okO_0 ho1) dX0_endJob_9 k) ?_
    refine ev_s (fun Q k => rn_geti f_X0_157 ho1.1 ho1.2.1 (okO_1 ho1) rfl dX0_endJob_10 k) ?_
    refine ev_s (fun Q k => rn_bipush (v := -6) (by decide) dX0_endJob_13 k) ?_
    refine ev_bindU (as := [.inr (.inr B), .inl (D o1 7), .inl (-6 : Int32)]) (fun Q Q1 => rn_callV (as := [.inl (D o1 7), .inl (-6 : Int32)]) (rest := []) (o := B) m_X0_163 dX0_endJob_15 (rcv_own (oF hB).1 (oF hB).2.1 (by decide) (okO_1 (oF hB))) rfl rfl (Nat.le_of_ble_eq_true rfl)) pl_X0_placeCrew (Nat.le_of_ble_eq_true rfl) rfl (e_X0_placeCrew l E d B hB (D o1 7) (-6 : Int32) D) (fun r1 D2 => ?_)
    refine ev_s (fun Q k => rn_aload_n (j := 1) 1 rfl rfl (okO_0 ho1) dX0_endJob_18 k) ?_
    refine ev_s (fun Q k => rn_geti f_X0_160 ho1.1 ho1.2.1 (okO_1 ho1) rfl dX0_endJob_19 k) ?_
    refine ev_bindI (as := [.inl (D2 o1 8)]) (fun Q Q1 => rn_callSN (as := [.inl (D2 o1 8)]) (rest := []) m_X0_78 dX0_endJob_22 rfl rfl (Nat.le_of_ble_eq_true rfl)) pl_X5_isKind (Nat.le_of_ble_eq_true rfl) rfl (e_X5_isKind l E (d + 1) (D2 o1 8) D2) (fun r3 D4 => ?_)
    refine ev_if (fun Q => rn_if_eq (tgt := 41) dX0_endJob_25 (by decide)) (fun c7 => ?_) (fun c8 => ?_)
    · refine ev_s (fun Q k => rn_aload_n (j := 1) 1 rfl rfl (okO_0 ho1) dX0_endJob_41 k) ?_
      refine ev_s (fun Q k => rn_iload_n (j := 2) 2 rfl rfl dX0_endJob_42 k) ?_
      refine ev_s (fun Q k => rn_puti f_X0_120 ho1.1 ho1.2.1 (okO_1 ho1) rfl rfl rfl rfl dX0_endJob_43 k) ?_
      exact ev_ret (fun Q q => rn_retv q rfl dX0_endJob_46)
    · refine ev_s (fun Q k => rn_aload_n (j := 0) 0 rfl rfl (okO_0 (oF hB)) dX0_endJob_28 k) ?_
      refine ev_s (fun Q k => rn_getr (q := (B + 3)) f_X0_18 (oF hB).1 (oF hB).2.1 (okO_1 (oF hB)) rfl (rF2 hB) dX0_endJob_29 k) ?_
      refine ev_s (fun Q k => rn_aload_n (j := 1) 1 rfl rfl (okO_0 ho1) dX0_endJob_32 k) ?_
      refine ev_s (fun Q k => rn_geti f_X0_160 ho1.1 ho1.2.1 (okO_1 ho1) rfl dX0_endJob_33 k) ?_
      refine ev_s (fun Q k => rn_dup2 rfl rfl dX0_endJob_36 k) ?_
      refine ev_gd (fun g5 => ?_)
      refine ev_s (fun Q k => rn_iald (oF3 hB).1 (oF3 hB).2.1 (oF3 hB).2.2 (inR_vp g5) dX0_endJob_37 k) ?_
      refine ev_s (fun Q k => rn_iconst (v := 1) (by decide) dX0_endJob_38 k) ?_
      refine ev_s (fun Q k => rn_iadd dX0_endJob_39 k) ?_
      refine ev_gd (fun g6 => ?_)
      refine ev_s (fun Q k => rn_iast (oF3 hB).1 (oF3 hB).2.1 (oF3 hB).2.2 (inR_vp g6) dX0_endJob_40 k) ?_
      refine ev_s (fun Q k => rn_aload_n (j := 1) 1 rfl rfl (okO_0 ho1) dX0_endJob_41 k) ?_
      refine ev_s (fun Q k => rn_iload_n (j := 2) 2 rfl rfl dX0_endJob_42 k) ?_
      refine ev_s (fun Q k => rn_puti f_X0_120 ho1.1 ho1.2.1 (okO_1 ho1) rfl rfl rfl rfl dX0_endJob_43 k) ?_
      exact ev_ret (fun Q q => rn_retv q rfl dX0_endJob_46)
  · refine ev_s (fun Q k => rn_aload_n (j := 1) 1 rfl rfl (okO_0 ho1) dX0_endJob_41 k) ?_
    refine ev_s (fun Q k => rn_iload_n (j := 2) 2 rfl rfl dX0_endJob_42 k) ?_
    refine ev_s (fun Q k => rn_puti f_X0_120 ho1.1 ho1.2.1 (okO_1 ho1) rfl rfl rfl rfl dX0_endJob_43 k) ?_
    exact ev_ret (fun Q q => rn_retv q rfl dX0_endJob_46)

def F_X0_callOffJob_35 (B : Nat) (x1 : Int32)  (o2v : Nat) (D : dT) : Option (Int32 × dT) := bd (F_X0_endJob B o2v (3 : Int32) D) (fun (r1 : Int32) (D2 : dT) => some ((D2 o2v 7), D2))
def F_X0_callOffJob (B : Nat) (x1 : Int32) (D : dT) : Option (Int32 × dT) := bd (F_X0_hasJob B x1 D) (fun (r1 : Int32) (D2 : dT) => if r1 = 0 then some ((-1 : Int32), D2) else if inR x1 16 then if (D2 (B + 16 + x1.toNatClampNeg) 5) = 0 then F_X0_callOffJob_35 B x1 (B + 16 + x1.toNatClampNeg) D2 else if (D2 (B + 16 + x1.toNatClampNeg) 5) = (1 : Int32) then F_X0_callOffJob_35 B x1 (B + 16 + x1.toNatClampNeg) D2 else some ((-5 : Int32), D2) else none)
set_option maxRecDepth 20000 in
theorem e_X0_callOffJob_35 (l : Launch) (E : eE) (d : Nat) (B : Nat) (hB : isF B) (x1 : Int32)  (o2v : Nat) (ho2v : okO o2v 2 0) (D : dT) : ev l E (d + 3) yX0_callOffJob cX0_callOffJob 3 (some .int) 35 [(0, .inr (.inr B)), (2, .inr (.inr o2v))] [] D eI (F_X0_callOffJob_35 B x1 o2v D) := by
  unfold F_X0_callOffJob_35
  refine ev_s (fun Q k => rn_aload_n (j := 0) 0 rfl rfl (okO_0 (oF hB)) dX0_callOffJob_35 k) ?_
  refine ev_s (fun Q k => rn_aload_n (j := 2) 1 rfl rfl (okO_0 ho2v) dX0_callOffJob_36 k) ?_
  refine ev_s (fun Q k => rn_iconst (v := 3) (by decide) dX0_callOffJob_37 k) ?_
  refine ev_bindU (as := [.inr (.inr B), .inr (.inr o2v), .inl (3 : Int32)]) (fun Q Q1 => rn_callV (as := [.inr (.inr o2v), .inl (3 : Int32)]) (rest := []) (o := B) m_X0_186 dX0_callOffJob_38 (rcv_own (oF hB).1 (oF hB).2.1 (by decide) (okO_1 (oF hB))) rfl rfl (Nat.le_of_ble_eq_true rfl)) pl_X0_endJob (Nat.le_of_ble_eq_true rfl) rfl (e_X0_endJob l E d B hB o2v ho2v (3 : Int32) D) (fun r1 D2 => ?_)
  refine ev_s (fun Q k => rn_aload_n (j := 2) 1 rfl rfl (okO_0 ho2v) dX0_callOffJob_41 k) ?_
  refine ev_s (fun Q k => rn_geti f_X0_157 ho2v.1 ho2v.2.1 (okO_1 ho2v) rfl dX0_callOffJob_42 k) ?_
  exact ev_ret (fun Q q => rn_ret q .int rfl rfl dX0_callOffJob_45)

set_option maxRecDepth 20000 in
theorem e_X0_callOffJob (l : Launch) (E : eE) (d : Nat) (B : Nat) (hB : isF B) (x1 : Int32) (D : dT) : ev l E (d + 3) yX0_callOffJob cX0_callOffJob 3 (some .int) 0 [(0, .inr (.inr B)), (1, .inl x1)] [] D eI (F_X0_callOffJob B x1 D) := by
  unfold F_X0_callOffJob
  refine ev_s (fun Q k => rn_aload_n (j := 0) 0 rfl rfl (okO_0 (oF hB)) dX0_callOffJob_0 k) ?_
  refine ev_s (fun Q k => rn_iload_n (j := 1) 1 rfl rfl dX0_callOffJob_1 k) ?_
  refine ev_bindI (as := [.inr (.inr B), .inl x1]) (fun Q Q1 => rn_callV (as := [.inl x1]) (rest := []) (o := B) m_X0_114 dX0_callOffJob_2 (rcv_own (oF hB).1 (oF hB).2.1 (by decide) (okO_1 (oF hB))) rfl rfl (Nat.le_of_ble_eq_true rfl)) pl_X0_hasJob (Nat.le_of_ble_eq_true rfl) rfl (e_X0_hasJob l E (d + 2) B hB x1 D) (fun r1 D2 => ?_)
  refine ev_if (fun Q => rn_if_ne (tgt := 10) dX0_callOffJob_5 (by decide)) (fun c8 => ?_) (fun c9 => ?_)
  · refine ev_s (fun Q k => rn_iconst (v := -1) (by decide) dX0_callOffJob_8 k) ?_
    exact ev_ret (fun Q q => rn_ret q .int rfl rfl dX0_callOffJob_9)
  · refine ev_s (fun Q k => rn_aload_n (j := 0) 0 rfl rfl (okO_0 (oF hB)) dX0_callOffJob_10 k) ?_
    refine ev_s (fun Q k => rn_getr (q := (B + 5)) f_X0_29 (oF hB).1 (oF hB).2.1 (okO_1 (oF hB)) rfl (rF4 hB) dX0_callOffJob_11 k) ?_
    refine ev_s (fun Q k => rn_iload_n (j := 1) 1 rfl rfl dX0_callOffJob_14 k) ?_
    refine ev_gd (fun g3 => ?_)
    refine ev_s (fun Q k => rn_aald (q := (B + 16 + x1.toNatClampNeg)) (oF5 hB).1 (oF5 hB).2.1 (by decide) (by decide) (oF5 hB).2.2 (inR_vp g3) (rJ hB g3.2) dX0_callOffJob_15 k) ?_
    refine ev_s (fun Q k => rn_astore_n (j := 2) (ls' := [(2, .inr (.inr (B + 16 + x1.toNatClampNeg))), (0, .inr (.inr B)), (1, .inl x1)]) rfl (by decide) (okO_0 (oJ hB g3.2)) rfl dX0_callOffJob_16 k) ?_
    refine ev_s (fun Q k => rn_aload_n (j := 2) 0 rfl rfl (okO_0 (oJ hB g3.2)) dX0_callOffJob_17 k) ?_
    refine ev_s (fun Q k => rn_geti f_X0_120 (oJ hB g3.2).1 (oJ hB g3.2).2.1 (okO_1 (oJ hB g3.2)) rfl dX0_callOffJob_18 k) ?_
    refine ev_if (fun Q => rn_if_eq (tgt := 35) dX0_callOffJob_21 (by decide)) (fun c6 => ?_) (fun c7 => ?_)
    · refine ev_s (fun Q k => rn_sub (ls' := [(0, .inr (.inr B)), (2, .inr (.inr (B + 16 + x1.toNatClampNeg)))]) [1, 0] rfl k) ?_
      exact e_X0_callOffJob_35 l E d B hB x1   (B + 16 + x1.toNatClampNeg) (oJ hB g3.2) D2
    · refine ev_s (fun Q k => rn_aload_n (j := 2) 0 rfl rfl (okO_0 (oJ hB g3.2)) dX0_callOffJob_24 k) ?_
      refine ev_s (fun Q k => rn_geti f_X0_120 (oJ hB g3.2).1 (oJ hB g3.2).2.1 (okO_1 (oJ hB g3.2)) rfl dX0_callOffJob_25 k) ?_
      refine ev_s (fun Q k => rn_iconst (v := 1) (by decide) dX0_callOffJob_28 k) ?_
      refine ev_if (fun Q => rn_icmp_eq (tgt := 35) dX0_callOffJob_29 (by decide)) (fun c4 => ?_) (fun c5 => ?_)
      · refine ev_s (fun Q k => rn_sub (ls' := [(0, .inr (.inr B)), (2, .inr (.inr (B + 16 + x1.toNatClampNeg)))]) [1, 0] rfl k) ?_
        exact e_X0_callOffJob_35 l E d B hB x1   (B + 16 + x1.toNatClampNeg) (oJ hB g3.2) D2
      · refine ev_s (fun Q k => rn_bipush (v := -5) (by decide) dX0_callOffJob_32 k) ?_
        exact ev_ret (fun Q q => rn_ret q .int rfl rfl dX0_callOffJob_34)

def F_X5_callOff (x1 : Int32) (D : dT) : Option (Int32 × dT) := bd (F_X1_note 19 D) (fun (r1 : Int32) (D2 : dT) => bd (F_X0_callOffJob 19 x1 D2) (fun (r3 : Int32) (D4 : dT) => bd (F_X1_keepUnlessError r3 D4) (fun (r5 : Int32) (D6 : dT) => some (r5, D6))))
set_option maxRecDepth 20000 in
theorem e_X5_callOff (l : Launch) (E : eE) (d : Nat) (x1 : Int32) (D : dT) : ev l E (d + 4) yX5_callOff cX5_callOff 2 (some .int) 0 [(0, .inr (.inr 18)), (1, .inl x1)] [] D eI (F_X5_callOff x1 D) := by
  unfold F_X5_callOff
  refine ev_s (fun Q k => rn_aload_n (j := 0) 0 rfl rfl (okO_0 ok_18) dX5_callOff_0 k) ?_
  refine ev_s (fun Q k => rn_getr (q := 85) f_X5_30 ok_18.1 ok_18.2.1 (okO_1 ok_18) rfl rfl dX5_callOff_1 k) ?_
  refine ev_s (fun Q k => rn_aload_n (j := 0) 0 rfl rfl (okO_0 ok_18) dX5_callOff_4 k) ?_
  refine ev_s (fun Q k => rn_getr (q := 19) f_X5_10 ok_18.1 ok_18.2.1 (okO_1 ok_18) rfl rfl dX5_callOff_5 k) ?_
  refine ev_bindU (as := [.inr (.inr 85), .inr (.inr 19)]) (fun Q Q1 => rn_callV (as := [.inr (.inr 19)]) (rest := []) (o := 85) m_X5_41 dX5_callOff_8 (rcv_own ok_85.1 ok_85.2.1 (by decide) (okO_1 ok_85)) rfl rfl (Nat.le_of_ble_eq_true rfl)) pl_X1_note (Nat.le_of_ble_eq_true rfl) rfl (e_X1_note l E (d + 1) 19 isF_19 D) (fun r1 D2 => ?_)
  refine ev_s (fun Q k => rn_aload_n (j := 0) 0 rfl rfl (okO_0 ok_18) dX5_callOff_11 k) ?_
  refine ev_s (fun Q k => rn_getr (q := 85) f_X5_30 ok_18.1 ok_18.2.1 (okO_1 ok_18) rfl rfl dX5_callOff_12 k) ?_
  refine ev_s (fun Q k => rn_aload_n (j := 0) 0 rfl rfl (okO_0 ok_18) dX5_callOff_15 k) ?_
  refine ev_s (fun Q k => rn_getr (q := 19) f_X5_10 ok_18.1 ok_18.2.1 (okO_1 ok_18) rfl rfl dX5_callOff_16 k) ?_
  refine ev_s (fun Q k => rn_iload_n (j := 1) 1 rfl rfl dX5_callOff_19 k) ?_
  refine ev_bindI (as := [.inr (.inr 19), .inl x1]) (fun Q Q1 => rn_callV (as := [.inl x1]) (rest := [.inr (.inr 85)]) (o := 19) m_X5_74 dX5_callOff_20 (rcv_own (oF isF_19).1 (oF isF_19).2.1 (by decide) (okO_1 (oF isF_19))) rfl rfl (Nat.le_of_ble_eq_true rfl)) pl_X0_callOffJob (Nat.le_of_ble_eq_true rfl) rfl (e_X0_callOffJob l E d 19 isF_19 x1 D2) (fun r3 D4 => ?_)
  refine ev_bindI (as := [.inr (.inr 85), .inl r3]) (fun Q Q1 => rn_callV (as := [.inl r3]) (rest := []) (o := 85) m_X5_49 dX5_callOff_23 (rcv_own ok_85.1 ok_85.2.1 (by decide) (okO_1 ok_85)) rfl rfl (Nat.le_of_ble_eq_true rfl)) pl_X1_keepUnlessError (Nat.le_of_ble_eq_true rfl) rfl (e_X1_keepUnlessError l E (d + 1) r3 D4) (fun r5 D6 => ?_)
  exact ev_ret (fun Q q => rn_ret q .int rfl rfl dX5_callOff_26)

def F_X4_rest (o : Nat) (x1 : Int32) (D : dT) : Option (Int32 × dT) := some ((0 : Int32), (up2 D o 1 (if ((D o 1) + x1) < (D o 0) then ((D o 1) + x1) else (D o 0))))
set_option maxRecDepth 20000 in
theorem e_X4_rest (l : Launch) (E : eE) (d : Nat) (o : Nat) (ho : okO o 4 0) (x1 : Int32) (D : dT) : ev l E (d + 1) yX4_rest cX4_rest 2 none 0 [(0, .inr (.inr o)), (1, .inl x1)] [] D eU (F_X4_rest o x1 D) := by
  unfold F_X4_rest
  refine ev_s (fun Q k => rn_aload_n (j := 0) 0 rfl rfl (okO_0 ho) dX4_rest_0 k) ?_
  refine ev_s (fun Q k => rn_aload_n (j := 0) 0 rfl rfl (okO_0 ho) dX4_rest_1 k) ?_
  refine ev_s (fun Q k => rn_geti f_X4_9 ho.1 ho.2.1 (okO_1 ho) rfl dX4_rest_2 k) ?_
  refine ev_s (fun Q k => rn_aload_n (j := 0) 0 rfl rfl (okO_0 ho) dX4_rest_5 k) ?_
  refine ev_s (fun Q k => rn_geti f_X4_15 ho.1 ho.2.1 (okO_1 ho) rfl dX4_rest_6 k) ?_
  refine ev_s (fun Q k => rn_iload_n (j := 1) 1 rfl rfl dX4_rest_9 k) ?_
  refine ev_s (fun Q k => rn_iadd dX4_rest_10 k) ?_
  refine ev_s (fun Q k => rn_mmin mth_X4_27 (Nat.le_of_ble_eq_true rfl) dX4_rest_11 k) ?_
  refine ev_s (fun Q k => rn_puti f_X4_15 ho.1 ho.2.1 (okO_1 ho) rfl rfl rfl rfl dX4_rest_14 k) ?_
  exact ev_ret (fun Q q => rn_retv q rfl dX4_rest_17)

def F_X0_restPeople_2 (fuel : Nat) (B : Nat) (x1 : Int32)  (v2 : Int32) (D : dT) : Option (Int32 × dT) := match fuel with
  | 0 => none
  | fu + 1 => if (D B 5) ≤ v2 then some ((0 : Int32), D) else bd (F_X5_isIn v2 x1 D) (fun (r1 : Int32) (D2 : dT) => if r1 = 0 then F_X0_restPeople_2 fu B x1 (v2 + (1 : Int32)) D2 else if inR v2 10 then if inR (1 : Int32) 4 then bd (F_X4_rest (B + 6 + v2.toNatClampNeg) (D2 (B + 1) (1 : Int32).toNatClampNeg) D2) (fun (r5 : Int32) (D6 : dT) => F_X0_restPeople_2 fu B x1 (v2 + (1 : Int32)) D6) else none else none)
def F_X0_restPeople (B : Nat) (x1 : Int32) (D : dT) : Option (Int32 × dT) := F_X0_restPeople_2 lim B x1 (0 : Int32) D
set_option maxRecDepth 20000 in
theorem e_X0_restPeople_2 (l : Launch) (E : eE) (d : Nat) (B : Nat) (hB : isF B) (x1 : Int32)  (fuel : Nat) : ∀ (v2 : Int32) (D : dT), ev l E (d + 2) yX0_restPeople cX0_restPeople 3 none 2 [(0, .inr (.inr B)), (1, .inl x1), (2, .inl v2)] [] D eU (F_X0_restPeople_2 fuel B x1 v2 D) := by
  induction fuel with
  | zero =>
    intro v2 D
    exact ev_none
  | succ fu ih =>
    intro v2 D
    rw [F_X0_restPeople_2]
    refine ev_s (fun Q k => rn_iload_n (j := 2) 2 rfl rfl dX0_restPeople_2 k) ?_
    refine ev_s (fun Q k => rn_aload_n (j := 0) 0 rfl rfl (okO_0 (oF hB)) dX0_restPeople_3 k) ?_
    refine ev_s (fun Q k => rn_geti f_X0_41 (oF hB).1 (oF hB).2.1 (okO_1 (oF hB)) rfl dX0_restPeople_4 k) ?_
    refine ev_if (fun Q => rn_icmp_ge (tgt := 39) dX0_restPeople_7 (by decide)) (fun c9 => ?_) (fun c10 => ?_)
    · exact ev_ret (fun Q q => rn_retv q rfl dX0_restPeople_39)
    · refine ev_s (fun Q k => rn_iload_n (j := 2) 2 rfl rfl dX0_restPeople_10 k) ?_
      refine ev_s (fun Q k => rn_iload_n (j := 1) 1 rfl rfl dX0_restPeople_11 k) ?_
      refine ev_bindI (as := [.inl v2, .inl x1]) (fun Q Q1 => rn_callSN (as := [.inl v2, .inl x1]) (rest := []) m_X0_101 dX0_restPeople_12 rfl rfl (Nat.le_of_ble_eq_true rfl)) pl_X5_isIn (Nat.le_of_ble_eq_true rfl) rfl (e_X5_isIn l E (d + 1) v2 x1 D) (fun r1 D2 => ?_)
      refine ev_if (fun Q => rn_if_eq (tgt := 33) dX0_restPeople_15 (by decide)) (fun c7 => ?_) (fun c8 => ?_)
      · refine ev_s (fun Q k => rn_iinc (v := (v2 + (1 : Int32))) (ls' := [(2, .inl (v2 + (1 : Int32))), (0, .inr (.inr B)), (1, .inl x1)]) 2 rfl rfl (by decide) rfl dX0_restPeople_33 k) ?_
        refine ev_s (fun Q k => rn_goto (tgt := 2) dX0_restPeople_36 (by decide) k) ?_
        refine ev_s (fun Q k => rn_sub (ls' := [(0, .inr (.inr B)), (1, .inl x1), (2, .inl (v2 + (1 : Int32)))]) [1, 2, 0] rfl k) ?_
        exact ih (v2 + (1 : Int32)) D2
      · refine ev_s (fun Q k => rn_aload_n (j := 0) 0 rfl rfl (okO_0 (oF hB)) dX0_restPeople_18 k) ?_
        refine ev_s (fun Q k => rn_getr (q := (B + 4)) f_X0_23 (oF hB).1 (oF hB).2.1 (okO_1 (oF hB)) rfl (rF3 hB) dX0_restPeople_19 k) ?_
        refine ev_s (fun Q k => rn_iload_n (j := 2) 2 rfl rfl dX0_restPeople_22 k) ?_
        refine ev_gd (fun g3 => ?_)
        refine ev_s (fun Q k => rn_aald (q := (B + 6 + v2.toNatClampNeg)) (oF4 hB).1 (oF4 hB).2.1 (by decide) (by decide) (oF4 hB).2.2 (inR_vp g3) (rP hB g3.2) dX0_restPeople_23 k) ?_
        refine ev_s (fun Q k => rn_aload_n (j := 0) 0 rfl rfl (okO_0 (oF hB)) dX0_restPeople_24 k) ?_
        refine ev_s (fun Q k => rn_getr (q := (B + 1)) f_X0_9 (oF hB).1 (oF hB).2.1 (okO_1 (oF hB)) rfl (rF0 hB) dX0_restPeople_25 k) ?_
        refine ev_s (fun Q k => rn_iconst (v := 1) (by decide) dX0_restPeople_28 k) ?_
        refine ev_gd (fun g4 => ?_)
        refine ev_s (fun Q k => rn_iald (oF1 hB).1 (oF1 hB).2.1 (oF1 hB).2.2 (inR_vp g4) dX0_restPeople_29 k) ?_
        refine ev_bindU (as := [.inr (.inr (B + 6 + v2.toNatClampNeg)), .inl (D2 (B + 1) (1 : Int32).toNatClampNeg)]) (fun Q Q1 => rn_callV (as := [.inl (D2 (B + 1) (1 : Int32).toNatClampNeg)]) (rest := []) (o := (B + 6 + v2.toNatClampNeg)) m_X0_210 dX0_restPeople_30 (rcv_own (oP hB g3.2).1 (oP hB g3.2).2.1 (by decide) (okO_1 (oP hB g3.2))) rfl rfl (Nat.le_of_ble_eq_true rfl)) pl_X4_rest (Nat.le_of_ble_eq_true rfl) rfl (e_X4_rest l E d (B + 6 + v2.toNatClampNeg) (oP hB g3.2) (D2 (B + 1) (1 : Int32).toNatClampNeg) D2) (fun r5 D6 => ?_)
        refine ev_s (fun Q k => rn_iinc (v := (v2 + (1 : Int32))) (ls' := [(2, .inl (v2 + (1 : Int32))), (0, .inr (.inr B)), (1, .inl x1)]) 2 rfl rfl (by decide) rfl dX0_restPeople_33 k) ?_
        refine ev_s (fun Q k => rn_goto (tgt := 2) dX0_restPeople_36 (by decide) k) ?_
        refine ev_s (fun Q k => rn_sub (ls' := [(0, .inr (.inr B)), (1, .inl x1), (2, .inl (v2 + (1 : Int32)))]) [1, 2, 0] rfl k) ?_
        exact ih (v2 + (1 : Int32)) D6

set_option maxRecDepth 20000 in
theorem e_X0_restPeople (l : Launch) (E : eE) (d : Nat) (B : Nat) (hB : isF B) (x1 : Int32) (D : dT) : ev l E (d + 2) yX0_restPeople cX0_restPeople 3 none 0 [(0, .inr (.inr B)), (1, .inl x1)] [] D eU (F_X0_restPeople B x1 D) := by
  unfold F_X0_restPeople
  refine ev_s (fun Q k => rn_iconst (v := 0) (by decide) dX0_restPeople_0 k) ?_
  refine ev_s (fun Q k => rn_istore_n (j := 2) (ls' := [(2, .inl (0 : Int32)), (0, .inr (.inr B)), (1, .inl x1)]) rfl (by decide) rfl dX0_restPeople_1 k) ?_
  refine ev_s (fun Q k => rn_sub (ls' := [(0, .inr (.inr B)), (1, .inl x1), (2, .inl (0 : Int32))]) [1, 2, 0] rfl k) ?_
  exact e_X0_restPeople_2 l E d B hB x1  lim (0 : Int32) D

def F_X4_carry (o : Nat) (x1 : Int32) (D : dT) : Option (Int32 × dT) := some ((0 : Int32), (up2 (up2 D o 1 (if (0 : Int32) < ((D o 1) - x1) then ((D o 1) - x1) else (0 : Int32))) o 3 (((up2 D o 1 (if (0 : Int32) < ((D o 1) - x1) then ((D o 1) - x1) else (0 : Int32))) o 3) + (1 : Int32))))
set_option maxRecDepth 20000 in
theorem e_X4_carry (l : Launch) (E : eE) (d : Nat) (o : Nat) (ho : okO o 4 0) (x1 : Int32) (D : dT) : ev l E (d + 1) yX4_carry cX4_carry 2 none 0 [(0, .inr (.inr o)), (1, .inl x1)] [] D eU (F_X4_carry o x1 D) := by
  unfold F_X4_carry
  refine ev_s (fun Q k => rn_aload_n (j := 0) 0 rfl rfl (okO_0 ho) dX4_carry_0 k) ?_
  refine ev_s (fun Q k => rn_iconst (v := 0) (by decide) dX4_carry_1 k) ?_
  refine ev_s (fun Q k => rn_aload_n (j := 0) 0 rfl rfl (okO_0 ho) dX4_carry_2 k) ?_
  refine ev_s (fun Q k => rn_geti f_X4_15 ho.1 ho.2.1 (okO_1 ho) rfl dX4_carry_3 k) ?_
  refine ev_s (fun Q k => rn_iload_n (j := 1) 1 rfl rfl dX4_carry_6 k) ?_
  refine ev_s (fun Q k => rn_isub dX4_carry_7 k) ?_
  refine ev_s (fun Q k => rn_mmax mth_X4_33 (Nat.le_of_ble_eq_true rfl) dX4_carry_8 k) ?_
  refine ev_s (fun Q k => rn_puti f_X4_15 ho.1 ho.2.1 (okO_1 ho) rfl rfl rfl rfl dX4_carry_11 k) ?_
  refine ev_s (fun Q k => rn_aload_n (j := 0) 0 rfl rfl (okO_0 ho) dX4_carry_14 k) ?_
  refine ev_s (fun Q k => rn_dup rfl dX4_carry_15 k) ?_
  refine ev_s (fun Q k => rn_geti f_X4_21 ho.1 ho.2.1 (okO_1 ho) rfl dX4_carry_16 k) ?_
  refine ev_s (fun Q k => rn_iconst (v := 1) (by decide) dX4_carry_19 k) ?_
  refine ev_s (fun Q k => rn_iadd dX4_carry_20 k) ?_
  refine ev_s (fun Q k => rn_puti f_X4_21 ho.1 ho.2.1 (okO_1 ho) rfl rfl rfl rfl dX4_carry_21 k) ?_
  exact ev_ret (fun Q q => rn_retv q rfl dX4_carry_24)

def F_X0_carryHour_52 (B : Nat) (x1 : Int32) (x2 : Int32) (k2 : Int32 → dT → Option (Int32 × dT)) (v3 : Int32) (s0 : Int32) (s1 : Int32) (o2s : Nat) (D : dT) : Option (Int32 × dT) := k2 (v3 + (1 : Int32)) (up2 D o2s 4 (s1 + s0))
def F_X0_carryHour_2 (fuel : Nat) (B : Nat) (x1 : Int32) (x2 : Int32)  (v3 : Int32) (D : dT) : Option (Int32 × dT) := match fuel with
  | 0 => none
  | fu + 1 => if (D B 5) ≤ v3 then some ((0 : Int32), D) else bd (F_X5_isIn v3 x1 D) (fun (r1 : Int32) (D2 : dT) => if r1 = 0 then F_X0_carryHour_2 fu B x1 x2 (v3 + (1 : Int32)) D2 else if inR v3 10 then if inR (2 : Int32) 4 then bd (F_X4_carry (B + 6 + v3.toNatClampNeg) (D2 (B + 1) (2 : Int32).toNatClampNeg) D2) (fun (r5 : Int32) (D6 : dT) => if inR v3 10 then if x2 = 0 then F_X0_carryHour_52 B x1 x2 (fun (v3_ : Int32) (D_ : dT) => F_X0_carryHour_2 fu B x1 x2 v3_ D_) v3 (0 : Int32) (D6 (B + 6 + v3.toNatClampNeg) 4) (B + 6 + v3.toNatClampNeg) D6 else F_X0_carryHour_52 B x1 x2 (fun (v3_ : Int32) (D_ : dT) => F_X0_carryHour_2 fu B x1 x2 v3_ D_) v3 (1 : Int32) (D6 (B + 6 + v3.toNatClampNeg) 4) (B + 6 + v3.toNatClampNeg) D6 else none) else none else none)
def F_X0_carryHour (B : Nat) (x1 : Int32) (x2 : Int32) (D : dT) : Option (Int32 × dT) := F_X0_carryHour_2 lim B x1 x2 (0 : Int32) D
set_option maxRecDepth 20000 in
theorem e_X0_carryHour_52 (l : Launch) (E : eE) (d : Nat) (B : Nat) (hB : isF B) (x1 : Int32) (x2 : Int32) (k2 : Int32 → dT → Option (Int32 × dT)) (hk2 : ∀ (v3 : Int32) (D : dT), ev l E (d + 2) yX0_carryHour cX0_carryHour 4 none 2 [(0, .inr (.inr B)), (1, .inl x1), (2, .inl x2), (3, .inl v3)] [] D eU (k2 v3 D)) (v3 : Int32) (s0 : Int32) (s1 : Int32) (o2s : Nat) (ho2s : okO o2s 4 0) (D : dT) : ev l E (d + 2) yX0_carryHour cX0_carryHour 4 none 52 [(0, .inr (.inr B)), (1, .inl x1), (2, .inl x2), (3, .inl v3)] [.inl s0, .inl s1, .inr (.inr o2s)] D eU (F_X0_carryHour_52 B x1 x2 k2 v3 s0 s1 o2s D) := by
  unfold F_X0_carryHour_52
  refine ev_s (fun Q k => rn_iadd dX0_carryHour_52 k) ?_
  refine ev_s (fun Q k => rn_puti f_X0_216 ho2s.1 ho2s.2.1 (okO_1 ho2s) rfl rfl rfl rfl dX0_carryHour_53 k) ?_
  refine ev_s (fun Q k => rn_iinc (v := (v3 + (1 : Int32))) (ls' := [(3, .inl (v3 + (1 : Int32))), (0, .inr (.inr B)), (1, .inl x1), (2, .inl x2)]) 3 rfl rfl (by decide) rfl dX0_carryHour_56 k) ?_
  refine ev_s (fun Q k => rn_goto (tgt := 2) dX0_carryHour_59 (by decide) k) ?_
  refine ev_s (fun Q k => rn_sub (ls' := [(0, .inr (.inr B)), (1, .inl x1), (2, .inl x2), (3, .inl (v3 + (1 : Int32)))]) [1, 2, 3, 0] rfl k) ?_
  exact hk2 (v3 + (1 : Int32)) (up2 D o2s 4 (s1 + s0))

set_option maxRecDepth 20000 in
theorem e_X0_carryHour_2 (l : Launch) (E : eE) (d : Nat) (B : Nat) (hB : isF B) (x1 : Int32) (x2 : Int32)  (fuel : Nat) : ∀ (v3 : Int32) (D : dT), ev l E (d + 2) yX0_carryHour cX0_carryHour 4 none 2 [(0, .inr (.inr B)), (1, .inl x1), (2, .inl x2), (3, .inl v3)] [] D eU (F_X0_carryHour_2 fuel B x1 x2 v3 D) := by
  induction fuel with
  | zero =>
    intro v3 D
    exact ev_none
  | succ fu ih =>
    intro v3 D
    rw [F_X0_carryHour_2]
    refine ev_s (fun Q k => rn_iload_n (j := 3) 3 rfl rfl dX0_carryHour_2 k) ?_
    refine ev_s (fun Q k => rn_aload_n (j := 0) 0 rfl rfl (okO_0 (oF hB)) dX0_carryHour_3 k) ?_
    refine ev_s (fun Q k => rn_geti f_X0_41 (oF hB).1 (oF hB).2.1 (okO_1 (oF hB)) rfl dX0_carryHour_4 k) ?_
    refine ev_if (fun Q => rn_icmp_ge (tgt := 62) dX0_carryHour_7 (by decide)) (fun c12 => ?_) (fun c13 => ?_)
    · exact ev_ret (fun Q q => rn_retv q rfl dX0_carryHour_62)
    · refine ev_s (fun Q k => rn_iload_n (j := 3) 3 rfl rfl dX0_carryHour_10 k) ?_
      refine ev_s (fun Q k => rn_iload_n (j := 1) 1 rfl rfl dX0_carryHour_11 k) ?_
      refine ev_bindI (as := [.inl v3, .inl x1]) (fun Q Q1 => rn_callSN (as := [.inl v3, .inl x1]) (rest := []) m_X0_101 dX0_carryHour_12 rfl rfl (Nat.le_of_ble_eq_true rfl)) pl_X5_isIn (Nat.le_of_ble_eq_true rfl) rfl (e_X5_isIn l E (d + 1) v3 x1 D) (fun r1 D2 => ?_)
      refine ev_if (fun Q => rn_if_eq (tgt := 56) dX0_carryHour_15 (by decide)) (fun c10 => ?_) (fun c11 => ?_)
      · refine ev_s (fun Q k => rn_iinc (v := (v3 + (1 : Int32))) (ls' := [(3, .inl (v3 + (1 : Int32))), (0, .inr (.inr B)), (1, .inl x1), (2, .inl x2)]) 3 rfl rfl (by decide) rfl dX0_carryHour_56 k) ?_
        refine ev_s (fun Q k => rn_goto (tgt := 2) dX0_carryHour_59 (by decide) k) ?_
        refine ev_s (fun Q k => rn_sub (ls' := [(0, .inr (.inr B)), (1, .inl x1), (2, .inl x2), (3, .inl (v3 + (1 : Int32)))]) [1, 2, 3, 0] rfl k) ?_
        exact ih (v3 + (1 : Int32)) D2
      · refine ev_s (fun Q k => rn_aload_n (j := 0) 0 rfl rfl (okO_0 (oF hB)) dX0_carryHour_18 k) ?_
        refine ev_s (fun Q k => rn_getr (q := (B + 4)) f_X0_23 (oF hB).1 (oF hB).2.1 (okO_1 (oF hB)) rfl (rF3 hB) dX0_carryHour_19 k) ?_
        refine ev_s (fun Q k => rn_iload_n (j := 3) 3 rfl rfl dX0_carryHour_22 k) ?_
        refine ev_gd (fun g3 => ?_)
        refine ev_s (fun Q k => rn_aald (q := (B + 6 + v3.toNatClampNeg)) (oF4 hB).1 (oF4 hB).2.1 (by decide) (by decide) (oF4 hB).2.2 (inR_vp g3) (rP hB g3.2) dX0_carryHour_23 k) ?_
        refine ev_s (fun Q k => rn_aload_n (j := 0) 0 rfl rfl (okO_0 (oF hB)) dX0_carryHour_24 k) ?_
        refine ev_s (fun Q k => rn_getr (q := (B + 1)) f_X0_9 (oF hB).1 (oF hB).2.1 (okO_1 (oF hB)) rfl (rF0 hB) dX0_carryHour_25 k) ?_
        refine ev_s (fun Q k => rn_iconst (v := 2) (by decide) dX0_carryHour_28 k) ?_
        refine ev_gd (fun g4 => ?_)
        refine ev_s (fun Q k => rn_iald (oF1 hB).1 (oF1 hB).2.1 (oF1 hB).2.2 (inR_vp g4) dX0_carryHour_29 k) ?_
        refine ev_bindU (as := [.inr (.inr (B + 6 + v3.toNatClampNeg)), .inl (D2 (B + 1) (2 : Int32).toNatClampNeg)]) (fun Q Q1 => rn_callV (as := [.inl (D2 (B + 1) (2 : Int32).toNatClampNeg)]) (rest := []) (o := (B + 6 + v3.toNatClampNeg)) m_X0_213 dX0_carryHour_30 (rcv_own (oP hB g3.2).1 (oP hB g3.2).2.1 (by decide) (okO_1 (oP hB g3.2))) rfl rfl (Nat.le_of_ble_eq_true rfl)) pl_X4_carry (Nat.le_of_ble_eq_true rfl) rfl (e_X4_carry l E d (B + 6 + v3.toNatClampNeg) (oP hB g3.2) (D2 (B + 1) (2 : Int32).toNatClampNeg) D2) (fun r5 D6 => ?_)
        refine ev_s (fun Q k => rn_aload_n (j := 0) 0 rfl rfl (okO_0 (oF hB)) dX0_carryHour_33 k) ?_
        refine ev_s (fun Q k => rn_getr (q := (B + 4)) f_X0_23 (oF hB).1 (oF hB).2.1 (okO_1 (oF hB)) rfl (rF3 hB) dX0_carryHour_34 k) ?_
        refine ev_s (fun Q k => rn_iload_n (j := 3) 3 rfl rfl dX0_carryHour_37 k) ?_
        refine ev_gd (fun g7 => ?_)
        refine ev_s (fun Q k => rn_aald (q := (B + 6 + v3.toNatClampNeg)) (oF4 hB).1 (oF4 hB).2.1 (by decide) (by decide) (oF4 hB).2.2 (inR_vp g7) (rP hB g7.2) dX0_carryHour_38 k) ?_
        refine ev_s (fun Q k => rn_dup rfl dX0_carryHour_39 k) ?_
        refine ev_s (fun Q k => rn_geti f_X0_216 (oP hB g7.2).1 (oP hB g7.2).2.1 (okO_1 (oP hB g7.2)) rfl dX0_carryHour_40 k) ?_
        refine ev_s (fun Q k => rn_iload_n (j := 2) 2 rfl rfl dX0_carryHour_43 k) ?_
        refine ev_if (fun Q => rn_if_eq (tgt := 51) dX0_carryHour_44 (by decide)) (fun c8 => ?_) (fun c9 => ?_)
        · refine ev_s (fun Q k => rn_iconst (v := 0) (by decide) dX0_carryHour_51 k) ?_
          exact e_X0_carryHour_52 l E d B hB x1 x2 (fun (v3_ : Int32) (D_ : dT) => F_X0_carryHour_2 fu B x1 x2 v3_ D_) (fun v3_ D_ => ih v3_ D_)  v3 (0 : Int32) (D6 (B + 6 + v3.toNatClampNeg) 4) (B + 6 + v3.toNatClampNeg) (oP hB g7.2) D6
        · refine ev_s (fun Q k => rn_iconst (v := 1) (by decide) dX0_carryHour_47 k) ?_
          refine ev_s (fun Q k => rn_goto (tgt := 52) dX0_carryHour_48 (by decide) k) ?_
          exact e_X0_carryHour_52 l E d B hB x1 x2 (fun (v3_ : Int32) (D_ : dT) => F_X0_carryHour_2 fu B x1 x2 v3_ D_) (fun v3_ D_ => ih v3_ D_)  v3 (1 : Int32) (D6 (B + 6 + v3.toNatClampNeg) 4) (B + 6 + v3.toNatClampNeg) (oP hB g7.2) D6

set_option maxRecDepth 20000 in
theorem e_X0_carryHour (l : Launch) (E : eE) (d : Nat) (B : Nat) (hB : isF B) (x1 : Int32) (x2 : Int32) (D : dT) : ev l E (d + 2) yX0_carryHour cX0_carryHour 4 none 0 [(0, .inr (.inr B)), (1, .inl x1), (2, .inl x2)] [] D eU (F_X0_carryHour B x1 x2 D) := by
  unfold F_X0_carryHour
  refine ev_s (fun Q k => rn_iconst (v := 0) (by decide) dX0_carryHour_0 k) ?_
  refine ev_s (fun Q k => rn_istore_n (j := 3) (ls' := [(3, .inl (0 : Int32)), (0, .inr (.inr B)), (1, .inl x1), (2, .inl x2)]) rfl (by decide) rfl dX0_carryHour_1 k) ?_
  refine ev_s (fun Q k => rn_sub (ls' := [(0, .inr (.inr B)), (1, .inl x1), (2, .inl x2), (3, .inl (0 : Int32))]) [1, 2, 3, 0] rfl k) ?_
  exact e_X0_carryHour_2 l E d B hB x1 x2  lim (0 : Int32) D

def F_X0_workOneHour_104 (B : Nat) (o1 : Nat)  (s0 : Int32) (D : dT) : Option (Int32 × dT) := bd (F_X0_carryHour B (D o1 7) s0 D) (fun (r1 : Int32) (D2 : dT) => if s0 = 0 then if s0 = 0 ∨ s0 = 1 then some (s0, D2) else none else bd (F_X0_endJob B o1 (2 : Int32) (up2 D2 o1 11 (D2 B 7))) (fun (r4 : Int32) (D5 : dT) => if s0 = 0 ∨ s0 = 1 then some (s0, D5) else none))
def F_X0_workOneHour (B : Nat) (o1 : Nat) (D : dT) : Option (Int32 × dT) := if (D o1 9) ≤ 0 then bd (F_X0_strengthOf B (D o1 7) D) (fun (r1 : Int32) (D2 : dT) => if (D2 o1 6) ≤ r1 then if 0 < ((up2 (up2 D2 o1 2 ((D2 o1 2) - (1 : Int32))) B 8 (((up2 D2 o1 2 ((D2 o1 2) - (1 : Int32))) B 8) + (1 : Int32))) o1 2) then F_X0_workOneHour_104 B o1 (0 : Int32) (up2 (up2 D2 o1 2 ((D2 o1 2) - (1 : Int32))) B 8 (((up2 D2 o1 2 ((D2 o1 2) - (1 : Int32))) B 8) + (1 : Int32))) else F_X0_workOneHour_104 B o1 (1 : Int32) (up2 (up2 D2 o1 2 ((D2 o1 2) - (1 : Int32))) B 8 (((up2 D2 o1 2 ((D2 o1 2) - (1 : Int32))) B 8) + (1 : Int32))) else bd (F_X0_restPeople B ((up2 (up2 D2 o1 10 ((D2 o1 10) + (1 : Int32))) B 9 (((up2 D2 o1 10 ((D2 o1 10) + (1 : Int32))) B 9) + (1 : Int32))) o1 7) (up2 (up2 D2 o1 10 ((D2 o1 10) + (1 : Int32))) B 9 (((up2 D2 o1 10 ((D2 o1 10) + (1 : Int32))) B 9) + (1 : Int32)))) (fun (r5 : Int32) (D6 : dT) => some ((0 : Int32), D6))) else bd (F_X0_restPeople B ((up2 D o1 9 ((D o1 9) - (1 : Int32))) o1 7) (up2 D o1 9 ((D o1 9) - (1 : Int32)))) (fun (r9 : Int32) (D10 : dT) => some ((0 : Int32), D10))
set_option maxRecDepth 20000 in
theorem e_X0_workOneHour_104 (l : Launch) (E : eE) (d : Nat) (B : Nat) (hB : isF B) (o1 : Nat) (ho1 : okO o1 2 0)  (s0 : Int32) (D : dT) : ev l E (d + 3) yX0_workOneHour cX0_workOneHour 3 (some .boolean) 104 [(0, .inr (.inr B)), (1, .inr (.inr o1))] [.inl s0] D eI (F_X0_workOneHour_104 B o1 s0 D) := by
  unfold F_X0_workOneHour_104
  refine ev_s (fun Q k => rn_istore_n (j := 2) (ls' := [(2, .inl s0), (0, .inr (.inr B)), (1, .inr (.inr o1))]) rfl (by decide) rfl dX0_workOneHour_104 k) ?_
  refine ev_s (fun Q k => rn_aload_n (j := 0) 1 rfl rfl (okO_0 (oF hB)) dX0_workOneHour_105 k) ?_
  refine ev_s (fun Q k => rn_aload_n (j := 1) 2 rfl rfl (okO_0 ho1) dX0_workOneHour_106 k) ?_
  refine ev_s (fun Q k => rn_geti f_X0_157 ho1.1 ho1.2.1 (okO_1 ho1) rfl dX0_workOneHour_107 k) ?_
  refine ev_s (fun Q k => rn_iload_n (j := 2) 0 rfl rfl dX0_workOneHour_110 k) ?_
  refine ev_bindU (as := [.inr (.inr B), .inl (D o1 7), .inl s0]) (fun Q Q1 => rn_callV (as := [.inl (D o1 7), .inl s0]) (rest := []) (o := B) m_X0_203 dX0_workOneHour_111 (rcv_own (oF hB).1 (oF hB).2.1 (by decide) (okO_1 (oF hB))) rfl rfl (Nat.le_of_ble_eq_true rfl)) pl_X0_carryHour (Nat.le_of_ble_eq_true rfl) rfl (e_X0_carryHour l E d B hB (D o1 7) s0 D) (fun r1 D2 => ?_)
  refine ev_s (fun Q k => rn_iload_n (j := 2) 0 rfl rfl dX0_workOneHour_114 k) ?_
  refine ev_if (fun Q => rn_if_eq (tgt := 132) dX0_workOneHour_115 (by decide)) (fun c7 => ?_) (fun c8 => ?_)
  · refine ev_s (fun Q k => rn_iload_n (j := 2) 0 rfl rfl dX0_workOneHour_132 k) ?_
    refine ev_gd (fun g3 => ?_)
    exact ev_ret (fun Q q => rn_ret q .boolean rfl (nz_b g3) dX0_workOneHour_133)
  · refine ev_s (fun Q k => rn_aload_n (j := 1) 2 rfl rfl (okO_0 ho1) dX0_workOneHour_118 k) ?_
    refine ev_s (fun Q k => rn_aload_n (j := 0) 1 rfl rfl (okO_0 (oF hB)) dX0_workOneHour_119 k) ?_
    refine ev_s (fun Q k => rn_geti f_X0_48 (oF hB).1 (oF hB).2.1 (okO_1 (oF hB)) rfl dX0_workOneHour_120 k) ?_
    refine ev_s (fun Q k => rn_puti f_X0_207 ho1.1 ho1.2.1 (okO_1 ho1) rfl rfl rfl rfl dX0_workOneHour_123 k) ?_
    refine ev_s (fun Q k => rn_aload_n (j := 0) 1 rfl rfl (okO_0 (oF hB)) dX0_workOneHour_126 k) ?_
    refine ev_s (fun Q k => rn_aload_n (j := 1) 2 rfl rfl (okO_0 ho1) dX0_workOneHour_127 k) ?_
    refine ev_s (fun Q k => rn_iconst (v := 2) (by decide) dX0_workOneHour_128 k) ?_
    refine ev_bindU (as := [.inr (.inr B), .inr (.inr o1), .inl (2 : Int32)]) (fun Q Q1 => rn_callV (as := [.inr (.inr o1), .inl (2 : Int32)]) (rest := []) (o := B) m_X0_186 dX0_workOneHour_129 (rcv_own (oF hB).1 (oF hB).2.1 (by decide) (okO_1 (oF hB))) rfl rfl (Nat.le_of_ble_eq_true rfl)) pl_X0_endJob (Nat.le_of_ble_eq_true rfl) rfl (e_X0_endJob l E d B hB o1 ho1 (2 : Int32) (up2 D2 o1 11 (D2 B 7))) (fun r4 D5 => ?_)
    refine ev_s (fun Q k => rn_iload_n (j := 2) 0 rfl rfl dX0_workOneHour_132 k) ?_
    refine ev_gd (fun g6 => ?_)
    exact ev_ret (fun Q q => rn_ret q .boolean rfl (nz_b g6) dX0_workOneHour_133)

set_option maxRecDepth 20000 in
theorem e_X0_workOneHour (l : Launch) (E : eE) (d : Nat) (B : Nat) (hB : isF B) (o1 : Nat) (ho1 : okO o1 2 0) (D : dT) : ev l E (d + 3) yX0_workOneHour cX0_workOneHour 3 (some .boolean) 0 [(0, .inr (.inr B)), (1, .inr (.inr o1))] [] D eI (F_X0_workOneHour B o1 D) := by
  unfold F_X0_workOneHour
  refine ev_s (fun Q k => rn_aload_n (j := 1) 1 rfl rfl (okO_0 ho1) dX0_workOneHour_0 k) ?_
  refine ev_s (fun Q k => rn_geti f_X0_183 ho1.1 ho1.2.1 (okO_1 ho1) rfl dX0_workOneHour_1 k) ?_
  refine ev_if (fun Q => rn_if_le (tgt := 27) dX0_workOneHour_4 (by decide)) (fun c11 => ?_) (fun c12 => ?_)
  · refine ev_s (fun Q k => rn_aload_n (j := 0) 0 rfl rfl (okO_0 (oF hB)) dX0_workOneHour_27 k) ?_
    refine ev_s (fun Q k => rn_aload_n (j := 1) 1 rfl rfl (okO_0 ho1) dX0_workOneHour_28 k) ?_
    refine ev_s (fun Q k => rn_geti f_X0_157 ho1.1 ho1.2.1 (okO_1 ho1) rfl dX0_workOneHour_29 k) ?_
    refine ev_bindI (as := [.inr (.inr B), .inl (D o1 7)]) (fun Q Q1 => rn_callV (as := [.inl (D o1 7)]) (rest := []) (o := B) m_X0_134 dX0_workOneHour_32 (rcv_own (oF hB).1 (oF hB).2.1 (by decide) (okO_1 (oF hB))) rfl rfl (Nat.le_of_ble_eq_true rfl)) pl_X0_strengthOf (Nat.le_of_ble_eq_true rfl) rfl (e_X0_strengthOf l E (d + 1) B hB (D o1 7) D) (fun r1 D2 => ?_)
    refine ev_s (fun Q k => rn_aload_n (j := 1) 1 rfl rfl (okO_0 ho1) dX0_workOneHour_35 k) ?_
    refine ev_s (fun Q k => rn_geti f_X0_154 ho1.1 ho1.2.1 (okO_1 ho1) rfl dX0_workOneHour_36 k) ?_
    refine ev_if (fun Q => rn_icmp_ge (tgt := 72) dX0_workOneHour_39 (by decide)) (fun c7 => ?_) (fun c8 => ?_)
    · refine ev_s (fun Q k => rn_aload_n (j := 1) 1 rfl rfl (okO_0 ho1) dX0_workOneHour_72 k) ?_
      refine ev_s (fun Q k => rn_dup rfl dX0_workOneHour_73 k) ?_
      refine ev_s (fun Q k => rn_geti f_X0_200 ho1.1 ho1.2.1 (okO_1 ho1) rfl dX0_workOneHour_74 k) ?_
      refine ev_s (fun Q k => rn_iconst (v := 1) (by decide) dX0_workOneHour_77 k) ?_
      refine ev_s (fun Q k => rn_isub dX0_workOneHour_78 k) ?_
      refine ev_s (fun Q k => rn_puti f_X0_200 ho1.1 ho1.2.1 (okO_1 ho1) rfl rfl rfl rfl dX0_workOneHour_79 k) ?_
      refine ev_s (fun Q k => rn_aload_n (j := 0) 0 rfl rfl (okO_0 (oF hB)) dX0_workOneHour_82 k) ?_
      refine ev_s (fun Q k => rn_dup rfl dX0_workOneHour_83 k) ?_
      refine ev_s (fun Q k => rn_geti f_X0_51 (oF hB).1 (oF hB).2.1 (okO_1 (oF hB)) rfl dX0_workOneHour_84 k) ?_
      refine ev_s (fun Q k => rn_iconst (v := 1) (by decide) dX0_workOneHour_87 k) ?_
      refine ev_s (fun Q k => rn_iadd dX0_workOneHour_88 k) ?_
      refine ev_s (fun Q k => rn_puti f_X0_51 (oF hB).1 (oF hB).2.1 (okO_1 (oF hB)) rfl rfl rfl rfl dX0_workOneHour_89 k) ?_
      refine ev_s (fun Q k => rn_aload_n (j := 1) 1 rfl rfl (okO_0 ho1) dX0_workOneHour_92 k) ?_
      refine ev_s (fun Q k => rn_geti f_X0_200 ho1.1 ho1.2.1 (okO_1 ho1) rfl dX0_workOneHour_93 k) ?_
      refine ev_if (fun Q => rn_if_gt (tgt := 103) dX0_workOneHour_96 (by decide)) (fun c3 => ?_) (fun c4 => ?_)
      · refine ev_s (fun Q k => rn_iconst (v := 0) (by decide) dX0_workOneHour_103 k) ?_
        exact e_X0_workOneHour_104 l E d B hB o1 ho1   (0 : Int32) (up2 (up2 D2 o1 2 ((D2 o1 2) - (1 : Int32))) B 8 (((up2 D2 o1 2 ((D2 o1 2) - (1 : Int32))) B 8) + (1 : Int32)))
      · refine ev_s (fun Q k => rn_iconst (v := 1) (by decide) dX0_workOneHour_99 k) ?_
        refine ev_s (fun Q k => rn_goto (tgt := 104) dX0_workOneHour_100 (by decide) k) ?_
        exact e_X0_workOneHour_104 l E d B hB o1 ho1   (1 : Int32) (up2 (up2 D2 o1 2 ((D2 o1 2) - (1 : Int32))) B 8 (((up2 D2 o1 2 ((D2 o1 2) - (1 : Int32))) B 8) + (1 : Int32)))
    · refine ev_s (fun Q k => rn_aload_n (j := 1) 1 rfl rfl (okO_0 ho1) dX0_workOneHour_42 k) ?_
      refine ev_s (fun Q k => rn_dup rfl dX0_workOneHour_43 k) ?_
      refine ev_s (fun Q k => rn_geti f_X0_199 ho1.1 ho1.2.1 (okO_1 ho1) rfl dX0_workOneHour_44 k) ?_
      refine ev_s (fun Q k => rn_iconst (v := 1) (by decide) dX0_workOneHour_47 k) ?_
      refine ev_s (fun Q k => rn_iadd dX0_workOneHour_48 k) ?_
      refine ev_s (fun Q k => rn_puti f_X0_199 ho1.1 ho1.2.1 (okO_1 ho1) rfl rfl rfl rfl dX0_workOneHour_49 k) ?_
      refine ev_s (fun Q k => rn_aload_n (j := 0) 0 rfl rfl (okO_0 (oF hB)) dX0_workOneHour_52 k) ?_
      refine ev_s (fun Q k => rn_dup rfl dX0_workOneHour_53 k) ?_
      refine ev_s (fun Q k => rn_geti f_X0_54 (oF hB).1 (oF hB).2.1 (okO_1 (oF hB)) rfl dX0_workOneHour_54 k) ?_
      refine ev_s (fun Q k => rn_iconst (v := 1) (by decide) dX0_workOneHour_57 k) ?_
      refine ev_s (fun Q k => rn_iadd dX0_workOneHour_58 k) ?_
      refine ev_s (fun Q k => rn_puti f_X0_54 (oF hB).1 (oF hB).2.1 (okO_1 (oF hB)) rfl rfl rfl rfl dX0_workOneHour_59 k) ?_
      refine ev_s (fun Q k => rn_aload_n (j := 0) 0 rfl rfl (okO_0 (oF hB)) dX0_workOneHour_62 k) ?_
      refine ev_s (fun Q k => rn_aload_n (j := 1) 1 rfl rfl (okO_0 ho1) dX0_workOneHour_63 k) ?_
      refine ev_s (fun Q k => rn_geti f_X0_157 ho1.1 ho1.2.1 (okO_1 ho1) rfl dX0_workOneHour_64 k) ?_
      refine ev_bindU (as := [.inr (.inr B), .inl ((up2 (up2 D2 o1 10 ((D2 o1 10) + (1 : Int32))) B 9 (((up2 D2 o1 10 ((D2 o1 10) + (1 : Int32))) B 9) + (1 : Int32))) o1 7)]) (fun Q Q1 => rn_callV (as := [.inl ((up2 (up2 D2 o1 10 ((D2 o1 10) + (1 : Int32))) B 9 (((up2 D2 o1 10 ((D2 o1 10) + (1 : Int32))) B 9) + (1 : Int32))) o1 7)]) (rest := []) (o := B) m_X0_196 dX0_workOneHour_67 (rcv_own (oF hB).1 (oF hB).2.1 (by decide) (okO_1 (oF hB))) rfl rfl (Nat.le_of_ble_eq_true rfl)) pl_X0_restPeople (Nat.le_of_ble_eq_true rfl) rfl (e_X0_restPeople l E d B hB ((up2 (up2 D2 o1 10 ((D2 o1 10) + (1 : Int32))) B 9 (((up2 D2 o1 10 ((D2 o1 10) + (1 : Int32))) B 9) + (1 : Int32))) o1 7) (up2 (up2 D2 o1 10 ((D2 o1 10) + (1 : Int32))) B 9 (((up2 D2 o1 10 ((D2 o1 10) + (1 : Int32))) B 9) + (1 : Int32)))) (fun r5 D6 => ?_)
      refine ev_s (fun Q k => rn_iconst (v := 0) (by decide) dX0_workOneHour_70 k) ?_
      exact ev_ret (fun Q q => rn_ret q .boolean rfl rfl dX0_workOneHour_71)
  · refine ev_s (fun Q k => rn_aload_n (j := 1) 1 rfl rfl (okO_0 ho1) dX0_workOneHour_7 k) ?_
    refine ev_s (fun Q k => rn_dup rfl dX0_workOneHour_8 k) ?_
    refine ev_s (fun Q k => rn_geti f_X0_183 ho1.1 ho1.2.1 (okO_1 ho1) rfl dX0_workOneHour_9 k) ?_
    refine ev_s (fun Q k => rn_iconst (v := 1) (by decide) dX0_workOneHour_12 k) ?_
    refine ev_s (fun Q k => rn_isub dX0_workOneHour_13 k) ?_
    refine ev_s (fun Q k => rn_puti f_X0_183 ho1.1 ho1.2.1 (okO_1 ho1) rfl rfl rfl rfl dX0_workOneHour_14 k) ?_
    refine ev_s (fun Q k => rn_aload_n (j := 0) 0 rfl rfl (okO_0 (oF hB)) dX0_workOneHour_17 k) ?_
    refine ev_s (fun Q k => rn_aload_n (j := 1) 1 rfl rfl (okO_0 ho1) dX0_workOneHour_18 k) ?_
    refine ev_s (fun Q k => rn_geti f_X0_157 ho1.1 ho1.2.1 (okO_1 ho1) rfl dX0_workOneHour_19 k) ?_
    refine ev_bindU (as := [.inr (.inr B), .inl ((up2 D o1 9 ((D o1 9) - (1 : Int32))) o1 7)]) (fun Q Q1 => rn_callV (as := [.inl ((up2 D o1 9 ((D o1 9) - (1 : Int32))) o1 7)]) (rest := []) (o := B) m_X0_196 dX0_workOneHour_22 (rcv_own (oF hB).1 (oF hB).2.1 (by decide) (okO_1 (oF hB))) rfl rfl (Nat.le_of_ble_eq_true rfl)) pl_X0_restPeople (Nat.le_of_ble_eq_true rfl) rfl (e_X0_restPeople l E d B hB ((up2 D o1 9 ((D o1 9) - (1 : Int32))) o1 7) (up2 D o1 9 ((D o1 9) - (1 : Int32)))) (fun r9 D10 => ?_)
    refine ev_s (fun Q k => rn_iconst (v := 0) (by decide) dX0_workOneHour_25 k) ?_
    exact ev_ret (fun Q q => rn_ret q .boolean rfl rfl dX0_workOneHour_26)

