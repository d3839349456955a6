def F_J3_checkIndex_8e157_9 (x1 : Int32) (x2 : Int32)   (D : dT) : Option (Int32 × dT) := none
def F_J3_checkIndex_8e157 (x1 : Int32) (x2 : Int32) (D : dT) : Option (Int32 × dT) := if x1 < 0 then F_J3_checkIndex_8e157_9 x1 x2 D else if x1 < x2 then some (x1, D) else F_J3_checkIndex_8e157_9 x1 x2 D
set_option maxRecDepth 20000 in
theorem e_J3_checkIndex_8e157_9 (l : Launch) (E : eE) (d : Nat) (x1 : Int32) (x2 : Int32) (u3 : Nat)   (D : dT) : ev l E d yJ3_checkIndex_8e157 cJ3_checkIndex_8e157 3 (some .int) 9 [(0, .inl x1), (1, .inl x2), (2, .inr (.inr u3))] [] D eI (F_J3_checkIndex_8e157_9 x1 x2 D) := by
  unfold F_J3_checkIndex_8e157_9
  exact ev_none

set_option maxRecDepth 20000 in
theorem e_J3_checkIndex_8e157 (l : Launch) (E : eE) (d : Nat) (x1 : Int32) (x2 : Int32) (u3 : Nat) (D : dT) : ev l E d yJ3_checkIndex_8e157 cJ3_checkIndex_8e157 3 (some .int) 0 [(0, .inl x1), (1, .inl x2), (2, .inr (.inr u3))] [] D eI (F_J3_checkIndex_8e157 x1 x2 D) := by
  unfold F_J3_checkIndex_8e157
  refine ev_s (fun Q k => rn_iload_n (j := 0) 0 rfl rfl dJ3_checkIndex_8e157_0 k) ?_
  refine ev_if (fun Q => rn_if_lt (tgt := 9) dJ3_checkIndex_8e157_1 (by decide)) (fun c3 => ?_) (fun c4 => ?_)
  · exact e_J3_checkIndex_8e157_9 l E d x1 x2 u3   D
  · refine ev_s (fun Q k => rn_iload_n (j := 0) 0 rfl rfl dJ3_checkIndex_8e157_4 k) ?_
    refine ev_s (fun Q k => rn_iload_n (j := 1) 1 rfl rfl dJ3_checkIndex_8e157_5 k) ?_
    refine ev_if (fun Q => rn_icmp_lt (tgt := 16) dJ3_checkIndex_8e157_6 (by decide)) (fun c1 => ?_) (fun c2 => ?_)
    · refine ev_s (fun Q k => rn_iload_n (j := 0) 0 rfl rfl dJ3_checkIndex_8e157_16 k) ?_
      exact ev_ret (fun Q q => rn_ret q .int rfl rfl dJ3_checkIndex_8e157_17)
    · exact e_J3_checkIndex_8e157_9 l E d x1 x2 u3   D

def F_J0_checkIndex_df160 (x1 : Int32) (x2 : Int32) (D : dT) : Option (Int32 × dT) := bd (F_J3_checkIndex_8e157 x1 x2 D) (fun (r1 : Int32) (D2 : dT) => some ((0 : Int32), D2))
set_option maxRecDepth 20000 in
theorem e_J0_checkIndex_df160 (l : Launch) (E : eE) (d : Nat) (x1 : Int32) (x2 : Int32) (D : dT) : ev l E (d + 1) yJ0_checkIndex_df160 cJ0_checkIndex_df160 2 none 0 [(0, .inl x1), (1, .inl x2)] [] D eU (F_J0_checkIndex_df160 x1 x2 D) := by
  unfold F_J0_checkIndex_df160
  refine ev_s (fun Q k => rn_iload_n (j := 0) 0 rfl rfl dJ0_checkIndex_df160_0 k) ?_
  refine ev_s (fun Q k => rn_iload_n (j := 1) 1 rfl rfl dJ0_checkIndex_df160_1 k) ?_
  refine ev_all (fun Q k => rn_getsF g_J0_1053 dJ0_checkIndex_df160_2 k) (fun uu => ?_)
  refine ev_bindI (as := [.inl x1, .inl x2, .inr (.inr uu)]) (fun Q Q1 => rn_callS (as := [.inl x1, .inl x2, .inr (.inr uu)]) (rest := []) m_J0_1059 dJ0_checkIndex_df160_5 rfl rfl (Nat.le_of_ble_eq_true rfl)) pl_J3_checkIndex_8e157 (Nat.le_of_ble_eq_true rfl) rfl (e_J3_checkIndex_8e157 l E d x1 x2 uu D) (fun r1 D2 => ?_)
  refine ev_s (fun Q k => rn_pop rfl dJ0_checkIndex_df160_8 k) ?_
  exact ev_ret (fun Q q => rn_retv q rfl dJ0_checkIndex_df160_9)

def F_J1_charAt_3b067 (b1 : Nat) (x2 : Int32) (D : dT) : Option (Int32 × dT) := bd (F_J0_checkIndex_df160 x2 (Int32.ofNat (tLen.getD (b1 - 4) 0)) D) (fun (r1 : Int32) (D2 : dT) => if inR x2 (tLen.getD (b1 - 4) 0) then if ((((((tByt.getD (b1 + 6 - 10) []).getD x2.toNatClampNeg 0) &&& (255 : Int32)).toUInt32 % 65536).toInt32).toUInt32 % 65536).toInt32 = (((((tByt.getD (b1 + 6 - 10) []).getD x2.toNatClampNeg 0) &&& (255 : Int32)).toUInt32 % 65536).toInt32) then some ((((((tByt.getD (b1 + 6 - 10) []).getD x2.toNatClampNeg 0) &&& (255 : Int32)).toUInt32 % 65536).toInt32), D2) else none else none)
set_option maxRecDepth 20000 in
theorem e_J1_charAt_3b067 (l : Launch) (E : eE) (d : Nat) (b1 : Nat) (hb1 : 4 ≤ b1 ∧ b1 < 10) (x2 : Int32) (D : dT) : ev l E (d + 2) yJ1_charAt_3b067 cJ1_charAt_3b067 2 (some .char) 0 [(0, .inr (.inr (b1 + 6))), (1, .inl x2)] [] D eI (F_J1_charAt_3b067 b1 x2 D) := by
  unfold F_J1_charAt_3b067
  refine ev_s (fun Q k => rn_iload_n (j := 1) 1 rfl rfl dJ1_charAt_3b067_0 k) ?_
  refine ev_s (fun Q k => rn_aload_n (j := 0) 0 rfl rfl (Nat.succ_ne_zero _) dJ1_charAt_3b067_1 k) ?_
  refine ev_s (fun Q k => rn_sblen (v := (Int32.ofNat (tLen.getD (b1 - 4) 0))) (sb_1 hb1) (sb_2 hb1) (sb_4 _) dJ1_charAt_3b067_2 k) ?_
  refine ev_bindU (as := [.inl x2, .inl (Int32.ofNat (tLen.getD (b1 - 4) 0))]) (fun Q Q1 => rn_callS (as := [.inl x2, .inl (Int32.ofNat (tLen.getD (b1 - 4) 0))]) (rest := []) m_J1_9 dJ1_charAt_3b067_3 rfl rfl (Nat.le_of_ble_eq_true rfl)) pl_J0_checkIndex_df160 (Nat.le_of_ble_eq_true rfl) rfl (e_J0_checkIndex_df160 l E d x2 (Int32.ofNat (tLen.getD (b1 - 4) 0)) D) (fun r1 D2 => ?_)
  refine ev_s (fun Q k => rn_aload_n (j := 0) 0 rfl rfl (Nat.succ_ne_zero _) dJ1_charAt_3b067_6 k) ?_
  refine ev_s (fun Q k => rn_iload_n (j := 1) 1 rfl rfl dJ1_charAt_3b067_7 k) ?_
  refine ev_gd (fun g3 => ?_)
  refine ev_s (fun Q k => rn_sbald (sb_1 hb1) (sb_2 hb1) (inR_vp (sb_3 g3)) dJ1_charAt_3b067_8 k) ?_
  refine ev_s (fun Q k => rn_sipush (v := 255) (by decide) dJ1_charAt_3b067_9 k) ?_
  refine ev_s (fun Q k => rn_iand dJ1_charAt_3b067_12 k) ?_
  refine ev_s (fun Q k => rn_i2c (v := ((((tByt.getD (b1 + 6 - 10) []).getD x2.toNatClampNeg 0) &&& (255 : Int32)).toUInt32 % 65536).toInt32) rfl dJ1_charAt_3b067_13 k) ?_
  refine ev_gd (fun g4 => ?_)
  exact ev_ret (fun Q q => rn_ret q .char rfl (nz_c g4) dJ1_charAt_3b067_14)

def F_J0_charAt_5068e (kS : Nat) (x1 : Int32) (D : dT) : Option (Int32 × dT) := bd (F_J0_isLatin1_aae02 kS D) (fun (r1 : Int32) (D2 : dT) => if r1 = 0 then none else bd (F_J1_charAt_3b067 kS x1 D2) (fun (r3 : Int32) (D4 : dT) => if (r3.toUInt32 % 65536).toInt32 = r3 then some (r3, D4) else none))
set_option maxRecDepth 20000 in
theorem e_J0_charAt_5068e (l : Launch) (E : eE) (d : Nat) (kS : Nat) (hkS : 4 ≤ kS ∧ kS < 10) (x1 : Int32) (D : dT) : ev l E (d + 3) yJ0_charAt_5068e cJ0_charAt_5068e 2 (some .char) 0 [(0, .inr (.inr kS)), (1, .inl x1)] [] D eI (F_J0_charAt_5068e kS x1 D) := by
  unfold F_J0_charAt_5068e
  refine ev_s (fun Q k => rn_aload_n (j := 0) 0 rfl rfl (str_0 hkS.1) dJ0_charAt_5068e_0 k) ?_
  refine ev_bindI (as := [.inr (.inr kS)]) (fun Q Q1 => rn_callV (as := []) (rest := []) (o := kS) m_J0_492 dJ0_charAt_5068e_1 (rcv_str hkS.1 hkS.2) rfl rfl (Nat.le_of_ble_eq_true rfl)) pl_J0_isLatin1_aae02 (Nat.le_of_ble_eq_true rfl) rfl (e_J0_isLatin1_aae02 l E (d + 2) kS hkS D) (fun r1 D2 => ?_)
  refine ev_if (fun Q => rn_if_eq (tgt := 16) dJ0_charAt_5068e_4 (by decide)) (fun c6 => ?_) (fun c7 => ?_)
  · refine ev_s (fun Q k => rn_aload_n (j := 0) 0 rfl rfl (str_0 hkS.1) dJ0_charAt_5068e_16 k) ?_
    refine ev_s (fun Q k => rn_strV hkS.1 hkS.2 g_J0_9 dJ0_charAt_5068e_17 k) ?_
    refine ev_s (fun Q k => rn_iload_n (j := 1) 1 rfl rfl dJ0_charAt_5068e_20 k) ?_
    exact ev_none
  · refine ev_s (fun Q k => rn_aload_n (j := 0) 0 rfl rfl (str_0 hkS.1) dJ0_charAt_5068e_7 k) ?_
    refine ev_s (fun Q k => rn_strV hkS.1 hkS.2 g_J0_9 dJ0_charAt_5068e_8 k) ?_
    refine ev_s (fun Q k => rn_iload_n (j := 1) 1 rfl rfl dJ0_charAt_5068e_11 k) ?_
    refine ev_bindI (as := [.inr (.inr (kS + 6)), .inl x1]) (fun Q Q1 => rn_callS (as := [.inr (.inr (kS + 6)), .inl x1]) (rest := []) m_J0_495 dJ0_charAt_5068e_12 rfl rfl (Nat.le_of_ble_eq_true rfl)) pl_J1_charAt_3b067 (Nat.le_of_ble_eq_true rfl) rfl (e_J1_charAt_3b067 l E d kS hkS x1 D2) (fun r3 D4 => ?_)
    refine ev_gd (fun g5 => ?_)
    exact ev_ret (fun Q q => rn_ret q .char rfl (nz_c g5) dJ0_charAt_5068e_15)

def F_X3_isDigitHere  (D : dT) : Option (Int32 × dT) := bd (F_X3_signHere  D) (fun (r1 : Int32) (D2 : dT) => bd (F_X5_isWithin r1 (48 : Int32) (57 : Int32) D2) (fun (r3 : Int32) (D4 : dT) => if r3 = 0 ∨ r3 = 1 then some (r3, D4) else none))
set_option maxRecDepth 20000 in
theorem e_X3_isDigitHere (l : Launch) (E : eE) (d : Nat)  (D : dT) : ev l E (d + 1) yX3_isDigitHere cX3_isDigitHere 1 (some .boolean) 0 [(0, .inr (.inr 311))] [] D eI (F_X3_isDigitHere D) := by
  unfold F_X3_isDigitHere
  refine ev_s (fun Q k => rn_aload_n (j := 0) 0 rfl rfl (okO_0 ok_311) dX3_isDigitHere_0 k) ?_
  refine ev_bindI (as := [.inr (.inr 311)]) (fun Q Q1 => rn_callV (as := []) (rest := []) (o := 311) m_X3_57 dX3_isDigitHere_1 (rcv_own ok_311.1 ok_311.2.1 (by decide) (okO_1 ok_311)) rfl rfl (Nat.le_of_ble_eq_true rfl)) pl_X3_signHere (Nat.le_of_ble_eq_true rfl) rfl (e_X3_signHere l E d  D) (fun r1 D2 => ?_)
  refine ev_s (fun Q k => rn_bipush (v := 48) (by decide) dX3_isDigitHere_4 k) ?_
  refine ev_s (fun Q k => rn_bipush (v := 57) (by decide) dX3_isDigitHere_6 k) ?_
  refine ev_bindI (as := [.inl r1, .inl (48 : Int32), .inl (57 : Int32)]) (fun Q Q1 => rn_callSN (as := [.inl r1, .inl (48 : Int32), .inl (57 : Int32)]) (rest := []) m_X3_30 dX3_isDigitHere_8 rfl rfl (Nat.le_of_ble_eq_true rfl)) pl_X5_isWithin (Nat.le_of_ble_eq_true rfl) rfl (e_X5_isWithin l E d r1 (48 : Int32) (57 : Int32) D2) (fun r3 D4 => ?_)
  refine ev_gd (fun g5 => ?_)
  exact ev_ret (fun Q q => rn_ret q .boolean rfl (nz_b g5) dX3_isDigitHere_11)

def F_X3_takeDigit  (D : dT) : Option (Int32 × dT) := bd (F_X3_signHere  D) (fun (r1 : Int32) (D2 : dT) => some ((r1 - (48 : Int32)), (up2 D2 311 3 ((D2 311 3) + (1 : Int32)))))
set_option maxRecDepth 20000 in
theorem e_X3_takeDigit (l : Launch) (E : eE) (d : Nat)  (D : dT) : ev l E (d + 1) yX3_takeDigit cX3_takeDigit 2 (some .int) 0 [(0, .inr (.inr 311))] [] D eI (F_X3_takeDigit D) := by
  unfold F_X3_takeDigit
  refine ev_s (fun Q k => rn_aload_n (j := 0) 0 rfl rfl (okO_0 ok_311) dX3_takeDigit_0 k) ?_
  refine ev_bindI (as := [.inr (.inr 311)]) (fun Q Q1 => rn_callV (as := []) (rest := []) (o := 311) m_X3_57 dX3_takeDigit_1 (rcv_own ok_311.1 ok_311.2.1 (by decide) (okO_1 ok_311)) rfl rfl (Nat.le_of_ble_eq_true rfl)) pl_X3_signHere (Nat.le_of_ble_eq_true rfl) rfl (e_X3_signHere l E d  D) (fun r1 D2 => ?_)
  refine ev_s (fun Q k => rn_bipush (v := 48) (by decide) dX3_takeDigit_4 k) ?_
  refine ev_s (fun Q k => rn_isub dX3_takeDigit_6 k) ?_
  refine ev_s (fun Q k => rn_istore_n (j := 1) (ls' := [(1, .inl (r1 - (48 : Int32))), (0, .inr (.inr 311))]) rfl (by decide) rfl dX3_takeDigit_7 k) ?_
  refine ev_s (fun Q k => rn_aload_n (j := 0) 1 rfl rfl (okO_0 ok_311) dX3_takeDigit_8 k) ?_
  refine ev_s (fun Q k => rn_dup rfl dX3_takeDigit_9 k) ?_
  refine ev_s (fun Q k => rn_geti f_X3_34 ok_311.1 ok_311.2.1 (okO_1 ok_311) rfl dX3_takeDigit_10 k) ?_
  refine ev_s (fun Q k => rn_iconst (v := 1) (by decide) dX3_takeDigit_13 k) ?_
  refine ev_s (fun Q k => rn_iadd dX3_takeDigit_14 k) ?_
  refine ev_s (fun Q k => rn_puti f_X3_34 ok_311.1 ok_311.2.1 (okO_1 ok_311) rfl rfl rfl rfl dX3_takeDigit_15 k) ?_
  refine ev_s (fun Q k => rn_iload_n (j := 1) 0 rfl rfl dX3_takeDigit_18 k) ?_
  exact ev_ret (fun Q q => rn_ret q .int rfl rfl dX3_takeDigit_19)

def F_X3_readNumber_48 (x1 : Int32)  (v2 : Int32) (D : dT) : Option (Int32 × dT) := if (5 : Int32) ≤ (D 311 2) then some ((1 : Int32), D) else if inR (D 311 2) 5 then some ((1 : Int32), (up2 (up2 D 313 (D 311 2).toNatClampNeg v2) 311 2 (((up2 D 313 (D 311 2).toNatClampNeg v2) 311 2) + (1 : Int32)))) else none
def F_X3_readNumber_16 (fuel : Nat) (x1 : Int32)  (v2 : Int32) (v3 : Int32) (D : dT) : Option (Int32 × dT) := match fuel with
  | 0 => none
  | fu + 1 => if x1 ≤ v3 then F_X3_readNumber_48 x1 v2 D else if v2 ≤ 0 then F_X3_readNumber_48 x1 v2 D else bd (F_X3_isDigitHere  D) (fun (r1 : Int32) (D2 : dT) => if r1 = 0 then F_X3_readNumber_48 x1 v2 D2 else bd (F_X3_takeDigit  D2) (fun (r3 : Int32) (D4 : dT) => F_X3_readNumber_16 fu x1 (((10 : Int32) * v2) + r3) (v3 + (1 : Int32)) D4))
def F_X3_readNumber (x1 : Int32) (D : dT) : Option (Int32 × dT) := bd (F_X3_isDigitHere  D) (fun (r1 : Int32) (D2 : dT) => if r1 = 0 then some ((0 : Int32), D2) else bd (F_X3_takeDigit  D2) (fun (r3 : Int32) (D4 : dT) => F_X3_readNumber_16 lim x1 r3 (1 : Int32) D4))
set_option maxRecDepth 20000 in
theorem e_X3_readNumber_48 (l : Launch) (E : eE) (d : Nat) (x1 : Int32)  (v2 : Int32) (D : dT) : ev l E (d + 2) yX3_readNumber cX3_readNumber 4 (some .boolean) 48 [(0, .inr (.inr 311)), (2, .inl v2)] [] D eI (F_X3_readNumber_48 x1 v2 D) := by
  unfold F_X3_readNumber_48
  refine ev_s (fun Q k => rn_aload_n (j := 0) 0 rfl rfl (okO_0 ok_311) dX3_readNumber_48 k) ?_
  refine ev_s (fun Q k => rn_geti f_X3_37 ok_311.1 ok_311.2.1 (okO_1 ok_311) rfl dX3_readNumber_49 k) ?_
  refine ev_s (fun Q k => rn_iconst (v := 5) (by decide) dX3_readNumber_52 k) ?_
  refine ev_if (fun Q => rn_icmp_ge (tgt := 76) dX3_readNumber_53 (by decide)) (fun c2 => ?_) (fun c3 => ?_)
  · refine ev_s (fun Q k => rn_iconst (v := 1) (by decide) dX3_readNumber_76 k) ?_
    exact ev_ret (fun Q q => rn_ret q .boolean rfl rfl dX3_readNumber_77)
  · refine ev_s (fun Q k => rn_aload_n (j := 0) 0 rfl rfl (okO_0 ok_311) dX3_readNumber_56 k) ?_
    refine ev_s (fun Q k => rn_getr (q := 313) f_X3_15 ok_311.1 ok_311.2.1 (okO_1 ok_311) rfl rfl dX3_readNumber_57 k) ?_
    refine ev_s (fun Q k => rn_aload_n (j := 0) 0 rfl rfl (okO_0 ok_311) dX3_readNumber_60 k) ?_
    refine ev_s (fun Q k => rn_geti f_X3_37 ok_311.1 ok_311.2.1 (okO_1 ok_311) rfl dX3_readNumber_61 k) ?_
    refine ev_s (fun Q k => rn_iload_n (j := 2) 1 rfl rfl dX3_readNumber_64 k) ?_
    refine ev_gd (fun g1 => ?_)
    refine ev_s (fun Q k => rn_iast ok_313.1 ok_313.2.1 ok_313.2.2 (inR_vp g1) dX3_readNumber_65 k) ?_
    refine ev_s (fun Q k => rn_aload_n (j := 0) 0 rfl rfl (okO_0 ok_311) dX3_readNumber_66 k) ?_
    refine ev_s (fun Q k => rn_dup rfl dX3_readNumber_67 k) ?_
    refine ev_s (fun Q k => rn_geti f_X3_37 ok_311.1 ok_311.2.1 (okO_1 ok_311) rfl dX3_readNumber_68 k) ?_
    refine ev_s (fun Q k => rn_iconst (v := 1) (by decide) dX3_readNumber_71 k) ?_
    refine ev_s (fun Q k => rn_iadd dX3_readNumber_72 k) ?_
    refine ev_s (fun Q k => rn_puti f_X3_37 ok_311.1 ok_311.2.1 (okO_1 ok_311) rfl rfl rfl rfl dX3_readNumber_73 k) ?_
    refine ev_s (fun Q k => rn_iconst (v := 1) (by decide) dX3_readNumber_76 k) ?_
    exact ev_ret (fun Q q => rn_ret q .boolean rfl rfl dX3_readNumber_77)

set_option maxRecDepth 20000 in
theorem e_X3_readNumber_16 (l : Launch) (E : eE) (d : Nat) (x1 : Int32)  (fuel : Nat) : ∀ (v2 : Int32) (v3 : Int32) (D : dT), ev l E (d + 2) yX3_readNumber cX3_readNumber 4 (some .boolean) 16 [(0, .inr (.inr 311)), (1, .inl x1), (2, .inl v2), (3, .inl v3)] [] D eI (F_X3_readNumber_16 fuel x1 v2 v3 D) := by
  induction fuel with
  | zero =>
    intro v2 v3 D
    exact ev_none
  | succ fu ih =>
    intro v2 v3 D
    rw [F_X3_readNumber_16]
    refine ev_s (fun Q k => rn_iload_n (j := 3) 3 rfl rfl dX3_readNumber_16 k) ?_
    refine ev_s (fun Q k => rn_iload_n (j := 1) 1 rfl rfl dX3_readNumber_17 k) ?_
    refine ev_if (fun Q => rn_icmp_ge (tgt := 48) dX3_readNumber_18 (by decide)) (fun c9 => ?_) (fun c10 => ?_)
    · refine ev_s (fun Q k => rn_sub (ls' := [(0, .inr (.inr 311)), (2, .inl v2)]) [0, 2] rfl k) ?_
      exact e_X3_readNumber_48 l E d x1   v2 D
    · refine ev_s (fun Q k => rn_iload_n (j := 2) 2 rfl rfl dX3_readNumber_21 k) ?_
      refine ev_if (fun Q => rn_if_le (tgt := 48) dX3_readNumber_22 (by decide)) (fun c7 => ?_) (fun c8 => ?_)
      · refine ev_s (fun Q k => rn_sub (ls' := [(0, .inr (.inr 311)), (2, .inl v2)]) [0, 2] rfl k) ?_
        exact e_X3_readNumber_48 l E d x1   v2 D
      · refine ev_s (fun Q k => rn_aload_n (j := 0) 0 rfl rfl (okO_0 ok_311) dX3_readNumber_25 k) ?_
        refine ev_bindI (as := [.inr (.inr 311)]) (fun Q Q1 => rn_callV (as := []) (rest := []) (o := 311) m_X3_102 dX3_readNumber_26 (rcv_own ok_311.1 ok_311.2.1 (by decide) (okO_1 ok_311)) rfl rfl (Nat.le_of_ble_eq_true rfl)) pl_X3_isDigitHere (Nat.le_of_ble_eq_true rfl) rfl (e_X3_isDigitHere l E d  D) (fun r1 D2 => ?_)
        refine ev_if (fun Q => rn_if_eq (tgt := 48) dX3_readNumber_29 (by decide)) (fun c5 => ?_) (fun c6 => ?_)
        · refine ev_s (fun Q k => rn_sub (ls' := [(0, .inr (.inr 311)), (2, .inl v2)]) [0, 2] rfl k) ?_
          exact e_X3_readNumber_48 l E d x1   v2 D2
        · refine ev_s (fun Q k => rn_bipush (v := 10) (by decide) dX3_readNumber_32 k) ?_
          refine ev_s (fun Q k => rn_iload_n (j := 2) 2 rfl rfl dX3_readNumber_34 k) ?_
          refine ev_s (fun Q k => rn_imul dX3_readNumber_35 k) ?_
          refine ev_s (fun Q k => rn_aload_n (j := 0) 0 rfl rfl (okO_0 ok_311) dX3_readNumber_36 k) ?_
          refine ev_bindI (as := [.inr (.inr 311)]) (fun Q Q1 => rn_callV (as := []) (rest := [.inl ((10 : Int32) * v2)]) (o := 311) m_X3_105 dX3_readNumber_37 (rcv_own ok_311.1 ok_311.2.1 (by decide) (okO_1 ok_311)) rfl rfl (Nat.le_of_ble_eq_true rfl)) pl_X3_takeDigit (Nat.le_of_ble_eq_true rfl) rfl (e_X3_takeDigit l E d  D2) (fun r3 D4 => ?_)
          refine ev_s (fun Q k => rn_iadd dX3_readNumber_40 k) ?_
          refine ev_s (fun Q k => rn_istore_n (j := 2) (ls' := [(2, .inl (((10 : Int32) * v2) + r3)), (0, .inr (.inr 311)), (1, .inl x1), (3, .inl v3)]) rfl (by decide) rfl dX3_readNumber_41 k) ?_
          refine ev_s (fun Q k => rn_iinc (v := (v3 + (1 : Int32))) (ls' := [(3, .inl (v3 + (1 : Int32))), (2, .inl (((10 : Int32) * v2) + r3)), (0, .inr (.inr 311)), (1, .inl x1)]) 3 rfl rfl (by decide) rfl dX3_readNumber_42 k) ?_
          refine ev_s (fun Q k => rn_goto (tgt := 16) dX3_readNumber_45 (by decide) k) ?_
          refine ev_s (fun Q k => rn_sub (ls' := [(0, .inr (.inr 311)), (1, .inl x1), (2, .inl (((10 : Int32) * v2) + r3)), (3, .inl (v3 + (1 : Int32)))]) [2, 3, 1, 0] rfl k) ?_
          exact ih (((10 : Int32) * v2) + r3) (v3 + (1 : Int32)) D4

set_option maxRecDepth 20000 in
theorem e_X3_readNumber (l : Launch) (E : eE) (d : Nat) (x1 : Int32) (D : dT) : ev l E (d + 2) yX3_readNumber cX3_readNumber 4 (some .boolean) 0 [(0, .inr (.inr 311)), (1, .inl x1)] [] D eI (F_X3_readNumber x1 D) := by
  unfold F_X3_readNumber
  refine ev_s (fun Q k => rn_aload_n (j := 0) 0 rfl rfl (okO_0 ok_311) dX3_readNumber_0 k) ?_
  refine ev_bindI (as := [.inr (.inr 311)]) (fun Q Q1 => rn_callV (as := []) (rest := []) (o := 311) m_X3_102 dX3_readNumber_1 (rcv_own ok_311.1 ok_311.2.1 (by decide) (okO_1 ok_311)) rfl rfl (Nat.le_of_ble_eq_true rfl)) pl_X3_isDigitHere (Nat.le_of_ble_eq_true rfl) rfl (e_X3_isDigitHere l E d  D) (fun r1 D2 => ?_)
  refine ev_if (fun Q => rn_if_ne (tgt := 9) dX3_readNumber_4 (by decide)) (fun c5 => ?_) (fun c6 => ?_)
  · refine ev_s (fun Q k => rn_iconst (v := 0) (by decide) dX3_readNumber_7 k) ?_
    exact ev_ret (fun Q q => rn_ret q .boolean rfl rfl dX3_readNumber_8)
  · refine ev_s (fun Q k => rn_aload_n (j := 0) 0 rfl rfl (okO_0 ok_311) dX3_readNumber_9 k) ?_
    refine ev_bindI (as := [.inr (.inr 311)]) (fun Q Q1 => rn_callV (as := []) (rest := []) (o := 311) m_X3_105 dX3_readNumber_10 (rcv_own ok_311.1 ok_311.2.1 (by decide) (okO_1 ok_311)) rfl rfl (Nat.le_of_ble_eq_true rfl)) pl_X3_takeDigit (Nat.le_of_ble_eq_true rfl) rfl (e_X3_takeDigit l E d  D2) (fun r3 D4 => ?_)
    refine ev_s (fun Q k => rn_istore_n (j := 2) (ls' := [(2, .inl r3), (0, .inr (.inr 311)), (1, .inl x1)]) rfl (by decide) rfl dX3_readNumber_13 k) ?_
    refine ev_s (fun Q k => rn_iconst (v := 1) (by decide) dX3_readNumber_14 k) ?_
    refine ev_s (fun Q k => rn_istore_n (j := 3) (ls' := [(3, .inl (1 : Int32)), (2, .inl r3), (0, .inr (.inr 311)), (1, .inl x1)]) rfl (by decide) rfl dX3_readNumber_15 k) ?_
    refine ev_s (fun Q k => rn_sub (ls' := [(0, .inr (.inr 311)), (1, .inl x1), (2, .inl r3), (3, .inl (1 : Int32))]) [2, 3, 1, 0] rfl k) ?_
    exact e_X3_readNumber_16 l E d x1  lim r3 (1 : Int32) D4

def F_X3_skip (x1 : Int32) (D : dT) : Option (Int32 × dT) := bd (F_X3_signHere  D) (fun (r1 : Int32) (D2 : dT) => if r1 = x1 then some ((1 : Int32), (up2 D2 311 3 ((D2 311 3) + (1 : Int32)))) else some ((0 : Int32), D2))
set_option maxRecDepth 20000 in
theorem e_X3_skip (l : Launch) (E : eE) (d : Nat) (x1 : Int32) (D : dT) : ev l E (d + 1) yX3_skip cX3_skip 2 (some .boolean) 0 [(0, .inr (.inr 311)), (1, .inl x1)] [] D eI (F_X3_skip x1 D) := by
  unfold F_X3_skip
  refine ev_s (fun Q k => rn_aload_n (j := 0) 0 rfl rfl (okO_0 ok_311) dX3_skip_0 k) ?_
  refine ev_bindI (as := [.inr (.inr 311)]) (fun Q Q1 => rn_callV (as := []) (rest := []) (o := 311) m_X3_57 dX3_skip_1 (rcv_own ok_311.1 ok_311.2.1 (by decide) (okO_1 ok_311)) rfl rfl (Nat.le_of_ble_eq_true rfl)) pl_X3_signHere (Nat.le_of_ble_eq_true rfl) rfl (e_X3_signHere l E d  D) (fun r1 D2 => ?_)
  refine ev_s (fun Q k => rn_iload_n (j := 1) 1 rfl rfl dX3_skip_4 k) ?_
  refine ev_if (fun Q => rn_icmp_eq (tgt := 10) dX3_skip_5 (by decide)) (fun c3 => ?_) (fun c4 => ?_)
  · refine ev_s (fun Q k => rn_aload_n (j := 0) 0 rfl rfl (okO_0 ok_311) dX3_skip_10 k) ?_
    refine ev_s (fun Q k => rn_dup rfl dX3_skip_11 k) ?_
    refine ev_s (fun Q k => rn_geti f_X3_34 ok_311.1 ok_311.2.1 (okO_1 ok_311) rfl dX3_skip_12 k) ?_
    refine ev_s (fun Q k => rn_iconst (v := 1) (by decide) dX3_skip_15 k) ?_
    refine ev_s (fun Q k => rn_iadd dX3_skip_16 k) ?_
    refine ev_s (fun Q k => rn_puti f_X3_34 ok_311.1 ok_311.2.1 (okO_1 ok_311) rfl rfl rfl rfl dX3_skip_17 k) ?_
    refine ev_s (fun Q k => rn_iconst (v := 1) (by decide) dX3_skip_20 k) ?_
    exact ev_ret (fun Q q => rn_ret q .boolean rfl rfl dX3_skip_21)
  · refine ev_s (fun Q k => rn_iconst (v := 0) (by decide) dX3_skip_8 k) ?_
    exact ev_ret (fun Q q => rn_ret q .boolean rfl rfl dX3_skip_9)

def F_X3_readForm_4 (fuel : Nat) (kS1 : Nat)  (v2 : Int32) (v3 : Int32) (D : dT) : Option (Int32 × dT) := match fuel with
  | 0 => none
  | fu + 1 => bd (F_J0_length_8abf5 kS1 D) (fun (r1 : Int32) (D2 : dT) => if r1 ≤ v3 then if v2 = 0 ∨ v2 = 1 then some (v2, D2) else none else if v2 = 0 then if v2 = 0 ∨ v2 = 1 then some (v2, D2) else none else bd (F_J0_charAt_5068e kS1 v3 D2) (fun (r5 : Int32) (D6 : dT) => if r5 = (68 : Int32) then bd (F_X3_readNumber (1 : Int32) D6) (fun (r7 : Int32) (D8 : dT) => F_X3_readForm_4 fu kS1 r7 (v3 + (1 : Int32)) D8) else if r5 = (78 : Int32) then bd (F_X3_readNumber (3 : Int32) D6) (fun (r11 : Int32) (D12 : dT) => F_X3_readForm_4 fu kS1 r11 (v3 + (1 : Int32)) D12) else bd (F_X3_skip r5 D6) (fun (r15 : Int32) (D16 : dT) => F_X3_readForm_4 fu kS1 r15 (v3 + (1 : Int32)) D16)))
def F_X3_readForm (kS1 : Nat) (D : dT) : Option (Int32 × dT) := F_X3_readForm_4 lim kS1 (1 : Int32) (0 : Int32) D
set_option maxRecDepth 20000 in
theorem e_X3_readForm_4 (l : Launch) (E : eE) (d : Nat) (kS1 : Nat) (hkS1 : 4 ≤ kS1 ∧ kS1 < 10)  (fuel : Nat) : ∀ (v2 : Int32) (v3 : Int32) (D : dT), ev l E (d + 4) yX3_readForm cX3_readForm 5 (some .boolean) 4 [(0, .inr (.inr 311)), (1, .inr (.inr kS1)), (2, .inl v2), (3, .inl v3)] [] D eI (F_X3_readForm_4 fuel kS1 v2 v3 D) := by
  induction fuel with
  | zero =>
    intro v2 v3 D
    exact ev_none
  | succ fu ih =>
    intro v2 v3 D
    rw [F_X3_readForm_4]
    refine ev_s (fun Q k => rn_iload_n (j := 3) 3 rfl rfl dX3_readForm_4 k) ?_
    refine ev_s (fun Q k => rn_aload_n (j := 1) 1 rfl rfl (str_0 hkS1.1) dX3_readForm_5 k) ?_
    refine ev_bindI (as := [.inr (.inr kS1)]) (fun Q Q1 => rn_callV (as := []) (rest := [.inl v3]) (o := kS1) m_X3_93 dX3_readForm_6 (rcv_str hkS1.1 hkS1.2) rfl rfl (Nat.le_of_ble_eq_true rfl)) pl_J0_length_8abf5 (Nat.le_of_ble_eq_true rfl) rfl (e_J0_length_8abf5 l E (d + 2) kS1 hkS1 D) (fun r1 D2 => ?_)
    refine ev_if (fun Q => rn_icmp_ge (tgt := 83) dX3_readForm_9 (by decide)) (fun c19 => ?_) (fun c20 => ?_)
    · refine ev_s (fun Q k => rn_iload_n (j := 2) 2 rfl rfl dX3_readForm_83 k) ?_
      refine ev_gd (fun g3 => ?_)
      exact ev_ret (fun Q q => rn_ret q .boolean rfl (nz_b g3) dX3_readForm_84)
    · refine ev_s (fun Q k => rn_iload_n (j := 2) 2 rfl rfl dX3_readForm_12 k) ?_
      refine ev_if (fun Q => rn_if_eq (tgt := 83) dX3_readForm_13 (by decide)) (fun c17 => ?_) (fun c18 => ?_)
      · refine ev_s (fun Q k => rn_iload_n (j := 2) 2 rfl rfl dX3_readForm_83 k) ?_
        refine ev_gd (fun g4 => ?_)
        exact ev_ret (fun Q q => rn_ret q .boolean rfl (nz_b g4) dX3_readForm_84)
      · refine ev_s (fun Q k => rn_aload_n (j := 1) 1 rfl rfl (str_0 hkS1.1) dX3_readForm_16 k) ?_
        refine ev_s (fun Q k => rn_iload_n (j := 3) 3 rfl rfl dX3_readForm_17 k) ?_
        refine ev_bindI (as := [.inr (.inr kS1), .inl v3]) (fun Q Q1 => rn_callV (as := [.inl v3]) (rest := []) (o := kS1) m_X3_95 dX3_readForm_18 (rcv_str hkS1.1 hkS1.2) rfl rfl (Nat.le_of_ble_eq_true rfl)) pl_J0_charAt_5068e (Nat.le_of_ble_eq_true rfl) rfl (e_J0_charAt_5068e l E d kS1 hkS1 v3 D2) (fun r5 D6 => ?_)
        refine ev_s (fun Q k => rn_istore (j := 4) (ls' := [(4, .inl r5), (0, .inr (.inr 311)), (1, .inr (.inr kS1)), (2, .inl v2), (3, .inl v3)]) (by decide) rfl dX3_readForm_21 k) ?_
        refine ev_s (fun Q k => rn_iload (j := 4) 0 rfl dX3_readForm_23 k) ?_
        refine ev_ite (fun c9 => ?_) (fun c10 => ?_)
        · refine ev_s (fun Q k => rn_lsw (off := 36) (tgt := 61) dX3_readForm_25 (by decide) (by rw [c9]; rfl) (by decide) k) ?_
          refine ev_s (fun Q k => rn_aload_n (j := 0) 1 rfl rfl (okO_0 ok_311) dX3_readForm_61 k) ?_
          refine ev_s (fun Q k => rn_iconst (v := 1) (by decide) dX3_readForm_62 k) ?_
          refine ev_bindI (as := [.inr (.inr 311), .inl (1 : Int32)]) (fun Q Q1 => rn_callV (as := [.inl (1 : Int32)]) (rest := []) (o := 311) m_X3_99 dX3_readForm_63 (rcv_own ok_311.1 ok_311.2.1 (by decide) (okO_1 ok_311)) rfl rfl (Nat.le_of_ble_eq_true rfl)) pl_X3_readNumber (Nat.le_of_ble_eq_true rfl) rfl (e_X3_readNumber l E (d + 1) (1 : Int32) D6) (fun r7 D8 => ?_)
          refine ev_s (fun Q k => rn_istore_n (j := 2) (ls' := [(2, .inl r7), (4, .inl r5), (0, .inr (.inr 311)), (1, .inr (.inr kS1)), (3, .inl v3)]) rfl (by decide) rfl dX3_readForm_66 k) ?_
          refine ev_s (fun Q k => rn_goto (tgt := 77) dX3_readForm_67 (by decide) k) ?_
          refine ev_s (fun Q k => rn_iinc (v := (v3 + (1 : Int32))) (ls' := [(3, .inl (v3 + (1 : Int32))), (2, .inl r7), (4, .inl r5), (0, .inr (.inr 311)), (1, .inr (.inr kS1))]) 4 rfl rfl (by decide) rfl dX3_readForm_77 k) ?_
          refine ev_s (fun Q k => rn_goto (tgt := 4) dX3_readForm_80 (by decide) k) ?_
          refine ev_s (fun Q k => rn_sub (ls' := [(0, .inr (.inr 311)), (1, .inr (.inr kS1)), (2, .inl r7), (3, .inl (v3 + (1 : Int32)))]) [3, 4, 1, 0] rfl k) ?_
          exact ih r7 (v3 + (1 : Int32)) D8
        · refine ev_ite (fun c13 => ?_) (fun c14 => ?_)
          · refine ev_s (fun Q k => rn_lsw (off := 27) (tgt := 52) dX3_readForm_25 (by decide) (by rw [c13]; rfl) (by decide) k) ?_
            refine ev_s (fun Q k => rn_aload_n (j := 0) 1 rfl rfl (okO_0 ok_311) dX3_readForm_52 k) ?_
            refine ev_s (fun Q k => rn_iconst (v := 3) (by decide) dX3_readForm_53 k) ?_
            refine ev_bindI (as := [.inr (.inr 311), .inl (3 : Int32)]) (fun Q Q1 => rn_callV (as := [.inl (3 : Int32)]) (rest := []) (o := 311) m_X3_99 dX3_readForm_54 (rcv_own ok_311.1 ok_311.2.1 (by decide) (okO_1 ok_311)) rfl rfl (Nat.le_of_ble_eq_true rfl)) pl_X3_readNumber (Nat.le_of_ble_eq_true rfl) rfl (e_X3_readNumber l E (d + 1) (3 : Int32) D6) (fun r11 D12 => ?_)
            refine ev_s (fun Q k => rn_istore_n (j := 2) (ls' := [(2, .inl r11), (4, .inl r5), (0, .inr (.inr 311)), (1, .inr (.inr kS1)), (3, .inl v3)]) rfl (by decide) rfl dX3_readForm_57 k) ?_
            refine ev_s (fun Q k => rn_goto (tgt := 77) dX3_readForm_58 (by decide) k) ?_
            refine ev_s (fun Q k => rn_iinc (v := (v3 + (1 : Int32))) (ls' := [(3, .inl (v3 + (1 : Int32))), (2, .inl r11), (4, .inl r5), (0, .inr (.inr 311)), (1, .inr (.inr kS1))]) 4 rfl rfl (by decide) rfl dX3_readForm_77 k) ?_
            refine ev_s (fun Q k => rn_goto (tgt := 4) dX3_readForm_80 (by decide) k) ?_
            refine ev_s (fun Q k => rn_sub (ls' := [(0, .inr (.inr 311)), (1, .inr (.inr kS1)), (2, .inl r11), (3, .inl (v3 + (1 : Int32)))]) [3, 4, 1, 0] rfl k) ?_
            exact ih r11 (v3 + (1 : Int32)) D12
          · refine ev_s (fun Q k => rn_lsw (off := 45) (tgt := 70) dX3_readForm_25 (by decide) ((lv_osw (k := 68) c10 (by decide)).trans ((lv_osw (k := 78) c14 (by decide)).trans rfl)) (by decide) k) ?_
            refine ev_s (fun Q k => rn_aload_n (j := 0) 1 rfl rfl (okO_0 ok_311) dX3_readForm_70 k) ?_
            refine ev_s (fun Q k => rn_iload (j := 4) 0 rfl dX3_readForm_71 k) ?_
            refine ev_bindI (as := [.inr (.inr 311), .inl r5]) (fun Q Q1 => rn_callV (as := [.inl r5]) (rest := []) (o := 311) m_X3_47 dX3_readForm_73 (rcv_own ok_311.1 ok_311.2.1 (by decide) (okO_1 ok_311)) rfl rfl (Nat.le_of_ble_eq_true rfl)) pl_X3_skip (Nat.le_of_ble_eq_true rfl) rfl (e_X3_skip l E (d + 2) r5 D6) (fun r15 D16 => ?_)
            refine ev_s (fun Q k => rn_istore_n (j := 2) (ls' := [(2, .inl r15), (4, .inl r5), (0, .inr (.inr 311)), (1, .inr (.inr kS1)), (3, .inl v3)]) rfl (by decide) rfl dX3_readForm_76 k) ?_
            refine ev_s (fun Q k => rn_iinc (v := (v3 + (1 : Int32))) (ls' := [(3, .inl (v3 + (1 : Int32))), (2, .inl r15), (4, .inl r5), (0, .inr (.inr 311)), (1, .inr (.inr kS1))]) 4 rfl rfl (by decide) rfl dX3_readForm_77 k) ?_
            refine ev_s (fun Q k => rn_goto (tgt := 4) dX3_readForm_80 (by decide) k) ?_
            refine ev_s (fun Q k => rn_sub (ls' := [(0, .inr (.inr 311)), (1, .inr (.inr kS1)), (2, .inl r15), (3, .inl (v3 + (1 : Int32)))]) [3, 4, 1, 0] rfl k) ?_
            exact ih r15 (v3 + (1 : Int32)) D16

set_option maxRecDepth 20000 in
theorem e_X3_readForm (l : Launch) (E : eE) (d : Nat) (kS1 : Nat) (hkS1 : 4 ≤ kS1 ∧ kS1 < 10) (D : dT) : ev l E (d + 4) yX3_readForm cX3_readForm 5 (some .boolean) 0 [(0, .inr (.inr 311)), (1, .inr (.inr kS1))] [] D eI (F_X3_readForm kS1 D) := by
  unfold F_X3_readForm
  refine ev_s (fun Q k => rn_iconst (v := 1) (by decide) dX3_readForm_0 k) ?_
  refine ev_s (fun Q k => rn_istore_n (j := 2) (ls' := [(2, .inl (1 : Int32)), (0, .inr (.inr 311)), (1, .inr (.inr kS1))]) rfl (by decide) rfl dX3_readForm_1 k) ?_
  refine ev_s (fun Q k => rn_iconst (v := 0) (by decide) dX3_readForm_2 k) ?_
  refine ev_s (fun Q k => rn_istore_n (j := 3) (ls' := [(3, .inl (0 : Int32)), (2, .inl (1 : Int32)), (0, .inr (.inr 311)), (1, .inr (.inr kS1))]) rfl (by decide) rfl dX3_readForm_3 k) ?_
  refine ev_s (fun Q k => rn_sub (ls' := [(0, .inr (.inr 311)), (1, .inr (.inr kS1)), (2, .inl (1 : Int32)), (3, .inl (0 : Int32))]) [2, 3, 1, 0] rfl k) ?_
  exact e_X3_readForm_4 l E d kS1 hkS1  lim (1 : Int32) (0 : Int32) D

def F_X3_readCrew_45    (D : dT) : Option (Int32 × dT) := bd (F_X3_skip (43 : Int32) D) (fun (r1 : Int32) (D2 : dT) => if r1 = 0 then some ((1 : Int32), D2) else bd (F_X3_isDigitHere  D2) (fun (r3 : Int32) (D4 : dT) => if r3 = 0 then some ((0 : Int32), D4) else bd (F_X3_takeDigit  D4) (fun (r5 : Int32) (D6 : dT) => some ((1 : Int32), (up2 D6 311 7 r5)))))
def F_X3_readCrew_11 (fuel : Nat)   (v1 : Int32) (D : dT) : Option (Int32 × dT) := match fuel with
  | 0 => none
  | fu + 1 => if (80 : Int32) ≤ v1 then F_X3_readCrew_45 D else bd (F_X3_isDigitHere  D) (fun (r1 : Int32) (D2 : dT) => if r1 = 0 then F_X3_readCrew_45 D2 else bd (F_X3_takeDigit  D2) (fun (r3 : Int32) (D4 : dT) => F_X3_readCrew_11 fu (v1 + (1 : Int32)) (up2 D4 311 6 ((D2 311 6) ||| ((1 : Int32) <<< (r3 &&& 31))))))
def F_X3_readCrew  (D : dT) : Option (Int32 × dT) := bd (F_X3_isDigitHere  D) (fun (r1 : Int32) (D2 : dT) => if r1 = 0 then some ((0 : Int32), D2) else F_X3_readCrew_11 lim (0 : Int32) D2)
set_option maxRecDepth 20000 in
theorem e_X3_readCrew_45 (l : Launch) (E : eE) (d : Nat)    (D : dT) : ev l E (d + 2) yX3_readCrew cX3_readCrew 2 (some .boolean) 45 [(0, .inr (.inr 311))] [] D eI (F_X3_readCrew_45 D) := by
  unfold F_X3_readCrew_45
  refine ev_s (fun Q k => rn_aload_n (j := 0) 0 rfl rfl (okO_0 ok_311) dX3_readCrew_45 k) ?_
  refine ev_s (fun Q k => rn_bipush (v := 43) (by decide) dX3_readCrew_46 k) ?_
  refine ev_bindI (as := [.inr (.inr 311), .inl (43 : Int32)]) (fun Q Q1 => rn_callV (as := [.inl (43 : Int32)]) (rest := []) (o := 311) m_X3_47 dX3_readCrew_48 (rcv_own ok_311.1 ok_311.2.1 (by decide) (okO_1 ok_311)) rfl rfl (Nat.le_of_ble_eq_true rfl)) pl_X3_skip (Nat.le_of_ble_eq_true rfl) rfl (e_X3_skip l E d (43 : Int32) D) (fun r1 D2 => ?_)
  refine ev_if (fun Q => rn_if_ne (tgt := 56) dX3_readCrew_51 (by decide)) (fun c9 => ?_) (fun c10 => ?_)
  · refine ev_s (fun Q k => rn_iconst (v := 1) (by decide) dX3_readCrew_54 k) ?_
    exact ev_ret (fun Q q => rn_ret q .boolean rfl rfl dX3_readCrew_55)
  · refine ev_s (fun Q k => rn_aload_n (j := 0) 0 rfl rfl (okO_0 ok_311) dX3_readCrew_56 k) ?_
    refine ev_bindI (as := [.inr (.inr 311)]) (fun Q Q1 => rn_callV (as := []) (rest := []) (o := 311) m_X3_102 dX3_readCrew_57 (rcv_own ok_311.1 ok_311.2.1 (by decide) (okO_1 ok_311)) rfl rfl (Nat.le_of_ble_eq_true rfl)) pl_X3_isDigitHere (Nat.le_of_ble_eq_true rfl) rfl (e_X3_isDigitHere l E d  D2) (fun r3 D4 => ?_)
    refine ev_if (fun Q => rn_if_ne (tgt := 65) dX3_readCrew_60 (by decide)) (fun c7 => ?_) (fun c8 => ?_)
    · refine ev_s (fun Q k => rn_iconst (v := 0) (by decide) dX3_readCrew_63 k) ?_
      exact ev_ret (fun Q q => rn_ret q .boolean rfl rfl dX3_readCrew_64)
    · refine ev_s (fun Q k => rn_aload_n (j := 0) 0 rfl rfl (okO_0 ok_311) dX3_readCrew_65 k) ?_
      refine ev_s (fun Q k => rn_aload_n (j := 0) 0 rfl rfl (okO_0 ok_311) dX3_readCrew_66 k) ?_
      refine ev_bindI (as := [.inr (.inr 311)]) (fun Q Q1 => rn_callV (as := []) (rest := [.inr (.inr 311)]) (o := 311) m_X3_105 dX3_readCrew_67 (rcv_own ok_311.1 ok_311.2.1 (by decide) (okO_1 ok_311)) rfl rfl (Nat.le_of_ble_eq_true rfl)) pl_X3_takeDigit (Nat.le_of_ble_eq_true rfl) rfl (e_X3_takeDigit l E d  D4) (fun r5 D6 => ?_)
      refine ev_s (fun Q k => rn_puti f_X3_54 ok_311.1 ok_311.2.1 (okO_1 ok_311) rfl rfl rfl rfl dX3_readCrew_70 k) ?_
      refine ev_s (fun Q k => rn_iconst (v := 1) (by decide) dX3_readCrew_73 k) ?_
      exact ev_ret (fun Q q => rn_ret q .boolean rfl rfl dX3_readCrew_74)

set_option maxRecDepth 20000 in
theorem e_X3_readCrew_11 (l : Launch) (E : eE) (d : Nat)   (fuel : Nat) : ∀ (v1 : Int32) (D : dT), ev l E (d + 2) yX3_readCrew cX3_readCrew 2 (some .boolean) 11 [(0, .inr (.inr 311)), (1, .inl v1)] [] D eI (F_X3_readCrew_11 fuel v1 D) := by
  induction fuel with
  | zero =>
    intro v1 D
    exact ev_none
  | succ fu ih =>
    intro v1 D
    rw [F_X3_readCrew_11]
    refine ev_s (fun Q k => rn_iload_n (j := 1) 1 rfl rfl dX3_readCrew_11 k) ?_
    refine ev_s (fun Q k => rn_bipush (v := 80) (by decide) dX3_readCrew_12 k) ?_
    refine ev_if (fun Q => rn_icmp_ge (tgt := 45) dX3_readCrew_14 (by decide)) (fun c7 => ?_) (fun c8 => ?_)
    · refine ev_s (fun Q k => rn_sub (ls' := [(0, .inr (.inr 311))]) [0] rfl k) ?_
      exact e_X3_readCrew_45 l E d    D
    · refine ev_s (fun Q k => rn_aload_n (j := 0) 0 rfl rfl (okO_0 ok_311) dX3_readCrew_17 k) ?_
      refine ev_bindI (as := [.inr (.inr 311)]) (fun Q Q1 => rn_callV (as := []) (rest := []) (o := 311) m_X3_102 dX3_readCrew_18 (rcv_own ok_311.1 ok_311.2.1 (by decide) (okO_1 ok_311)) rfl rfl (Nat.le_of_ble_eq_true rfl)) pl_X3_isDigitHere (Nat.le_of_ble_eq_true rfl) rfl (e_X3_isDigitHere l E d  D) (fun r1 D2 => ?_)
      refine ev_if (fun Q => rn_if_eq (tgt := 45) dX3_readCrew_21 (by decide)) (fun c5 => ?_) (fun c6 => ?_)
      · refine ev_s (fun Q k => rn_sub (ls' := [(0, .inr (.inr 311))]) [0] rfl k) ?_
        exact e_X3_readCrew_45 l E d    D2
      · refine ev_s (fun Q k => rn_aload_n (j := 0) 0 rfl rfl (okO_0 ok_311) dX3_readCrew_24 k) ?_
        refine ev_s (fun Q k => rn_dup rfl dX3_readCrew_25 k) ?_
        refine ev_s (fun Q k => rn_geti f_X3_51 ok_311.1 ok_311.2.1 (okO_1 ok_311) rfl dX3_readCrew_26 k) ?_
        refine ev_s (fun Q k => rn_iconst (v := 1) (by decide) dX3_readCrew_29 k) ?_
        refine ev_s (fun Q k => rn_aload_n (j := 0) 0 rfl rfl (okO_0 ok_311) dX3_readCrew_30 k) ?_
        refine ev_bindI (as := [.inr (.inr 311)]) (fun Q Q1 => rn_callV (as := []) (rest := [.inl (1 : Int32), .inl (D2 311 6), .inr (.inr 311)]) (o := 311) m_X3_105 dX3_readCrew_31 (rcv_own ok_311.1 ok_311.2.1 (by decide) (okO_1 ok_311)) rfl rfl (Nat.le_of_ble_eq_true rfl)) pl_X3_takeDigit (Nat.le_of_ble_eq_true rfl) rfl (e_X3_takeDigit l E d  D2) (fun r3 D4 => ?_)
        refine ev_s (fun Q k => rn_ishl dX3_readCrew_34 k) ?_
        refine ev_s (fun Q k => rn_ior dX3_readCrew_35 k) ?_
        refine ev_s (fun Q k => rn_puti f_X3_51 ok_311.1 ok_311.2.1 (okO_1 ok_311) rfl rfl rfl rfl dX3_readCrew_36 k) ?_
        refine ev_s (fun Q k => rn_iinc (v := (v1 + (1 : Int32))) (ls' := [(1, .inl (v1 + (1 : Int32))), (0, .inr (.inr 311))]) 1 rfl rfl (by decide) rfl dX3_readCrew_39 k) ?_
        refine ev_s (fun Q k => rn_goto (tgt := 11) dX3_readCrew_42 (by decide) k) ?_
        refine ev_s (fun Q k => rn_sub (ls' := [(0, .inr (.inr 311)), (1, .inl (v1 + (1 : Int32)))]) [1, 0] rfl k) ?_
        exact ih (v1 + (1 : Int32)) (up2 D4 311 6 ((D2 311 6) ||| ((1 : Int32) <<< (r3 &&& 31))))

set_option maxRecDepth 20000 in
theorem e_X3_readCrew (l : Launch) (E : eE) (d : Nat)  (D : dT) : ev l E (d + 2) yX3_readCrew cX3_readCrew 2 (some .boolean) 0 [(0, .inr (.inr 311))] [] D eI (F_X3_readCrew D) := by
  unfold F_X3_readCrew
  refine ev_s (fun Q k => rn_aload_n (j := 0) 0 rfl rfl (okO_0 ok_311) dX3_readCrew_0 k) ?_
  refine ev_bindI (as := [.inr (.inr 311)]) (fun Q Q1 => rn_callV (as := []) (rest := []) (o := 311) m_X3_102 dX3_readCrew_1 (rcv_own ok_311.1 ok_311.2.1 (by decide) (okO_1 ok_311)) rfl rfl (Nat.le_of_ble_eq_true rfl)) pl_X3_isDigitHere (Nat.le_of_ble_eq_true rfl) rfl (e_X3_isDigitHere l E d  D) (fun r1 D2 => ?_)
  refine ev_if (fun Q => rn_if_ne (tgt := 9) dX3_readCrew_4 (by decide)) (fun c3 => ?_) (fun c4 => ?_)
  · refine ev_s (fun Q k => rn_iconst (v := 0) (by decide) dX3_readCrew_7 k) ?_
    exact ev_ret (fun Q q => rn_ret q .boolean rfl rfl dX3_readCrew_8)
  · refine ev_s (fun Q k => rn_iconst (v := 0) (by decide) dX3_readCrew_9 k) ?_
    refine ev_s (fun Q k => rn_istore_n (j := 1) (ls' := [(1, .inl (0 : Int32)), (0, .inr (.inr 311))]) rfl (by decide) rfl dX3_readCrew_10 k) ?_
    refine ev_s (fun Q k => rn_sub (ls' := [(0, .inr (.inr 311)), (1, .inl (0 : Int32))]) [1, 0] rfl k) ?_
    exact e_X3_readCrew_11 l E d   lim (0 : Int32) D2

def F_X3_readOrder  (D : dT) : Option (Int32 × dT) := bd (F_X3_signHere  (up2 (up2 (up2 D 311 2 (0 : Int32)) 311 6 (0 : Int32)) 311 7 (-6 : Int32))) (fun (r1 : Int32) (D2 : dT) => bd (F_J0_indexOf_0f7a4 4 ((((up2 D2 311 5 r1) 311 5).toUInt32 % 65536).toInt32) (up2 D2 311 5 r1)) (fun (r3 : Int32) (D4 : dT) => if 0 ≤ r3 then bd (F_X3_formOf ((up2 D4 311 3 ((D4 311 3) + (1 : Int32))) 311 5) (up2 D4 311 3 ((D4 311 3) + (1 : Int32)))) (fun (r5 : Nat) (D6 : dT) => if 4 ≤ r5 ∧ r5 < 10 then bd (F_X3_readForm r5 D6) (fun (r7 : Int32) (D8 : dT) => if r7 = 0 then some ((0 : Int32), D8) else if (D8 311 5) = (103 : Int32) then bd (F_X3_readCrew  D8) (fun (r9 : Int32) (D10 : dT) => if r9 = 0 then some ((0 : Int32), D10) else some ((1 : Int32), D10)) else some ((1 : Int32), D8)) else none) else some ((0 : Int32), D4)))
set_option maxRecDepth 20000 in
theorem e_X3_readOrder (l : Launch) (E : eE) (d : Nat)  (D : dT) : ev l E (d + 5) yX3_readOrder cX3_readOrder 1 (some .boolean) 0 [(0, .inr (.inr 311))] [] D eI (F_X3_readOrder D) := by
  unfold F_X3_readOrder
  refine ev_s (fun Q k => rn_aload_n (j := 0) 0 rfl rfl (okO_0 ok_311) dX3_readOrder_0 k) ?_
  refine ev_s (fun Q k => rn_iconst (v := 0) (by decide) dX3_readOrder_1 k) ?_
  refine ev_s (fun Q k => rn_puti f_X3_37 ok_311.1 ok_311.2.1 (okO_1 ok_311) rfl rfl rfl rfl dX3_readOrder_2 k) ?_
  refine ev_s (fun Q k => rn_aload_n (j := 0) 0 rfl rfl (okO_0 ok_311) dX3_readOrder_5 k) ?_
  refine ev_s (fun Q k => rn_iconst (v := 0) (by decide) dX3_readOrder_6 k) ?_
  refine ev_s (fun Q k => rn_puti f_X3_51 ok_311.1 ok_311.2.1 (okO_1 ok_311) rfl rfl rfl rfl dX3_readOrder_7 k) ?_
  refine ev_s (fun Q k => rn_aload_n (j := 0) 0 rfl rfl (okO_0 ok_311) dX3_readOrder_10 k) ?_
  refine ev_s (fun Q k => rn_bipush (v := -6) (by decide) dX3_readOrder_11 k) ?_
  refine ev_s (fun Q k => rn_puti f_X3_54 ok_311.1 ok_311.2.1 (okO_1 ok_311) rfl rfl rfl rfl dX3_readOrder_13 k) ?_
  refine ev_s (fun Q k => rn_aload_n (j := 0) 0 rfl rfl (okO_0 ok_311) dX3_readOrder_16 k) ?_
  refine ev_s (fun Q k => rn_aload_n (j := 0) 0 rfl rfl (okO_0 ok_311) dX3_readOrder_17 k) ?_
  refine ev_bindI (as := [.inr (.inr 311)]) (fun Q Q1 => rn_callV (as := []) (rest := [.inr (.inr 311)]) (o := 311) m_X3_57 dX3_readOrder_18 (rcv_own ok_311.1 ok_311.2.1 (by decide) (okO_1 ok_311)) rfl rfl (Nat.le_of_ble_eq_true rfl)) pl_X3_signHere (Nat.le_of_ble_eq_true rfl) rfl (e_X3_signHere l E (d + 4)  (up2 (up2 (up2 D 311 2 (0 : Int32)) 311 6 (0 : Int32)) 311 7 (-6 : Int32))) (fun r1 D2 => ?_)
  refine ev_s (fun Q k => rn_puti f_X3_61 ok_311.1 ok_311.2.1 (okO_1 ok_311) rfl rfl rfl rfl dX3_readOrder_21 k) ?_
  refine ev_s (fun Q k => rn_ldcS (k := 4) (tx := tx_4) (by decide) (by decide) (fun s h => tR_4 h) dX3_readOrder_24 k) ?_
  refine ev_s (fun Q k => rn_aload_n (j := 0) 0 rfl rfl (okO_0 ok_311) dX3_readOrder_26 k) ?_
  refine ev_s (fun Q k => rn_geti f_X3_61 ok_311.1 ok_311.2.1 (okO_1 ok_311) rfl dX3_readOrder_27 k) ?_
  refine ev_s (fun Q k => rn_i2c (v := (((up2 D2 311 5 r1) 311 5).toUInt32 % 65536).toInt32) rfl dX3_readOrder_30 k) ?_
  refine ev_bindI (as := [.inr (.inr 4), .inl ((((up2 D2 311 5 r1) 311 5).toUInt32 % 65536).toInt32)]) (fun Q Q1 => rn_callV (as := [.inl ((((up2 D2 311 5 r1) 311 5).toUInt32 % 65536).toInt32)]) (rest := []) (o := 4) m_X3_66 dX3_readOrder_31 (rcv_str st_4.1 st_4.2) rfl rfl (Nat.le_of_ble_eq_true rfl)) pl_J0_indexOf_0f7a4 (Nat.le_of_ble_eq_true rfl) rfl (e_J0_indexOf_0f7a4 l E (d + 1) 4 st_4 ((((up2 D2 311 5 r1) 311 5).toUInt32 % 65536).toInt32) (up2 D2 311 5 r1)) (fun r3 D4 => ?_)
  refine ev_if (fun Q => rn_if_ge (tgt := 39) dX3_readOrder_34 (by decide)) (fun c17 => ?_) (fun c18 => ?_)
  · refine ev_s (fun Q k => rn_aload_n (j := 0) 0 rfl rfl (okO_0 ok_311) dX3_readOrder_39 k) ?_
    refine ev_s (fun Q k => rn_dup rfl dX3_readOrder_40 k) ?_
    refine ev_s (fun Q k => rn_geti f_X3_34 ok_311.1 ok_311.2.1 (okO_1 ok_311) rfl dX3_readOrder_41 k) ?_
    refine ev_s (fun Q k => rn_iconst (v := 1) (by decide) dX3_readOrder_44 k) ?_
    refine ev_s (fun Q k => rn_iadd dX3_readOrder_45 k) ?_
    refine ev_s (fun Q k => rn_puti f_X3_34 ok_311.1 ok_311.2.1 (okO_1 ok_311) rfl rfl rfl rfl dX3_readOrder_46 k) ?_
    refine ev_s (fun Q k => rn_aload_n (j := 0) 0 rfl rfl (okO_0 ok_311) dX3_readOrder_49 k) ?_
    refine ev_s (fun Q k => rn_aload_n (j := 0) 0 rfl rfl (okO_0 ok_311) dX3_readOrder_50 k) ?_
    refine ev_s (fun Q k => rn_geti f_X3_61 ok_311.1 ok_311.2.1 (okO_1 ok_311) rfl dX3_readOrder_51 k) ?_
    refine ev_bindN (as := [.inl ((up2 D4 311 3 ((D4 311 3) + (1 : Int32))) 311 5)]) (fun Q Q1 => rn_callS (as := [.inl ((up2 D4 311 3 ((D4 311 3) + (1 : Int32))) 311 5)]) (rest := [.inr (.inr 311)]) m_X3_72 dX3_readOrder_54 rfl rfl (Nat.le_of_ble_eq_true rfl)) pl_X3_formOf (Nat.le_of_ble_eq_true rfl) rfl (e_X3_formOf l E (d + 4) ((up2 D4 311 3 ((D4 311 3) + (1 : Int32))) 311 5) (up2 D4 311 3 ((D4 311 3) + (1 : Int32)))) (fun r5 D6 => ?_)
    refine ev_gd (fun hr5 => ?_)
    refine ev_bindI (as := [.inr (.inr 311), .inr (.inr r5)]) (fun Q Q1 => rn_callV (as := [.inr (.inr r5)]) (rest := []) (o := 311) m_X3_76 dX3_readOrder_57 (rcv_own ok_311.1 ok_311.2.1 (by decide) (okO_1 ok_311)) rfl rfl (Nat.le_of_ble_eq_true rfl)) pl_X3_readForm (Nat.le_of_ble_eq_true rfl) rfl (e_X3_readForm l E d r5 hr5 D6) (fun r7 D8 => ?_)
    refine ev_if (fun Q => rn_if_eq (tgt := 83) dX3_readOrder_60 (by decide)) (fun c15 => ?_) (fun c16 => ?_)
    · refine ev_s (fun Q k => rn_iconst (v := 0) (by decide) dX3_readOrder_83 k) ?_
      exact ev_ret (fun Q q => rn_ret q .boolean rfl rfl dX3_readOrder_84)
    · refine ev_s (fun Q k => rn_aload_n (j := 0) 0 rfl rfl (okO_0 ok_311) dX3_readOrder_63 k) ?_
      refine ev_s (fun Q k => rn_geti f_X3_61 ok_311.1 ok_311.2.1 (okO_1 ok_311) rfl dX3_readOrder_64 k) ?_
      refine ev_s (fun Q k => rn_bipush (v := 103) (by decide) dX3_readOrder_67 k) ?_
      refine ev_if (fun Q => rn_icmp_ne (tgt := 79) dX3_readOrder_69 (by decide)) (fun c13 => ?_) (fun c14 => ?_)
      · refine ev_s (fun Q k => rn_aload_n (j := 0) 0 rfl rfl (okO_0 ok_311) dX3_readOrder_72 k) ?_
        refine ev_bindI (as := [.inr (.inr 311)]) (fun Q Q1 => rn_callV (as := []) (rest := []) (o := 311) m_X3_80 dX3_readOrder_73 (rcv_own ok_311.1 ok_311.2.1 (by decide) (okO_1 ok_311)) rfl rfl (Nat.le_of_ble_eq_true rfl)) pl_X3_readCrew (Nat.le_of_ble_eq_true rfl) rfl (e_X3_readCrew l E (d + 2)  D8) (fun r9 D10 => ?_)
        refine ev_if (fun Q => rn_if_eq (tgt := 83) dX3_readOrder_76 (by decide)) (fun c11 => ?_) (fun c12 => ?_)
        · refine ev_s (fun Q k => rn_iconst (v := 0) (by decide) dX3_readOrder_83 k) ?_
          exact ev_ret (fun Q q => rn_ret q .boolean rfl rfl dX3_readOrder_84)
        · refine ev_s (fun Q k => rn_iconst (v := 1) (by decide) dX3_readOrder_79 k) ?_
          refine ev_s (fun Q k => rn_goto (tgt := 84) dX3_readOrder_80 (by decide) k) ?_
          exact ev_ret (fun Q q => rn_ret q .boolean rfl rfl dX3_readOrder_84)
      · refine ev_s (fun Q k => rn_iconst (v := 1) (by decide) dX3_readOrder_79 k) ?_
        refine ev_s (fun Q k => rn_goto (tgt := 84) dX3_readOrder_80 (by decide) k) ?_
        exact ev_ret (fun Q q => rn_ret q .boolean rfl rfl dX3_readOrder_84)
  · refine ev_s (fun Q k => rn_iconst (v := 0) (by decide) dX3_readOrder_37 k) ?_
    exact ev_ret (fun Q q => rn_ret q .boolean rfl rfl dX3_readOrder_38)

def F_X3_findFault_6 (fuel : Nat)   (v1 : Int32) (D : dT) : Option (Int32 × dT) := match fuel with
  | 0 => none
  | fu + 1 => if (80 : Int32) < v1 then some ((D 311 3), D) else bd (F_X3_readOrder  D) (fun (r1 : Int32) (D2 : dT) => if r1 = 0 then some ((D2 311 3), D2) else if (D2 311 3) < (D2 311 4) then bd (F_X3_skip (59 : Int32) D2) (fun (r3 : Int32) (D4 : dT) => if r3 = 0 then some ((D4 311 3), D4) else F_X3_findFault_6 fu (v1 + (1 : Int32)) D4) else some ((-6 : Int32), D2))
def F_X3_findFault  (D : dT) : Option (Int32 × dT) := bd (F_X3_startReading  D) (fun (r1 : Int32) (D2 : dT) => F_X3_findFault_6 lim (0 : Int32) D2)
set_option maxRecDepth 20000 in
theorem e_X3_findFault_6 (l : Launch) (E : eE) (d : Nat)   (fuel : Nat) : ∀ (v1 : Int32) (D : dT), ev l E (d + 6) yX3_findFault cX3_findFault 2 (some .int) 6 [(0, .inr (.inr 311)), (1, .inl v1)] [] D eI (F_X3_findFault_6 fuel v1 D) := by
  induction fuel with
  | zero =>
    intro v1 D
    exact ev_none
  | succ fu ih =>
    intro v1 D
    rw [F_X3_findFault_6]
    refine ev_s (fun Q k => rn_iload_n (j := 1) 1 rfl rfl dX3_findFault_6 k) ?_
    refine ev_s (fun Q k => rn_bipush (v := 80) (by decide) dX3_findFault_7 k) ?_
    refine ev_if (fun Q => rn_icmp_gt (tgt := 58) dX3_findFault_9 (by decide)) (fun c11 => ?_) (fun c12 => ?_)
    · refine ev_s (fun Q k => rn_aload_n (j := 0) 0 rfl rfl (okO_0 ok_311) dX3_findFault_58 k) ?_
      refine ev_s (fun Q k => rn_geti f_X3_34 ok_311.1 ok_311.2.1 (okO_1 ok_311) rfl dX3_findFault_59 k) ?_
      exact ev_ret (fun Q q => rn_ret q .int rfl rfl dX3_findFault_62)
    · refine ev_s (fun Q k => rn_aload_n (j := 0) 0 rfl rfl (okO_0 ok_311) dX3_findFault_12 k) ?_
      refine ev_bindI (as := [.inr (.inr 311)]) (fun Q Q1 => rn_callV (as := []) (rest := []) (o := 311) m_X3_43 dX3_findFault_13 (rcv_own ok_311.1 ok_311.2.1 (by decide) (okO_1 ok_311)) rfl rfl (Nat.le_of_ble_eq_true rfl)) pl_X3_readOrder (Nat.le_of_ble_eq_true rfl) rfl (e_X3_readOrder l E d  D) (fun r1 D2 => ?_)
      refine ev_if (fun Q => rn_if_ne (tgt := 24) dX3_findFault_16 (by decide)) (fun c9 => ?_) (fun c10 => ?_)
      · refine ev_s (fun Q k => rn_aload_n (j := 0) 0 rfl rfl (okO_0 ok_311) dX3_findFault_19 k) ?_
        refine ev_s (fun Q k => rn_geti f_X3_34 ok_311.1 ok_311.2.1 (okO_1 ok_311) rfl dX3_findFault_20 k) ?_
        exact ev_ret (fun Q q => rn_ret q .int rfl rfl dX3_findFault_23)
      · refine ev_s (fun Q k => rn_aload_n (j := 0) 0 rfl rfl (okO_0 ok_311) dX3_findFault_24 k) ?_
        refine ev_s (fun Q k => rn_geti f_X3_34 ok_311.1 ok_311.2.1 (okO_1 ok_311) rfl dX3_findFault_25 k) ?_
        refine ev_s (fun Q k => rn_aload_n (j := 0) 0 rfl rfl (okO_0 ok_311) dX3_findFault_28 k) ?_
        refine ev_s (fun Q k => rn_geti f_X3_22 ok_311.1 ok_311.2.1 (okO_1 ok_311) rfl dX3_findFault_29 k) ?_
        refine ev_if (fun Q => rn_icmp_lt (tgt := 38) dX3_findFault_32 (by decide)) (fun c7 => ?_) (fun c8 => ?_)
        · refine ev_s (fun Q k => rn_aload_n (j := 0) 0 rfl rfl (okO_0 ok_311) dX3_findFault_38 k) ?_
          refine ev_s (fun Q k => rn_bipush (v := 59) (by decide) dX3_findFault_39 k) ?_
          refine ev_bindI (as := [.inr (.inr 311), .inl (59 : Int32)]) (fun Q Q1 => rn_callV (as := [.inl (59 : Int32)]) (rest := []) (o := 311) m_X3_47 dX3_findFault_41 (rcv_own ok_311.1 ok_311.2.1 (by decide) (okO_1 ok_311)) rfl rfl (Nat.le_of_ble_eq_true rfl)) pl_X3_skip (Nat.le_of_ble_eq_true rfl) rfl (e_X3_skip l E (d + 4) (59 : Int32) D2) (fun r3 D4 => ?_)
          refine ev_if (fun Q => rn_if_ne (tgt := 52) dX3_findFault_44 (by decide)) (fun c5 => ?_) (fun c6 => ?_)
          · refine ev_s (fun Q k => rn_aload_n (j := 0) 0 rfl rfl (okO_0 ok_311) dX3_findFault_47 k) ?_
            refine ev_s (fun Q k => rn_geti f_X3_34 ok_311.1 ok_311.2.1 (okO_1 ok_311) rfl dX3_findFault_48 k) ?_
            exact ev_ret (fun Q q => rn_ret q .int rfl rfl dX3_findFault_51)
          · refine ev_s (fun Q k => rn_iinc (v := (v1 + (1 : Int32))) (ls' := [(1, .inl (v1 + (1 : Int32))), (0, .inr (.inr 311))]) 1 rfl rfl (by decide) rfl dX3_findFault_52 k) ?_
            refine ev_s (fun Q k => rn_goto (tgt := 6) dX3_findFault_55 (by decide) k) ?_
            refine ev_s (fun Q k => rn_sub (ls' := [(0, .inr (.inr 311)), (1, .inl (v1 + (1 : Int32)))]) [1, 0] rfl k) ?_
            exact ih (v1 + (1 : Int32)) D4
        · refine ev_s (fun Q k => rn_bipush (v := -6) (by decide) dX3_findFault_35 k) ?_
          exact ev_ret (fun Q q => rn_ret q .int rfl rfl dX3_findFault_37)

set_option maxRecDepth 20000 in
theorem e_X3_findFault (l : Launch) (E : eE) (d : Nat)  (D : dT) : ev l E (d + 6) yX3_findFault cX3_findFault 2 (some .int) 0 [(0, .inr (.inr 311))] [] D eI (F_X3_findFault D) := by
  unfold F_X3_findFault
  refine ev_s (fun Q k => rn_aload_n (j := 0) 0 rfl rfl (okO_0 ok_311) dX3_findFault_0 k) ?_
  refine ev_bindU (as := [.inr (.inr 311)]) (fun Q Q1 => rn_callV (as := []) (rest := []) (o := 311) m_X3_40 dX3_findFault_1 (rcv_own ok_311.1 ok_311.2.1 (by decide) (okO_1 ok_311)) rfl rfl (Nat.le_of_ble_eq_true rfl)) pl_X3_startReading (Nat.le_of_ble_eq_true rfl) rfl (e_X3_startReading l E (d + 5)  D) (fun r1 D2 => ?_)
  refine ev_s (fun Q k => rn_iconst (v := 0) (by decide) dX3_findFault_4 k) ?_
  refine ev_s (fun Q k => rn_istore_n (j := 1) (ls' := [(1, .inl (0 : Int32)), (0, .inr (.inr 311))]) rfl (by decide) rfl dX3_findFault_5 k) ?_
  refine ev_s (fun Q k => rn_sub (ls' := [(0, .inr (.inr 311)), (1, .inl (0 : Int32))]) [1, 0] rfl k) ?_
  exact e_X3_findFault_6 l E d   lim (0 : Int32) D2

def F_X5_fault  (D : dT) : Option (Int32 × dT) := bd (F_X3_findFault  D) (fun (r1 : Int32) (D2 : dT) => some (r1, D2))
set_option maxRecDepth 20000 in
theorem e_X5_fault (l : Launch) (E : eE) (d : Nat)  (D : dT) : ev l E (d + 7) yX5_fault cX5_fault 1 (some .int) 0 [(0, .inr (.inr 18))] [] D eI (F_X5_fault D) := by
  unfold F_X5_fault
  refine ev_s (fun Q k => rn_aload_n (j := 0) 0 rfl rfl (okO_0 ok_18) dX5_fault_0 k) ?_
  refine ev_s (fun Q k => rn_getr (q := 311) f_X5_37 ok_18.1 ok_18.2.1 (okO_1 ok_18) rfl rfl dX5_fault_1 k) ?_
  refine ev_bindI (as := [.inr (.inr 311)]) (fun Q Q1 => rn_callV (as := []) (rest := []) (o := 311) m_X5_162 dX5_fault_4 (rcv_own ok_311.1 ok_311.2.1 (by decide) (okO_1 ok_311)) rfl rfl (Nat.le_of_ble_eq_true rfl)) pl_X3_findFault (Nat.le_of_ble_eq_true rfl) rfl (e_X3_findFault l E d  D) (fun r1 D2 => ?_)
  exact ev_ret (fun Q q => rn_ret q .int rfl rfl dX5_fault_7)

def F_X3_number (x1 : Int32) (D : dT) : Option (Int32 × dT) := if x1 < 0 then some ((0 : Int32), D) else if (D 311 2) ≤ x1 then some ((0 : Int32), D) else if inR x1 5 then some ((D 313 x1.toNatClampNeg), D) else none
set_option maxRecDepth 20000 in
theorem e_X3_number (l : Launch) (E : eE) (d : Nat) (x1 : Int32) (D : dT) : ev l E d yX3_number cX3_number 2 (some .int) 0 [(0, .inr (.inr 311)), (1, .inl x1)] [] D eI (F_X3_number x1 D) := by
  unfold F_X3_number
  refine ev_s (fun Q k => rn_iload_n (j := 1) 1 rfl rfl dX3_number_0 k) ?_
  refine ev_if (fun Q => rn_if_lt (tgt := 21) dX3_number_1 (by decide)) (fun c4 => ?_) (fun c5 => ?_)
  · refine ev_s (fun Q k => rn_iconst (v := 0) (by decide) dX3_number_21 k) ?_
    exact ev_ret (fun Q q => rn_ret q .int rfl rfl dX3_number_22)
  · refine ev_s (fun Q k => rn_iload_n (j := 1) 1 rfl rfl dX3_number_4 k) ?_
    refine ev_s (fun Q k => rn_aload_n (j := 0) 0 rfl rfl (okO_0 ok_311) dX3_number_5 k) ?_
    refine ev_s (fun Q k => rn_geti f_X3_37 ok_311.1 ok_311.2.1 (okO_1 ok_311) rfl dX3_number_6 k) ?_
    refine ev_if (fun Q => rn_icmp_ge (tgt := 21) dX3_number_9 (by decide)) (fun c2 => ?_) (fun c3 => ?_)
    · refine ev_s (fun Q k => rn_iconst (v := 0) (by decide) dX3_number_21 k) ?_
      exact ev_ret (fun Q q => rn_ret q .int rfl rfl dX3_number_22)
    · refine ev_s (fun Q k => rn_aload_n (j := 0) 0 rfl rfl (okO_0 ok_311) dX3_number_12 k) ?_
      refine ev_s (fun Q k => rn_getr (q := 313) f_X3_15 ok_311.1 ok_311.2.1 (okO_1 ok_311) rfl rfl dX3_number_13 k) ?_
      refine ev_s (fun Q k => rn_iload_n (j := 1) 1 rfl rfl dX3_number_16 k) ?_
      refine ev_gd (fun g1 => ?_)
      refine ev_s (fun Q k => rn_iald ok_313.1 ok_313.2.1 ok_313.2.2 (inR_vp g1) dX3_number_17 k) ?_
      refine ev_s (fun Q k => rn_goto (tgt := 22) dX3_number_18 (by decide) k) ?_
      exact ev_ret (fun Q q => rn_ret q .int rfl rfl dX3_number_22)

def F_X5_obeyOrder  (D : dT) : Option (Int32 × dT) := bd (F_X3_number (0 : Int32) D) (fun (r1 : Int32) (D2 : dT) => if (D2 311 5) = (97 : Int32) then bd (F_X0_assignJobs 19 D2) (fun (r3 : Int32) (D4 : dT) => some (r3, D4)) else if (D2 311 5) = (100 : Int32) then bd (F_X3_number (1 : Int32) D2) (fun (r7 : Int32) (D8 : dT) => bd (F_X0_delayJob 19 r1 r7 D8) (fun (r9 : Int32) (D10 : dT) => some (r9, D10))) else if (D2 311 5) = (103 : Int32) then bd (F_X0_beginJob 19 r1 (D2 311 6) (D2 311 7) D2) (fun (r13 : Int32) (D14 : dT) => some (r13, D14)) else if (D2 311 5) = (106 : Int32) then bd (F_X3_number (1 : Int32) D2) (fun (r17 : Int32) (D18 : dT) => bd (F_X3_number (2 : Int32) D18) (fun (r19 : Int32) (D20 : dT) => bd (F_X3_number (3 : Int32) D20) (fun (r21 : Int32) (D22 : dT) => bd (F_X3_number (4 : Int32) D22) (fun (r23 : Int32) (D24 : dT) => bd (F_X0_addJob 19 r1 r17 r19 r21 r23 D24) (fun (r25 : Int32) (D26 : dT) => some (r25, D26)))))) else if (D2 311 5) = (110 : Int32) then bd (F_X0_passHours 19 r1 D2) (fun (r29 : Int32) (D30 : dT) => some (r29, D30)) else if (D2 311 5) = (119 : Int32) then bd (F_X0_addPerson 19 r1 D2) (fun (r33 : Int32) (D34 : dT) => some (r33, D34)) else if (D2 311 5) = (120 : Int32) then bd (F_X0_callOffJob 19 r1 D2) (fun (r37 : Int32) (D38 : dT) => some (r37, D38)) else some ((-3 : Int32), D2))
set_option maxRecDepth 20000 in
theorem e_X5_obeyOrder (l : Launch) (E : eE) (d : Nat)  (D : dT) : ev l E (d + 6) yX5_obeyOrder cX5_obeyOrder 2 (some .int) 0 [(0, .inr (.inr 18))] [] D eI (F_X5_obeyOrder D) := by
  unfold F_X5_obeyOrder
  refine ev_s (fun Q k => rn_aload_n (j := 0) 0 rfl rfl (okO_0 ok_18) dX5_obeyOrder_0 k) ?_
  refine ev_s (fun Q k => rn_getr (q := 311) f_X5_37 ok_18.1 ok_18.2.1 (okO_1 ok_18) rfl rfl dX5_obeyOrder_1 k) ?_
  refine ev_s (fun Q k => rn_iconst (v := 0) (by decide) dX5_obeyOrder_4 k) ?_
  refine ev_bindI (as := [.inr (.inr 311), .inl (0 : Int32)]) (fun Q Q1 => rn_callV (as := [.inl (0 : Int32)]) (rest := []) (o := 311) m_X5_178 dX5_obeyOrder_5 (rcv_own ok_311.1 ok_311.2.1 (by decide) (okO_1 ok_311)) rfl rfl (Nat.le_of_ble_eq_true rfl)) pl_X3_number (Nat.le_of_ble_eq_true rfl) rfl (e_X3_number l E (d + 5) (0 : Int32) D) (fun r1 D2 => ?_)
  refine ev_s (fun Q k => rn_istore_n (j := 1) (ls' := [(1, .inl r1), (0, .inr (.inr 18))]) rfl (by decide) rfl dX5_obeyOrder_8 k) ?_
  refine ev_s (fun Q k => rn_aload_n (j := 0) 1 rfl rfl (okO_0 ok_18) dX5_obeyOrder_9 k) ?_
  refine ev_s (fun Q k => rn_getr (q := 311) f_X5_37 ok_18.1 ok_18.2.1 (okO_1 ok_18) rfl rfl dX5_obeyOrder_10 k) ?_
  refine ev_s (fun Q k => rn_geti f_X5_181 ok_311.1 ok_311.2.1 (okO_1 ok_311) rfl dX5_obeyOrder_13 k) ?_
  refine ev_ite (fun c5 => ?_) (fun c6 => ?_)
  · refine ev_s (fun Q k => rn_tswI (off := 211) (tgt := 227) dX5_obeyOrder_16 (by rw [c5]; decide) (by rw [c5]; decide) (by rw [c5]; rfl) (by decide) k) ?_
    refine ev_s (fun Q k => rn_aload_n (j := 0) 1 rfl rfl (okO_0 ok_18) dX5_obeyOrder_227 k) ?_
    refine ev_s (fun Q k => rn_getr (q := 19) f_X5_10 ok_18.1 ok_18.2.1 (okO_1 ok_18) rfl rfl dX5_obeyOrder_228 k) ?_
    refine ev_bindI (as := [.inr (.inr 19)]) (fun Q Q1 => rn_callV (as := []) (rest := []) (o := 19) m_X5_67 dX5_obeyOrder_231 (rcv_own (oF isF_19).1 (oF isF_19).2.1 (by decide) (okO_1 (oF isF_19))) rfl rfl (Nat.le_of_ble_eq_true rfl)) pl_X0_assignJobs (Nat.le_of_ble_eq_true rfl) rfl (e_X0_assignJobs l E (d + 1) 19 isF_19 D2) (fun r3 D4 => ?_)
    exact ev_ret (fun Q q => rn_ret q .int rfl rfl dX5_obeyOrder_234)
  · refine ev_ite (fun c11 => ?_) (fun c12 => ?_)
    · refine ev_s (fun Q k => rn_tswI (off := 185) (tgt := 201) dX5_obeyOrder_16 (by rw [c11]; decide) (by rw [c11]; decide) (by rw [c11]; rfl) (by decide) k) ?_
      refine ev_s (fun Q k => rn_aload_n (j := 0) 1 rfl rfl (okO_0 ok_18) dX5_obeyOrder_201 k) ?_
      refine ev_s (fun Q k => rn_getr (q := 19) f_X5_10 ok_18.1 ok_18.2.1 (okO_1 ok_18) rfl rfl dX5_obeyOrder_202 k) ?_
      refine ev_s (fun Q k => rn_iload_n (j := 1) 0 rfl rfl dX5_obeyOrder_205 k) ?_
      refine ev_s (fun Q k => rn_aload_n (j := 0) 1 rfl rfl (okO_0 ok_18) dX5_obeyOrder_206 k) ?_
      refine ev_s (fun Q k => rn_getr (q := 311) f_X5_37 ok_18.1 ok_18.2.1 (okO_1 ok_18) rfl rfl dX5_obeyOrder_207 k) ?_
      refine ev_s (fun Q k => rn_iconst (v := 1) (by decide) dX5_obeyOrder_210 k) ?_
      refine ev_bindI (as := [.inr (.inr 311), .inl (1 : Int32)]) (fun Q Q1 => rn_callV (as := [.inl (1 : Int32)]) (rest := [.inl r1, .inr (.inr 19)]) (o := 311) m_X5_178 dX5_obeyOrder_211 (rcv_own ok_311.1 ok_311.2.1 (by decide) (okO_1 ok_311)) rfl rfl (Nat.le_of_ble_eq_true rfl)) pl_X3_number (Nat.le_of_ble_eq_true rfl) rfl (e_X3_number l E (d + 5) (1 : Int32) D2) (fun r7 D8 => ?_)
      refine ev_bindI (as := [.inr (.inr 19), .inl r1, .inl r7]) (fun Q Q1 => rn_callV (as := [.inl r1, .inl r7]) (rest := []) (o := 19) m_X5_71 dX5_obeyOrder_214 (rcv_own (oF isF_19).1 (oF isF_19).2.1 (by decide) (okO_1 (oF isF_19))) rfl rfl (Nat.le_of_ble_eq_true rfl)) pl_X0_delayJob (Nat.le_of_ble_eq_true rfl) rfl (e_X0_delayJob l E (d + 4) 19 isF_19 r1 r7 D8) (fun r9 D10 => ?_)
      exact ev_ret (fun Q q => rn_ret q .int rfl rfl dX5_obeyOrder_217)
    · refine ev_ite (fun c15 => ?_) (fun c16 => ?_)
      · refine ev_s (fun Q k => rn_tswI (off := 162) (tgt := 178) dX5_obeyOrder_16 (by rw [c15]; decide) (by rw [c15]; decide) (by rw [c15]; rfl) (by decide) k) ?_
        refine ev_s (fun Q k => rn_aload_n (j := 0) 1 rfl rfl (okO_0 ok_18) dX5_obeyOrder_178 k) ?_
        refine ev_s (fun Q k => rn_getr (q := 19) f_X5_10 ok_18.1 ok_18.2.1 (okO_1 ok_18) rfl rfl dX5_obeyOrder_179 k) ?_
        refine ev_s (fun Q k => rn_iload_n (j := 1) 0 rfl rfl dX5_obeyOrder_182 k) ?_
        refine ev_s (fun Q k => rn_aload_n (j := 0) 1 rfl rfl (okO_0 ok_18) dX5_obeyOrder_183 k) ?_
        refine ev_s (fun Q k => rn_getr (q := 311) f_X5_37 ok_18.1 ok_18.2.1 (okO_1 ok_18) rfl rfl dX5_obeyOrder_184 k) ?_
        refine ev_s (fun Q k => rn_geti f_X5_184 ok_311.1 ok_311.2.1 (okO_1 ok_311) rfl dX5_obeyOrder_187 k) ?_
        refine ev_s (fun Q k => rn_aload_n (j := 0) 1 rfl rfl (okO_0 ok_18) dX5_obeyOrder_190 k) ?_
        refine ev_s (fun Q k => rn_getr (q := 311) f_X5_37 ok_18.1 ok_18.2.1 (okO_1 ok_18) rfl rfl dX5_obeyOrder_191 k) ?_
        refine ev_s (fun Q k => rn_geti f_X5_187 ok_311.1 ok_311.2.1 (okO_1 ok_311) rfl dX5_obeyOrder_194 k) ?_
        refine ev_bindI (as := [.inr (.inr 19), .inl r1, .inl (D2 311 6), .inl (D2 311 7)]) (fun Q Q1 => rn_callV (as := [.inl r1, .inl (D2 311 6), .inl (D2 311 7)]) (rest := []) (o := 19) m_X5_63 dX5_obeyOrder_197 (rcv_own (oF isF_19).1 (oF isF_19).2.1 (by decide) (okO_1 (oF isF_19))) rfl rfl (Nat.le_of_ble_eq_true rfl)) pl_X0_beginJob (Nat.le_of_ble_eq_true rfl) rfl (e_X0_beginJob l E (d + 2) 19 isF_19 r1 (D2 311 6) (D2 311 7) D2) (fun r13 D14 => ?_)
        exact ev_ret (fun Q q => rn_ret q .int rfl rfl dX5_obeyOrder_200)
      · refine ev_ite (fun c27 => ?_) (fun c28 => ?_)
        · refine ev_s (fun Q k => rn_tswI (off := 121) (tgt := 137) dX5_obeyOrder_16 (by rw [c27]; decide) (by rw [c27]; decide) (by rw [c27]; rfl) (by decide) k) ?_
          refine ev_s (fun Q k => rn_aload_n (j := 0) 1 rfl rfl (okO_0 ok_18) dX5_obeyOrder_137 k) ?_
          refine ev_s (fun Q k => rn_getr (q := 19) f_X5_10 ok_18.1 ok_18.2.1 (okO_1 ok_18) rfl rfl dX5_obeyOrder_138 k) ?_
          refine ev_s (fun Q k => rn_iload_n (j := 1) 0 rfl rfl dX5_obeyOrder_141 k) ?_
          refine ev_s (fun Q k => rn_aload_n (j := 0) 1 rfl rfl (okO_0 ok_18) dX5_obeyOrder_142 k) ?_
          refine ev_s (fun Q k => rn_getr (q := 311) f_X5_37 ok_18.1 ok_18.2.1 (okO_1 ok_18) rfl rfl dX5_obeyOrder_143 k) ?_
          refine ev_s (fun Q k => rn_iconst (v := 1) (by decide) dX5_obeyOrder_146 k) ?_
          refine ev_bindI (as := [.inr (.inr 311), .inl (1 : Int32)]) (fun Q Q1 => rn_callV (as := [.inl (1 : Int32)]) (rest := [.inl r1, .inr (.inr 19)]) (o := 311) m_X5_178 dX5_obeyOrder_147 (rcv_own ok_311.1 ok_311.2.1 (by decide) (okO_1 ok_311)) rfl rfl (Nat.le_of_ble_eq_true rfl)) pl_X3_number (Nat.le_of_ble_eq_true rfl) rfl (e_X3_number l E (d + 5) (1 : Int32) D2) (fun r17 D18 => ?_)
          refine ev_s (fun Q k => rn_aload_n (j := 0) 1 rfl rfl (okO_0 ok_18) dX5_obeyOrder_150 k) ?_
          refine ev_s (fun Q k => rn_getr (q := 311) f_X5_37 ok_18.1 ok_18.2.1 (okO_1 ok_18) rfl rfl dX5_obeyOrder_151 k) ?_
          refine ev_s (fun Q k => rn_iconst (v := 2) (by decide) dX5_obeyOrder_154 k) ?_
          refine ev_bindI (as := [.inr (.inr 311), .inl (2 : Int32)]) (fun Q Q1 => rn_callV (as := [.inl (2 : Int32)]) (rest := [.inl r17, .inl r1, .inr (.inr 19)]) (o := 311) m_X5_178 dX5_obeyOrder_155 (rcv_own ok_311.1 ok_311.2.1 (by decide) (okO_1 ok_311)) rfl rfl (Nat.le_of_ble_eq_true rfl)) pl_X3_number (Nat.le_of_ble_eq_true rfl) rfl (e_X3_number l E (d + 5) (2 : Int32) D18) (fun r19 D20 => ?_)
          refine ev_s (fun Q k => rn_aload_n (j := 0) 1 rfl rfl (okO_0 ok_18) dX5_obeyOrder_158 k) ?_
          refine ev_s (fun Q k => rn_getr (q := 311) f_X5_37 ok_18.1 ok_18.2.1 (okO_1 ok_18) rfl rfl dX5_obeyOrder_159 k) ?_
          refine ev_s (fun Q k => rn_iconst (v := 3) (by decide) dX5_obeyOrder_162 k) ?_
          refine ev_bindI (as := [.inr (.inr 311), .inl (3 : Int32)]) (fun Q Q1 => rn_callV (as := [.inl (3 : Int32)]) (rest := [.inl r19, .inl r17, .inl r1, .inr (.inr 19)]) (o := 311) m_X5_178 dX5_obeyOrder_163 (rcv_own ok_311.1 ok_311.2.1 (by decide) (okO_1 ok_311)) rfl rfl (Nat.le_of_ble_eq_true rfl)) pl_X3_number (Nat.le_of_ble_eq_true rfl) rfl (e_X3_number l E (d + 5) (3 : Int32) D20) (fun r21 D22 => ?_)
          refine ev_s (fun Q k => rn_aload_n (j := 0) 1 rfl rfl (okO_0 ok_18) dX5_obeyOrder_166 k) ?_
          refine ev_s (fun Q k => rn_getr (q := 311) f_X5_37 ok_18.1 ok_18.2.1 (okO_1 ok_18) rfl rfl dX5_obeyOrder_167 k) ?_
          refine ev_s (fun Q k => rn_iconst (v := 4) (by decide) dX5_obeyOrder_170 k) ?_
          refine ev_bindI (as := [.inr (.inr 311), .inl (4 : Int32)]) (fun Q Q1 => rn_callV (as := [.inl (4 : Int32)]) (rest := [.inl r21, .inl r19, .inl r17, .inl r1, .inr (.inr 19)]) (o := 311) m_X5_178 dX5_obeyOrder_171 (rcv_own ok_311.1 ok_311.2.1 (by decide) (okO_1 ok_311)) rfl rfl (Nat.le_of_ble_eq_true rfl)) pl_X3_number (Nat.le_of_ble_eq_true rfl) rfl (e_X3_number l E (d + 5) (4 : Int32) D22) (fun r23 D24 => ?_)
          refine ev_bindI (as := [.inr (.inr 19), .inl r1, .inl r17, .inl r19, .inl r21, .inl r23]) (fun Q Q1 => rn_callV (as := [.inl r1, .inl r17, .inl r19, .inl r21, .inl r23]) (rest := []) (o := 19) m_X5_59 dX5_obeyOrder_174 (rcv_own (oF isF_19).1 (oF isF_19).2.1 (by decide) (okO_1 (oF isF_19))) rfl rfl (Nat.le_of_ble_eq_true rfl)) pl_X0_addJob (Nat.le_of_ble_eq_true rfl) rfl (e_X0_addJob l E (d + 4) 19 isF_19 r1 r17 r19 r21 r23 D24) (fun r25 D26 => ?_)
          exact ev_ret (fun Q q => rn_ret q .int rfl rfl dX5_obeyOrder_177)
        · refine ev_ite (fun c31 => ?_) (fun c32 => ?_)
          · refine ev_s (fun Q k => rn_tswI (off := 219) (tgt := 235) dX5_obeyOrder_16 (by rw [c31]; decide) (by rw [c31]; decide) (by rw [c31]; rfl) (by decide) k) ?_
            refine ev_s (fun Q k => rn_aload_n (j := 0) 1 rfl rfl (okO_0 ok_18) dX5_obeyOrder_235 k) ?_
            refine ev_s (fun Q k => rn_getr (q := 19) f_X5_10 ok_18.1 ok_18.2.1 (okO_1 ok_18) rfl rfl dX5_obeyOrder_236 k) ?_
            refine ev_s (fun Q k => rn_iload_n (j := 1) 0 rfl rfl dX5_obeyOrder_239 k) ?_
            refine ev_bindI (as := [.inr (.inr 19), .inl r1]) (fun Q Q1 => rn_callV (as := [.inl r1]) (rest := []) (o := 19) m_X5_77 dX5_obeyOrder_240 (rcv_own (oF isF_19).1 (oF isF_19).2.1 (by decide) (okO_1 (oF isF_19))) rfl rfl (Nat.le_of_ble_eq_true rfl)) pl_X0_passHours (Nat.le_of_ble_eq_true rfl) rfl (e_X0_passHours l E d 19 isF_19 r1 D2) (fun r29 D30 => ?_)
            exact ev_ret (fun Q q => rn_ret q .int rfl rfl dX5_obeyOrder_243)
          · refine ev_ite (fun c35 => ?_) (fun c36 => ?_)
            · refine ev_s (fun Q k => rn_tswI (off := 112) (tgt := 128) dX5_obeyOrder_16 (by rw [c35]; decide) (by rw [c35]; decide) (by rw [c35]; rfl) (by decide) k) ?_
              refine ev_s (fun Q k => rn_aload_n (j := 0) 1 rfl rfl (okO_0 ok_18) dX5_obeyOrder_128 k) ?_
              refine ev_s (fun Q k => rn_getr (q := 19) f_X5_10 ok_18.1 ok_18.2.1 (okO_1 ok_18) rfl rfl dX5_obeyOrder_129 k) ?_
              refine ev_s (fun Q k => rn_iload_n (j := 1) 0 rfl rfl dX5_obeyOrder_132 k) ?_
              refine ev_bindI (as := [.inr (.inr 19), .inl r1]) (fun Q Q1 => rn_callV (as := [.inl r1]) (rest := []) (o := 19) m_X5_53 dX5_obeyOrder_133 (rcv_own (oF isF_19).1 (oF isF_19).2.1 (by decide) (okO_1 (oF isF_19))) rfl rfl (Nat.le_of_ble_eq_true rfl)) pl_X0_addPerson (Nat.le_of_ble_eq_true rfl) rfl (e_X0_addPerson l E (d + 4) 19 isF_19 r1 D2) (fun r33 D34 => ?_)
              exact ev_ret (fun Q q => rn_ret q .int rfl rfl dX5_obeyOrder_136)
            · refine ev_ite (fun c39 => ?_) (fun c40 => ?_)
              · refine ev_s (fun Q k => rn_tswI (off := 202) (tgt := 218) dX5_obeyOrder_16 (by rw [c39]; decide) (by rw [c39]; decide) (by rw [c39]; rfl) (by decide) k) ?_
                refine ev_s (fun Q k => rn_aload_n (j := 0) 1 rfl rfl (okO_0 ok_18) dX5_obeyOrder_218 k) ?_
                refine ev_s (fun Q k => rn_getr (q := 19) f_X5_10 ok_18.1 ok_18.2.1 (okO_1 ok_18) rfl rfl dX5_obeyOrder_219 k) ?_
                refine ev_s (fun Q k => rn_iload_n (j := 1) 0 rfl rfl dX5_obeyOrder_222 k) ?_
                refine ev_bindI (as := [.inr (.inr 19), .inl r1]) (fun Q Q1 => rn_callV (as := [.inl r1]) (rest := []) (o := 19) m_X5_74 dX5_obeyOrder_223 (rcv_own (oF isF_19).1 (oF isF_19).2.1 (by decide) (okO_1 (oF isF_19))) rfl rfl (Nat.le_of_ble_eq_true rfl)) pl_X0_callOffJob (Nat.le_of_ble_eq_true rfl) rfl (e_X0_callOffJob l E (d + 2) 19 isF_19 r1 D2) (fun r37 D38 => ?_)
                exact ev_ret (fun Q q => rn_ret q .int rfl rfl dX5_obeyOrder_226)
              · by_cases cg41 : (D2 311 5) = (98 : Int32)
                · refine ev_s (fun Q k => rn_tswI (off := 228) (tgt := 244) dX5_obeyOrder_16 (by rw [cg41]; decide) (by rw [cg41]; decide) (by rw [cg41]; rfl) (by decide) k) ?_
                  refine ev_s (fun Q k => rn_bipush (v := -3) (by decide) dX5_obeyOrder_244 k) ?_
                  exact ev_ret (fun Q q => rn_ret q .int rfl rfl dX5_obeyOrder_246)
                · by_cases cg42 : (D2 311 5) = (99 : Int32)
                  · refine ev_s (fun Q k => rn_tswI (off := 228) (tgt := 244) dX5_obeyOrder_16 (by rw [cg42]; decide) (by rw [cg42]; decide) (by rw [cg42]; rfl) (by decide) k) ?_
                    refine ev_s (fun Q k => rn_bipush (v := -3) (by decide) dX5_obeyOrder_244 k) ?_
                    exact ev_ret (fun Q q => rn_ret q .int rfl rfl dX5_obeyOrder_246)
                  · by_cases cg43 : (D2 311 5) = (101 : Int32)
                    · refine ev_s (fun Q k => rn_tswI (off := 228) (tgt := 244) dX5_obeyOrder_16 (by rw [cg43]; decide) (by rw [cg43]; decide) (by rw [cg43]; rfl) (by decide) k) ?_
                      refine ev_s (fun Q k => rn_bipush (v := -3) (by decide) dX5_obeyOrder_244 k) ?_
                      exact ev_ret (fun Q q => rn_ret q .int rfl rfl dX5_obeyOrder_246)
                    · by_cases cg44 : (D2 311 5) = (102 : Int32)
                      · refine ev_s (fun Q k => rn_tswI (off := 228) (tgt := 244) dX5_obeyOrder_16 (by rw [cg44]; decide) (by rw [cg44]; decide) (by rw [cg44]; rfl) (by decide) k) ?_
                        refine ev_s (fun Q k => rn_bipush (v := -3) (by decide) dX5_obeyOrder_244 k) ?_
                        exact ev_ret (fun Q q => rn_ret q .int rfl rfl dX5_obeyOrder_246)
                      · by_cases cg45 : (D2 311 5) = (104 : Int32)
                        · refine ev_s (fun Q k => rn_tswI (off := 228) (tgt := 244) dX5_obeyOrder_16 (by rw [cg45]; decide) (by rw [cg45]; decide) (by rw [cg45]; rfl) (by decide) k) ?_
                          refine ev_s (fun Q k => rn_bipush (v := -3) (by decide) dX5_obeyOrder_244 k) ?_
                          exact ev_ret (fun Q q => rn_ret q .int rfl rfl dX5_obeyOrder_246)
                        · by_cases cg46 : (D2 311 5) = (105 : Int32)
                          · refine ev_s (fun Q k => rn_tswI (off := 228) (tgt := 244) dX5_obeyOrder_16 (by rw [cg46]; decide) (by rw [cg46]; decide) (by rw [cg46]; rfl) (by decide) k) ?_
                            refine ev_s (fun Q k => rn_bipush (v := -3) (by decide) dX5_obeyOrder_244 k) ?_
                            exact ev_ret (fun Q q => rn_ret q .int rfl rfl dX5_obeyOrder_246)
                          · by_cases cg47 : (D2 311 5) = (107 : Int32)
                            · refine ev_s (fun Q k => rn_tswI (off := 228) (tgt := 244) dX5_obeyOrder_16 (by rw [cg47]; decide) (by rw [cg47]; decide) (by rw [cg47]; rfl) (by decide) k) ?_
                              refine ev_s (fun Q k => rn_bipush (v := -3) (by decide) dX5_obeyOrder_244 k) ?_
                              exact ev_ret (fun Q q => rn_ret q .int rfl rfl dX5_obeyOrder_246)
                            · by_cases cg48 : (D2 311 5) = (108 : Int32)
                              · refine ev_s (fun Q k => rn_tswI (off := 228) (tgt := 244) dX5_obeyOrder_16 (by rw [cg48]; decide) (by rw [cg48]; decide) (by rw [cg48]; rfl) (by decide) k) ?_
                                refine ev_s (fun Q k => rn_bipush (v := -3) (by decide) dX5_obeyOrder_244 k) ?_
                                exact ev_ret (fun Q q => rn_ret q .int rfl rfl dX5_obeyOrder_246)
                              · by_cases cg49 : (D2 311 5) = (109 : Int32)
                                · refine ev_s (fun Q k => rn_tswI (off := 228) (tgt := 244) dX5_obeyOrder_16 (by rw [cg49]; decide) (by rw [cg49]; decide) (by rw [cg49]; rfl) (by decide) k) ?_
                                  refine ev_s (fun Q k => rn_bipush (v := -3) (by decide) dX5_obeyOrder_244 k) ?_
                                  exact ev_ret (fun Q q => rn_ret q .int rfl rfl dX5_obeyOrder_246)
                                · by_cases cg50 : (D2 311 5) = (111 : Int32)
                                  · refine ev_s (fun Q k => rn_tswI (off := 228) (tgt := 244) dX5_obeyOrder_16 (by rw [cg50]; decide) (by rw [cg50]; decide) (by rw [cg50]; rfl) (by decide) k) ?_
                                    refine ev_s (fun Q k => rn_bipush (v := -3) (by decide) dX5_obeyOrder_244 k) ?_
                                    exact ev_ret (fun Q q => rn_ret q .int rfl rfl dX5_obeyOrder_246)
                                  · by_cases cg51 : (D2 311 5) = (112 : Int32)
                                    · refine ev_s (fun Q k => rn_tswI (off := 228) (tgt := 244) dX5_obeyOrder_16 (by rw [cg51]; decide) (by rw [cg51]; decide) (by rw [cg51]; rfl) (by decide) k) ?_
                                      refine ev_s (fun Q k => rn_bipush (v := -3) (by decide) dX5_obeyOrder_244 k) ?_
                                      exact ev_ret (fun Q q => rn_ret q .int rfl rfl dX5_obeyOrder_246)
                                    · by_cases cg52 : (D2 311 5) = (113 : Int32)
                                      · refine ev_s (fun Q k => rn_tswI (off := 228) (tgt := 244) dX5_obeyOrder_16 (by rw [cg52]; decide) (by rw [cg52]; decide) (by rw [cg52]; rfl) (by decide) k) ?_
                                        refine ev_s (fun Q k => rn_bipush (v := -3) (by decide) dX5_obeyOrder_244 k) ?_
                                        exact ev_ret (fun Q q => rn_ret q .int rfl rfl dX5_obeyOrder_246)
                                      · by_cases cg53 : (D2 311 5) = (114 : Int32)
                                        · refine ev_s (fun Q k => rn_tswI (off := 228) (tgt := 244) dX5_obeyOrder_16 (by rw [cg53]; decide) (by rw [cg53]; decide) (by rw [cg53]; rfl) (by decide) k) ?_
                                          refine ev_s (fun Q k => rn_bipush (v := -3) (by decide) dX5_obeyOrder_244 k) ?_
                                          exact ev_ret (fun Q q => rn_ret q .int rfl rfl dX5_obeyOrder_246)
                                        · by_cases cg54 : (D2 311 5) = (115 : Int32)
                                          · refine ev_s (fun Q k => rn_tswI (off := 228) (tgt := 244) dX5_obeyOrder_16 (by rw [cg54]; decide) (by rw [cg54]; decide) (by rw [cg54]; rfl) (by decide) k) ?_
                                            refine ev_s (fun Q k => rn_bipush (v := -3) (by decide) dX5_obeyOrder_244 k) ?_
                                            exact ev_ret (fun Q q => rn_ret q .int rfl rfl dX5_obeyOrder_246)
                                          · by_cases cg55 : (D2 311 5) = (116 : Int32)
                                            · refine ev_s (fun Q k => rn_tswI (off := 228) (tgt := 244) dX5_obeyOrder_16 (by rw [cg55]; decide) (by rw [cg55]; decide) (by rw [cg55]; rfl) (by decide) k) ?_
                                              refine ev_s (fun Q k => rn_bipush (v := -3) (by decide) dX5_obeyOrder_244 k) ?_
                                              exact ev_ret (fun Q q => rn_ret q .int rfl rfl dX5_obeyOrder_246)
                                            · by_cases cg56 : (D2 311 5) = (117 : Int32)
                                              · refine ev_s (fun Q k => rn_tswI (off := 228) (tgt := 244) dX5_obeyOrder_16 (by rw [cg56]; decide) (by rw [cg56]; decide) (by rw [cg56]; rfl) (by decide) k) ?_
                                                refine ev_s (fun Q k => rn_bipush (v := -3) (by decide) dX5_obeyOrder_244 k) ?_
                                                exact ev_ret (fun Q q => rn_ret q .int rfl rfl dX5_obeyOrder_246)
                                              · by_cases cg57 : (D2 311 5) = (118 : Int32)
                                                · refine ev_s (fun Q k => rn_tswI (off := 228) (tgt := 244) dX5_obeyOrder_16 (by rw [cg57]; decide) (by rw [cg57]; decide) (by rw [cg57]; rfl) (by decide) k) ?_
                                                  refine ev_s (fun Q k => rn_bipush (v := -3) (by decide) dX5_obeyOrder_244 k) ?_
                                                  exact ev_ret (fun Q q => rn_ret q .int rfl rfl dX5_obeyOrder_246)
                                                · have z0 := lv_neT (k := 97) (a := 97) c6 (by decide)
                                                  have z1 := lv_neT (k := 100) (a := 100) c12 (by decide)
                                                  have z2 := lv_neT (k := 103) (a := 103) c16 (by decide)
                                                  have z3 := lv_neT (k := 106) (a := 106) c28 (by decide)
                                                  have z4 := lv_neT (k := 110) (a := 110) c32 (by decide)
                                                  have z5 := lv_neT (k := 119) (a := 119) c36 (by decide)
                                                  have z6 := lv_neT (k := 120) (a := 120) c40 (by decide)
                                                  have z7 := lv_neT (k := 98) (a := 98) cg41 (by decide)
                                                  have z8 := lv_neT (k := 99) (a := 99) cg42 (by decide)
                                                  have z9 := lv_neT (k := 101) (a := 101) cg43 (by decide)
                                                  have z10 := lv_neT (k := 102) (a := 102) cg44 (by decide)
                                                  have z11 := lv_neT (k := 104) (a := 104) cg45 (by decide)
                                                  have z12 := lv_neT (k := 105) (a := 105) cg46 (by decide)
                                                  have z13 := lv_neT (k := 107) (a := 107) cg47 (by decide)
                                                  have z14 := lv_neT (k := 108) (a := 108) cg48 (by decide)
                                                  have z15 := lv_neT (k := 109) (a := 109) cg49 (by decide)
                                                  have z16 := lv_neT (k := 111) (a := 111) cg50 (by decide)
                                                  have z17 := lv_neT (k := 112) (a := 112) cg51 (by decide)
                                                  have z18 := lv_neT (k := 113) (a := 113) cg52 (by decide)
                                                  have z19 := lv_neT (k := 114) (a := 114) cg53 (by decide)
                                                  have z20 := lv_neT (k := 115) (a := 115) cg54 (by decide)
                                                  have z21 := lv_neT (k := 116) (a := 116) cg55 (by decide)
                                                  have z22 := lv_neT (k := 117) (a := 117) cg56 (by decide)
                                                  have z23 := lv_neT (k := 118) (a := 118) cg57 (by decide)
                                                  refine ev_s (fun Q k => rn_tswO (tgt := 244) dX5_obeyOrder_16 (by omega) (by decide) k) ?_
                                                  refine ev_s (fun Q k => rn_bipush (v := -3) (by decide) dX5_obeyOrder_244 k) ?_
                                                  exact ev_ret (fun Q q => rn_ret q .int rfl rfl dX5_obeyOrder_246)

def F_X5_carryOut_74   (v1 : Int32) (D : dT) : Option (Int32 × dT) := bd (F_X3_empty  D) (fun (r1 : Int32) (D2 : dT) => bd (F_X1_keepUnlessError v1 D2) (fun (r3 : Int32) (D4 : dT) => some (r3, D4)))
def F_X5_carryOut_35 (fuel : Nat)   (v1 : Int32) (D : dT) : Option (Int32 × dT) := match fuel with
  | 0 => none
  | fu + 1 => if (80 : Int32) < v1 then F_X5_carryOut_74 v1 D else bd (F_X3_readOrder  D) (fun (r1 : Int32) (D2 : dT) => if r1 = 0 then F_X5_carryOut_74 v1 D2 else bd (F_X5_obeyOrder  D2) (fun (r3 : Int32) (D4 : dT) => if r3 < 0 then F_X5_carryOut_74 v1 D4 else bd (F_X3_skip (59 : Int32) D4) (fun (r5 : Int32) (D6 : dT) => F_X5_carryOut_35 fu (v1 + (1 : Int32)) D6)))
def F_X5_carryOut  (D : dT) : Option (Int32 × dT) := bd (F_X3_findFault  D) (fun (r1 : Int32) (D2 : dT) => if r1 = (-6 : Int32) then bd (F_X1_note 19 D2) (fun (r3 : Int32) (D4 : dT) => bd (F_X3_startReading  D4) (fun (r5 : Int32) (D6 : dT) => F_X5_carryOut_35 lim (0 : Int32) D6)) else some ((-3 : Int32), D2))
set_option maxRecDepth 20000 in
theorem e_X5_carryOut_74 (l : Launch) (E : eE) (d : Nat)   (v1 : Int32) (D : dT) : ev l E (d + 7) yX5_carryOut cX5_carryOut 2 (some .int) 74 [(0, .inr (.inr 18)), (1, .inl v1)] [] D eI (F_X5_carryOut_74 v1 D) := by
  unfold F_X5_carryOut_74
  refine ev_s (fun Q k => rn_aload_n (j := 0) 0 rfl rfl (okO_0 ok_18) dX5_carryOut_74 k) ?_
  refine ev_s (fun Q k => rn_getr (q := 311) f_X5_37 ok_18.1 ok_18.2.1 (okO_1 ok_18) rfl rfl dX5_carryOut_75 k) ?_
  refine ev_bindI (as := [.inr (.inr 311)]) (fun Q Q1 => rn_callV (as := []) (rest := []) (o := 311) m_X5_159 dX5_carryOut_78 (rcv_own ok_311.1 ok_311.2.1 (by decide) (okO_1 ok_311)) rfl rfl (Nat.le_of_ble_eq_true rfl)) pl_X3_empty (Nat.le_of_ble_eq_true rfl) rfl (e_X3_empty l E (d + 6)  D) (fun r1 D2 => ?_)
  refine ev_s (fun Q k => rn_pop rfl dX5_carryOut_81 k) ?_
  refine ev_s (fun Q k => rn_aload_n (j := 0) 0 rfl rfl (okO_0 ok_18) dX5_carryOut_82 k) ?_
  refine ev_s (fun Q k => rn_getr (q := 85) f_X5_30 ok_18.1 ok_18.2.1 (okO_1 ok_18) rfl rfl dX5_carryOut_83 k) ?_
  refine ev_s (fun Q k => rn_iload_n (j := 1) 1 rfl rfl dX5_carryOut_86 k) ?_
  refine ev_bindI (as := [.inr (.inr 85), .inl v1]) (fun Q Q1 => rn_callV (as := [.inl v1]) (rest := []) (o := 85) m_X5_49 dX5_carryOut_87 (rcv_own ok_85.1 ok_85.2.1 (by decide) (okO_1 ok_85)) rfl rfl (Nat.le_of_ble_eq_true rfl)) pl_X1_keepUnlessError (Nat.le_of_ble_eq_true rfl) rfl (e_X1_keepUnlessError l E (d + 4) v1 D2) (fun r3 D4 => ?_)
  exact ev_ret (fun Q q => rn_ret q .int rfl rfl dX5_carryOut_90)

set_option maxRecDepth 20000 in
theorem e_X5_carryOut_35 (l : Launch) (E : eE) (d : Nat)   (fuel : Nat) : ∀ (v1 : Int32) (D : dT), ev l E (d + 7) yX5_carryOut cX5_carryOut 2 (some .int) 35 [(0, .inr (.inr 18)), (1, .inl v1)] [] D eI (F_X5_carryOut_35 fuel v1 D) := by
  induction fuel with
  | zero =>
    intro v1 D
    exact ev_none
  | succ fu ih =>
    intro v1 D
    rw [F_X5_carryOut_35]
    refine ev_s (fun Q k => rn_iload_n (j := 1) 1 rfl rfl dX5_carryOut_35 k) ?_
    refine ev_s (fun Q k => rn_bipush (v := 80) (by decide) dX5_carryOut_36 k) ?_
    refine ev_if (fun Q => rn_icmp_gt (tgt := 74) dX5_carryOut_38 (by decide)) (fun c11 => ?_) (fun c12 => ?_)
    · exact e_X5_carryOut_74 l E d    v1 D
    · refine ev_s (fun Q k => rn_aload_n (j := 0) 0 rfl rfl (okO_0 ok_18) dX5_carryOut_41 k) ?_
      refine ev_s (fun Q k => rn_getr (q := 311) f_X5_37 ok_18.1 ok_18.2.1 (okO_1 ok_18) rfl rfl dX5_carryOut_42 k) ?_
      refine ev_bindI (as := [.inr (.inr 311)]) (fun Q Q1 => rn_callV (as := []) (rest := []) (o := 311) m_X5_168 dX5_carryOut_45 (rcv_own ok_311.1 ok_311.2.1 (by decide) (okO_1 ok_311)) rfl rfl (Nat.le_of_ble_eq_true rfl)) pl_X3_readOrder (Nat.le_of_ble_eq_true rfl) rfl (e_X3_readOrder l E (d + 1)  D) (fun r1 D2 => ?_)
      refine ev_if (fun Q => rn_if_eq (tgt := 74) dX5_carryOut_48 (by decide)) (fun c9 => ?_) (fun c10 => ?_)
      · exact e_X5_carryOut_74 l E d    v1 D2
      · refine ev_s (fun Q k => rn_aload_n (j := 0) 0 rfl rfl (okO_0 ok_18) dX5_carryOut_51 k) ?_
        refine ev_bindI (as := [.inr (.inr 18)]) (fun Q Q1 => rn_callV (as := []) (rest := []) (o := 18) m_X5_172 dX5_carryOut_52 (rcv_own ok_18.1 ok_18.2.1 (by decide) (okO_1 ok_18)) rfl rfl (Nat.le_of_ble_eq_true rfl)) pl_X5_obeyOrder (Nat.le_of_ble_eq_true rfl) rfl (e_X5_obeyOrder l E d  D2) (fun r3 D4 => ?_)
        refine ev_if (fun Q => rn_if_lt (tgt := 74) dX5_carryOut_55 (by decide)) (fun c7 => ?_) (fun c8 => ?_)
        · exact e_X5_carryOut_74 l E d    v1 D4
        · refine ev_s (fun Q k => rn_iinc (v := (v1 + (1 : Int32))) (ls' := [(1, .inl (v1 + (1 : Int32))), (0, .inr (.inr 18))]) 1 rfl rfl (by decide) rfl dX5_carryOut_58 k) ?_
          refine ev_s (fun Q k => rn_aload_n (j := 0) 1 rfl rfl (okO_0 ok_18) dX5_carryOut_61 k) ?_
          refine ev_s (fun Q k => rn_getr (q := 311) f_X5_37 ok_18.1 ok_18.2.1 (okO_1 ok_18) rfl rfl dX5_carryOut_62 k) ?_
          refine ev_s (fun Q k => rn_bipush (v := 59) (by decide) dX5_carryOut_65 k) ?_
          refine ev_bindI (as := [.inr (.inr 311), .inl (59 : Int32)]) (fun Q Q1 => rn_callV (as := [.inl (59 : Int32)]) (rest := []) (o := 311) m_X5_175 dX5_carryOut_67 (rcv_own ok_311.1 ok_311.2.1 (by decide) (okO_1 ok_311)) rfl rfl (Nat.le_of_ble_eq_true rfl)) pl_X3_skip (Nat.le_of_ble_eq_true rfl) rfl (e_X3_skip l E (d + 5) (59 : Int32) D4) (fun r5 D6 => ?_)
          refine ev_s (fun Q k => rn_pop rfl dX5_carryOut_70 k) ?_
          refine ev_s (fun Q k => rn_goto (tgt := 35) dX5_carryOut_71 (by decide) k) ?_
          refine ev_s (fun Q k => rn_sub (ls' := [(0, .inr (.inr 18)), (1, .inl (v1 + (1 : Int32)))]) [1, 0] rfl k) ?_
          exact ih (v1 + (1 : Int32)) D6

set_option maxRecDepth 20000 in
theorem e_X5_carryOut (l : Launch) (E : eE) (d : Nat)  (D : dT) : ev l E (d + 7) yX5_carryOut cX5_carryOut 2 (some .int) 0 [(0, .inr (.inr 18))] [] D eI (F_X5_carryOut D) := by
  unfold F_X5_carryOut
  refine ev_s (fun Q k => rn_aload_n (j := 0) 0 rfl rfl (okO_0 ok_18) dX5_carryOut_0 k) ?_
  refine ev_s (fun Q k => rn_getr (q := 311) f_X5_37 ok_18.1 ok_18.2.1 (okO_1 ok_18) rfl rfl dX5_carryOut_1 k) ?_
  refine ev_bindI (as := [.inr (.inr 311)]) (fun Q Q1 => rn_callV (as := []) (rest := []) (o := 311) m_X5_162 dX5_carryOut_4 (rcv_own ok_311.1 ok_311.2.1 (by decide) (okO_1 ok_311)) rfl rfl (Nat.le_of_ble_eq_true rfl)) pl_X3_findFault (Nat.le_of_ble_eq_true rfl) rfl (e_X3_findFault l E d  D) (fun r1 D2 => ?_)
  refine ev_s (fun Q k => rn_bipush (v := -6) (by decide) dX5_carryOut_7 k) ?_
  refine ev_if (fun Q => rn_icmp_eq (tgt := 15) dX5_carryOut_9 (by decide)) (fun c7 => ?_) (fun c8 => ?_)
  · refine ev_s (fun Q k => rn_aload_n (j := 0) 0 rfl rfl (okO_0 ok_18) dX5_carryOut_15 k) ?_
    refine ev_s (fun Q k => rn_getr (q := 85) f_X5_30 ok_18.1 ok_18.2.1 (okO_1 ok_18) rfl rfl dX5_carryOut_16 k) ?_
    refine ev_s (fun Q k => rn_aload_n (j := 0) 0 rfl rfl (okO_0 ok_18) dX5_carryOut_19 k) ?_
    refine ev_s (fun Q k => rn_getr (q := 19) f_X5_10 ok_18.1 ok_18.2.1 (okO_1 ok_18) rfl rfl dX5_carryOut_20 k) ?_
    refine ev_bindU (as := [.inr (.inr 85), .inr (.inr 19)]) (fun Q Q1 => rn_callV (as := [.inr (.inr 19)]) (rest := []) (o := 85) m_X5_41 dX5_carryOut_23 (rcv_own ok_85.1 ok_85.2.1 (by decide) (okO_1 ok_85)) rfl rfl (Nat.le_of_ble_eq_true rfl)) pl_X1_note (Nat.le_of_ble_eq_true rfl) rfl (e_X1_note l E (d + 4) 19 isF_19 D2) (fun r3 D4 => ?_)
    refine ev_s (fun Q k => rn_aload_n (j := 0) 0 rfl rfl (okO_0 ok_18) dX5_carryOut_26 k) ?_
    refine ev_s (fun Q k => rn_getr (q := 311) f_X5_37 ok_18.1 ok_18.2.1 (okO_1 ok_18) rfl rfl dX5_carryOut_27 k) ?_
    refine ev_bindU (as := [.inr (.inr 311)]) (fun Q Q1 => rn_callV (as := []) (rest := []) (o := 311) m_X5_165 dX5_carryOut_30 (rcv_own ok_311.1 ok_311.2.1 (by decide) (okO_1 ok_311)) rfl rfl (Nat.le_of_ble_eq_true rfl)) pl_X3_startReading (Nat.le_of_ble_eq_true rfl) rfl (e_X3_startReading l E (d + 6)  D4) (fun r5 D6 => ?_)
    refine ev_s (fun Q k => rn_iconst (v := 0) (by decide) dX5_carryOut_33 k) ?_
    refine ev_s (fun Q k => rn_istore_n (j := 1) (ls' := [(1, .inl (0 : Int32)), (0, .inr (.inr 18))]) rfl (by decide) rfl dX5_carryOut_34 k) ?_
    refine ev_s (fun Q k => rn_sub (ls' := [(0, .inr (.inr 18)), (1, .inl (0 : Int32))]) [1, 0] rfl k) ?_
    exact e_X5_carryOut_35 l E d   lim (0 : Int32) D6
  · refine ev_s (fun Q k => rn_bipush (v := -3) (by decide) dX5_carryOut_12 k) ?_
    exact ev_ret (fun Q q => rn_ret q .int rfl rfl dX5_carryOut_14)

def F_X1_takeBack (B1 : Nat) (D : dT) : Option (Int32 × dT) := if 0 < (D 85 2) then bd (F_X1_row ((up2 D 85 2 ((D 85 2) - (1 : Int32))) 85 2) (up2 D 85 2 ((D 85 2) - (1 : Int32)))) (fun (r1 : Int32) (D2 : dT) => if inR r1 7 then bd (F_X0_copyFrom B1 (87 + 32 * r1.toNatClampNeg) D2) (fun (r4 : Int32) (D5 : dT) => some ((D5 85 2), D5)) else none) else some ((-5 : Int32), D)
set_option maxRecDepth 20000 in
theorem e_X1_takeBack (l : Launch) (E : eE) (d : Nat) (B1 : Nat) (hB1 : isF B1) (D : dT) : ev l E (d + 2) yX1_takeBack cX1_takeBack 2 (some .int) 0 [(0, .inr (.inr 85)), (1, .inr (.inr B1))] [] D eI (F_X1_takeBack B1 D) := by
  unfold F_X1_takeBack
  refine ev_s (fun Q k => rn_aload_n (j := 0) 0 rfl rfl (okO_0 ok_85) dX1_takeBack_0 k) ?_
  refine ev_s (fun Q k => rn_geti f_X1_18 ok_85.1 ok_85.2.1 (okO_1 ok_85) rfl dX1_takeBack_1 k) ?_
  refine ev_if (fun Q => rn_if_gt (tgt := 10) dX1_takeBack_4 (by decide)) (fun c6 => ?_) (fun c7 => ?_)
  · refine ev_s (fun Q k => rn_aload_n (j := 0) 0 rfl rfl (okO_0 ok_85) dX1_takeBack_10 k) ?_
    refine ev_s (fun Q k => rn_dup rfl dX1_takeBack_11 k) ?_
    refine ev_s (fun Q k => rn_geti f_X1_18 ok_85.1 ok_85.2.1 (okO_1 ok_85) rfl dX1_takeBack_12 k) ?_
    refine ev_s (fun Q k => rn_iconst (v := 1) (by decide) dX1_takeBack_15 k) ?_
    refine ev_s (fun Q k => rn_isub dX1_takeBack_16 k) ?_
    refine ev_s (fun Q k => rn_puti f_X1_18 ok_85.1 ok_85.2.1 (okO_1 ok_85) rfl rfl rfl rfl dX1_takeBack_17 k) ?_
    refine ev_s (fun Q k => rn_aload_n (j := 1) 1 rfl rfl (okO_0 (oF hB1)) dX1_takeBack_20 k) ?_
    refine ev_s (fun Q k => rn_aload_n (j := 0) 0 rfl rfl (okO_0 ok_85) dX1_takeBack_21 k) ?_
    refine ev_s (fun Q k => rn_getr (q := 86) f_X1_13 ok_85.1 ok_85.2.1 (okO_1 ok_85) rfl rfl dX1_takeBack_22 k) ?_
    refine ev_s (fun Q k => rn_aload_n (j := 0) 0 rfl rfl (okO_0 ok_85) dX1_takeBack_25 k) ?_
    refine ev_s (fun Q k => rn_aload_n (j := 0) 0 rfl rfl (okO_0 ok_85) dX1_takeBack_26 k) ?_
    refine ev_s (fun Q k => rn_geti f_X1_18 ok_85.1 ok_85.2.1 (okO_1 ok_85) rfl dX1_takeBack_27 k) ?_
    refine ev_bindI (as := [.inr (.inr 85), .inl ((up2 D 85 2 ((D 85 2) - (1 : Int32))) 85 2)]) (fun Q Q1 => rn_callV (as := [.inl ((up2 D 85 2 ((D 85 2) - (1 : Int32))) 85 2)]) (rest := [.inr (.inr 86), .inr (.inr B1)]) (o := 85) m_X1_22 dX1_takeBack_30 (rcv_own ok_85.1 ok_85.2.1 (by decide) (okO_1 ok_85)) rfl rfl (Nat.le_of_ble_eq_true rfl)) pl_X1_row (Nat.le_of_ble_eq_true rfl) rfl (e_X1_row l E d ((up2 D 85 2 ((D 85 2) - (1 : Int32))) 85 2) (up2 D 85 2 ((D 85 2) - (1 : Int32)))) (fun r1 D2 => ?_)
    refine ev_gd (fun g3 => ?_)
    refine ev_s (fun Q k => rn_aald (q := (87 + 32 * r1.toNatClampNeg)) ok_86.1 ok_86.2.1 (by decide) (by decide) ok_86.2.2 (inR_vp g3) (rHi g3.2) dX1_takeBack_33 k) ?_
    refine ev_bindU (as := [.inr (.inr B1), .inr (.inr (87 + 32 * r1.toNatClampNeg))]) (fun Q Q1 => rn_callV (as := [.inr (.inr (87 + 32 * r1.toNatClampNeg))]) (rest := []) (o := B1) m_X1_26 dX1_takeBack_34 (rcv_own (oF hB1).1 (oF hB1).2.1 (by decide) (okO_1 (oF hB1))) rfl rfl (Nat.le_of_ble_eq_true rfl)) pl_X0_copyFrom (Nat.le_of_ble_eq_true rfl) rfl (e_X0_copyFrom l E d B1 hB1 (87 + 32 * r1.toNatClampNeg) (fHi g3.2) D2) (fun r4 D5 => ?_)
    refine ev_s (fun Q k => rn_aload_n (j := 0) 0 rfl rfl (okO_0 ok_85) dX1_takeBack_37 k) ?_
    refine ev_s (fun Q k => rn_geti f_X1_18 ok_85.1 ok_85.2.1 (okO_1 ok_85) rfl dX1_takeBack_38 k) ?_
    exact ev_ret (fun Q q => rn_ret q .int rfl rfl dX1_takeBack_41)
  · refine ev_s (fun Q k => rn_bipush (v := -5) (by decide) dX1_takeBack_7 k) ?_
    exact ev_ret (fun Q q => rn_ret q .int rfl rfl dX1_takeBack_9)

