def F_L_law_18 (fuel : Nat) (sL : Nat) (sX : Nat → Int32)  (v3 : Int32) (D : dT) : Option (Int32 × dT) := match fuel with
  | 0 => none
  | fu + 1 => if ((Int32.ofNat sL) - (6 : Int32)) < v3 then some ((1 : Int32), D) else if inR v3 sL then if ((sX v3.toNatClampNeg) &&& (31 : Int32)) = (0 : Int32) then if inR (v3 + (1 : Int32)) sL then if inR (v3 + (2 : Int32)) sL then bd (F_X5_set (sX (v3 + (1 : Int32)).toNatClampNeg) (sX (v3 + (2 : Int32)).toNatClampNeg) D) (fun (r4 : Int32) (D5 : dT) => if inR (v3 + (1 : Int32)) sL then if inR (v3 + (2 : Int32)) sL then bd (F_X6_set (sX (v3 + (1 : Int32)).toNatClampNeg) (sX (v3 + (2 : Int32)).toNatClampNeg) D5) (fun (r8 : Int32) (D9 : dT) => if r4 = r8 then F_L_law_18 fu sL sX (v3 + (6 : Int32)) D9 else some ((0 : Int32), D9)) else none else none) else none else none else if ((sX v3.toNatClampNeg) &&& (31 : Int32)) = (1 : Int32) then if inR (v3 + (1 : Int32)) sL then bd (F_X5_person (sX (v3 + (1 : Int32)).toNatClampNeg) D) (fun (r15 : Int32) (D16 : dT) => if inR (v3 + (1 : Int32)) sL then bd (F_X6_person (sX (v3 + (1 : Int32)).toNatClampNeg) D16) (fun (r18 : Int32) (D19 : dT) => if r15 = r18 then F_L_law_18 fu sL sX (v3 + (6 : Int32)) D19 else some ((0 : Int32), D19)) else none) else none else if ((sX v3.toNatClampNeg) &&& (31 : Int32)) = (2 : Int32) then if inR (v3 + (1 : Int32)) sL then bd (F_X5_buy (sX (v3 + (1 : Int32)).toNatClampNeg) D) (fun (r25 : Int32) (D26 : dT) => if inR (v3 + (1 : Int32)) sL then bd (F_X6_buy (sX (v3 + (1 : Int32)).toNatClampNeg) D26) (fun (r28 : Int32) (D29 : dT) => if r25 = r28 then F_L_law_18 fu sL sX (v3 + (6 : Int32)) D29 else some ((0 : Int32), D29)) else none) else none else if ((sX v3.toNatClampNeg) &&& (31 : Int32)) = (3 : Int32) then if inR (v3 + (1 : Int32)) sL then if inR (v3 + (2 : Int32)) sL then if inR (v3 + (3 : Int32)) sL then if inR (v3 + (4 : Int32)) sL then if inR (v3 + (5 : Int32)) sL then bd (F_X5_job (sX (v3 + (1 : Int32)).toNatClampNeg) (sX (v3 + (2 : Int32)).toNatClampNeg) (sX (v3 + (3 : Int32)).toNatClampNeg) (sX (v3 + (4 : Int32)).toNatClampNeg) (sX (v3 + (5 : Int32)).toNatClampNeg) D) (fun (r39 : Int32) (D40 : dT) => if inR (v3 + (1 : Int32)) sL then if inR (v3 + (2 : Int32)) sL then if inR (v3 + (3 : Int32)) sL then if inR (v3 + (4 : Int32)) sL then if inR (v3 + (5 : Int32)) sL then bd (F_X6_job (sX (v3 + (1 : Int32)).toNatClampNeg) (sX (v3 + (2 : Int32)).toNatClampNeg) (sX (v3 + (3 : Int32)).toNatClampNeg) (sX (v3 + (4 : Int32)).toNatClampNeg) (sX (v3 + (5 : Int32)).toNatClampNeg) D40) (fun (r46 : Int32) (D47 : dT) => if r39 = r46 then F_L_law_18 fu sL sX (v3 + (6 : Int32)) D47 else some ((0 : Int32), D47)) else none else none else none else none else none) else none else none else none else none else none else if ((sX v3.toNatClampNeg) &&& (31 : Int32)) = (4 : Int32) then if inR (v3 + (1 : Int32)) sL then if inR (v3 + (2 : Int32)) sL then if inR (v3 + (3 : Int32)) sL then bd (F_X5_begin (sX (v3 + (1 : Int32)).toNatClampNeg) (sX (v3 + (2 : Int32)).toNatClampNeg) (sX (v3 + (3 : Int32)).toNatClampNeg) D) (fun (r55 : Int32) (D56 : dT) => if inR (v3 + (1 : Int32)) sL then if inR (v3 + (2 : Int32)) sL then if inR (v3 + (3 : Int32)) sL then bd (F_X6_begin (sX (v3 + (1 : Int32)).toNatClampNeg) (sX (v3 + (2 : Int32)).toNatClampNeg) (sX (v3 + (3 : Int32)).toNatClampNeg) D56) (fun (r60 : Int32) (D61 : dT) => if r55 = r60 then F_L_law_18 fu sL sX (v3 + (6 : Int32)) D61 else some ((0 : Int32), D61)) else none else none else none) else none else none else none else if ((sX v3.toNatClampNeg) &&& (31 : Int32)) = (5 : Int32) then bd (F_X5_assign  D) (fun (r66 : Int32) (D67 : dT) => bd (F_X6_assign  D67) (fun (r68 : Int32) (D69 : dT) => if r66 = r68 then F_L_law_18 fu sL sX (v3 + (6 : Int32)) D69 else some ((0 : Int32), D69))) else if ((sX v3.toNatClampNeg) &&& (31 : Int32)) = (6 : Int32) then if inR (v3 + (1 : Int32)) sL then if inR (v3 + (2 : Int32)) sL then bd (F_X5_delay (sX (v3 + (1 : Int32)).toNatClampNeg) (sX (v3 + (2 : Int32)).toNatClampNeg) D) (fun (r76 : Int32) (D77 : dT) => if inR (v3 + (1 : Int32)) sL then if inR (v3 + (2 : Int32)) sL then bd (F_X6_delay (sX (v3 + (1 : Int32)).toNatClampNeg) (sX (v3 + (2 : Int32)).toNatClampNeg) D77) (fun (r80 : Int32) (D81 : dT) => if r76 = r80 then F_L_law_18 fu sL sX (v3 + (6 : Int32)) D81 else some ((0 : Int32), D81)) else none else none) else none else none else if ((sX v3.toNatClampNeg) &&& (31 : Int32)) = (7 : Int32) then if inR (v3 + (1 : Int32)) sL then bd (F_X5_callOff (sX (v3 + (1 : Int32)).toNatClampNeg) D) (fun (r87 : Int32) (D88 : dT) => if inR (v3 + (1 : Int32)) sL then bd (F_X6_callOff (sX (v3 + (1 : Int32)).toNatClampNeg) D88) (fun (r90 : Int32) (D91 : dT) => if r87 = r90 then F_L_law_18 fu sL sX (v3 + (6 : Int32)) D91 else some ((0 : Int32), D91)) else none) else none else if ((sX v3.toNatClampNeg) &&& (31 : Int32)) = (8 : Int32) then if inR (v3 + (1 : Int32)) sL then bd (F_X5_pass (sX (v3 + (1 : Int32)).toNatClampNeg) D) (fun (r97 : Int32) (D98 : dT) => if inR (v3 + (1 : Int32)) sL then bd (F_X6_pass (sX (v3 + (1 : Int32)).toNatClampNeg) D98) (fun (r100 : Int32) (D101 : dT) => if r97 = r100 then F_L_law_18 fu sL sX (v3 + (6 : Int32)) D101 else some ((0 : Int32), D101)) else none) else none else if ((sX v3.toNatClampNeg) &&& (31 : Int32)) = (9 : Int32) then if inR (v3 + (1 : Int32)) sL then if inR (v3 + (2 : Int32)) sL then bd (F_X5_of (sX (v3 + (1 : Int32)).toNatClampNeg) (sX (v3 + (2 : Int32)).toNatClampNeg) D) (fun (r108 : Int32) (D109 : dT) => if inR (v3 + (1 : Int32)) sL then if inR (v3 + (2 : Int32)) sL then bd (F_X6_of (sX (v3 + (1 : Int32)).toNatClampNeg) (sX (v3 + (2 : Int32)).toNatClampNeg) D109) (fun (r112 : Int32) (D113 : dT) => if r108 = r112 then F_L_law_18 fu sL sX (v3 + (6 : Int32)) D113 else some ((0 : Int32), D113)) else none else none) else none else none else if ((sX v3.toNatClampNeg) &&& (31 : Int32)) = (10 : Int32) then if inR (v3 + (1 : Int32)) sL then if inR (v3 + (2 : Int32)) sL then bd (F_X5_ofJob (sX (v3 + (1 : Int32)).toNatClampNeg) (sX (v3 + (2 : Int32)).toNatClampNeg) D) (fun (r120 : Int32) (D121 : dT) => if inR (v3 + (1 : Int32)) sL then if inR (v3 + (2 : Int32)) sL then bd (F_X6_ofJob (sX (v3 + (1 : Int32)).toNatClampNeg) (sX (v3 + (2 : Int32)).toNatClampNeg) D121) (fun (r124 : Int32) (D125 : dT) => if r120 = r124 then F_L_law_18 fu sL sX (v3 + (6 : Int32)) D125 else some ((0 : Int32), D125)) else none else none) else none else none else if ((sX v3.toNatClampNeg) &&& (31 : Int32)) = (11 : Int32) then if inR (v3 + (1 : Int32)) sL then bd (F_X5_waiting (sX (v3 + (1 : Int32)).toNatClampNeg) D) (fun (r131 : Int32) (D132 : dT) => if inR (v3 + (1 : Int32)) sL then bd (F_X6_waiting (sX (v3 + (1 : Int32)).toNatClampNeg) D132) (fun (r134 : Int32) (D135 : dT) => if r131 = r134 then F_L_law_18 fu sL sX (v3 + (6 : Int32)) D135 else some ((0 : Int32), D135)) else none) else none else if ((sX v3.toNatClampNeg) &&& (31 : Int32)) = (12 : Int32) then if inR (v3 + (1 : Int32)) sL then if inR (v3 + (2 : Int32)) sL then bd (F_X5_straps (sX (v3 + (1 : Int32)).toNatClampNeg) (sX (v3 + (2 : Int32)).toNatClampNeg) D) (fun (r142 : Int32) (D143 : dT) => if inR (v3 + (1 : Int32)) sL then if inR (v3 + (2 : Int32)) sL then bd (F_X6_straps (sX (v3 + (1 : Int32)).toNatClampNeg) (sX (v3 + (2 : Int32)).toNatClampNeg) D143) (fun (r146 : Int32) (D147 : dT) => if r142 = r146 then F_L_law_18 fu sL sX (v3 + (6 : Int32)) D147 else some ((0 : Int32), D147)) else none else none) else none else none else if ((sX v3.toNatClampNeg) &&& (31 : Int32)) = (13 : Int32) then if inR (v3 + (1 : Int32)) sL then bd (F_X5_count (sX (v3 + (1 : Int32)).toNatClampNeg) D) (fun (r153 : Int32) (D154 : dT) => if inR (v3 + (1 : Int32)) sL then bd (F_X6_count (sX (v3 + (1 : Int32)).toNatClampNeg) D154) (fun (r156 : Int32) (D157 : dT) => if r153 = r156 then F_L_law_18 fu sL sX (v3 + (6 : Int32)) D157 else some ((0 : Int32), D157)) else none) else none else if ((sX v3.toNatClampNeg) &&& (31 : Int32)) = (14 : Int32) then if inR (v3 + (1 : Int32)) sL then if inR (v3 + (2 : Int32)) sL then if inR (v3 + (3 : Int32)) sL then bd (F_X5_why (sX (v3 + (1 : Int32)).toNatClampNeg) (sX (v3 + (2 : Int32)).toNatClampNeg) (sX (v3 + (3 : Int32)).toNatClampNeg) D) (fun (r165 : Int32) (D166 : dT) => if inR (v3 + (1 : Int32)) sL then if inR (v3 + (2 : Int32)) sL then if inR (v3 + (3 : Int32)) sL then bd (F_X6_why (sX (v3 + (1 : Int32)).toNatClampNeg) (sX (v3 + (2 : Int32)).toNatClampNeg) (sX (v3 + (3 : Int32)).toNatClampNeg) D166) (fun (r170 : Int32) (D171 : dT) => if r165 = r170 then F_L_law_18 fu sL sX (v3 + (6 : Int32)) D171 else some ((0 : Int32), D171)) else none else none else none) else none else none else none else if ((sX v3.toNatClampNeg) &&& (31 : Int32)) = (15 : Int32) then if inR (v3 + (1 : Int32)) sL then if inR (v3 + (2 : Int32)) sL then bd (F_X5_crew (sX (v3 + (1 : Int32)).toNatClampNeg) (sX (v3 + (2 : Int32)).toNatClampNeg) D) (fun (r178 : Int32) (D179 : dT) => if inR (v3 + (1 : Int32)) sL then if inR (v3 + (2 : Int32)) sL then bd (F_X6_crew (sX (v3 + (1 : Int32)).toNatClampNeg) (sX (v3 + (2 : Int32)).toNatClampNeg) D179) (fun (r182 : Int32) (D183 : dT) => if r178 = r182 then F_L_law_18 fu sL sX (v3 + (6 : Int32)) D183 else some ((0 : Int32), D183)) else none else none) else none else none else if ((sX v3.toNatClampNeg) &&& (31 : Int32)) = (16 : Int32) then if inR (v3 + (1 : Int32)) sL then bd (F_X5_bestStraps (sX (v3 + (1 : Int32)).toNatClampNeg) D) (fun (r189 : Int32) (D190 : dT) => if inR (v3 + (1 : Int32)) sL then bd (F_X6_bestStraps (sX (v3 + (1 : Int32)).toNatClampNeg) D190) (fun (r192 : Int32) (D193 : dT) => if r189 = r192 then F_L_law_18 fu sL sX (v3 + (6 : Int32)) D193 else some ((0 : Int32), D193)) else none) else none else if ((sX v3.toNatClampNeg) &&& (31 : Int32)) = (17 : Int32) then if inR (v3 + (1 : Int32)) sL then bd (F_X5_doneIn (sX (v3 + (1 : Int32)).toNatClampNeg) D) (fun (r199 : Int32) (D200 : dT) => if inR (v3 + (1 : Int32)) sL then bd (F_X6_doneIn (sX (v3 + (1 : Int32)).toNatClampNeg) D200) (fun (r202 : Int32) (D203 : dT) => if r199 = r202 then F_L_law_18 fu sL sX (v3 + (6 : Int32)) D203 else some ((0 : Int32), D203)) else none) else none else if ((sX v3.toNatClampNeg) &&& (31 : Int32)) = (18 : Int32) then bd (F_X5_ifAssigned  D) (fun (r208 : Int32) (D209 : dT) => bd (F_X6_ifAssigned  D209) (fun (r210 : Int32) (D211 : dT) => if r208 = r210 then F_L_law_18 fu sL sX (v3 + (6 : Int32)) D211 else some ((0 : Int32), D211))) else if ((sX v3.toNatClampNeg) &&& (31 : Int32)) = (19 : Int32) then if inR (v3 + (1 : Int32)) sL then if inR (v3 + (2 : Int32)) sL then bd (F_X5_put ((((sX (v3 + (1 : Int32)).toNatClampNeg).toInt64) <<< ((32 : Int32).toInt64 &&& 63)) ||| (((sX (v3 + (2 : Int32)).toNatClampNeg).toInt64) &&& (4294967295 : Int64))) D) (fun (r218 : Int32) (D219 : dT) => if inR (v3 + (1 : Int32)) sL then if inR (v3 + (2 : Int32)) sL then bd (F_X6_put ((((sX (v3 + (1 : Int32)).toNatClampNeg).toInt64) <<< ((32 : Int32).toInt64 &&& 63)) ||| (((sX (v3 + (2 : Int32)).toNatClampNeg).toInt64) &&& (4294967295 : Int64))) D219) (fun (r222 : Int32) (D223 : dT) => if r218 = r222 then F_L_law_18 fu sL sX (v3 + (6 : Int32)) D223 else some ((0 : Int32), D223)) else none else none) else none else none else if ((sX v3.toNatClampNeg) &&& (31 : Int32)) = (20 : Int32) then bd (F_X5_wipe  D) (fun (r228 : Int32) (D229 : dT) => bd (F_X6_wipe  D229) (fun (r230 : Int32) (D231 : dT) => if r228 = r230 then F_L_law_18 fu sL sX (v3 + (6 : Int32)) D231 else some ((0 : Int32), D231))) else if ((sX v3.toNatClampNeg) &&& (31 : Int32)) = (21 : Int32) then bd (F_X5_fault  D) (fun (r236 : Int32) (D237 : dT) => bd (F_X6_fault  D237) (fun (r238 : Int32) (D239 : dT) => if r236 = r238 then F_L_law_18 fu sL sX (v3 + (6 : Int32)) D239 else some ((0 : Int32), D239))) else if ((sX v3.toNatClampNeg) &&& (31 : Int32)) = (22 : Int32) then bd (F_X5_carryOut  D) (fun (r244 : Int32) (D245 : dT) => bd (F_X6_carryOut  D245) (fun (r246 : Int32) (D247 : dT) => if r244 = r246 then F_L_law_18 fu sL sX (v3 + (6 : Int32)) D247 else some ((0 : Int32), D247))) else if ((sX v3.toNatClampNeg) &&& (31 : Int32)) = (23 : Int32) then bd (F_X5_undo  D) (fun (r252 : Int32) (D253 : dT) => bd (F_X6_undo  D253) (fun (r254 : Int32) (D255 : dT) => if r252 = r254 then F_L_law_18 fu sL sX (v3 + (6 : Int32)) D255 else some ((0 : Int32), D255))) else if ((sX v3.toNatClampNeg) &&& (31 : Int32)) = (24 : Int32) then if inR (v3 + (1 : Int32)) sL then bd (F_X5_save (sX (v3 + (1 : Int32)).toNatClampNeg) D) (fun (r261 : Int32) (D262 : dT) => if inR (v3 + (1 : Int32)) sL then bd (F_X6_save (sX (v3 + (1 : Int32)).toNatClampNeg) D262) (fun (r264 : Int32) (D265 : dT) => if r261 = r264 then F_L_law_18 fu sL sX (v3 + (6 : Int32)) D265 else some ((0 : Int32), D265)) else none) else none else if ((sX v3.toNatClampNeg) &&& (31 : Int32)) = (25 : Int32) then if inR (v3 + (1 : Int32)) sL then bd (F_X5_restore (sX (v3 + (1 : Int32)).toNatClampNeg) D) (fun (r271 : Int32) (D272 : dT) => if inR (v3 + (1 : Int32)) sL then bd (F_X6_restore (sX (v3 + (1 : Int32)).toNatClampNeg) D272) (fun (r274 : Int32) (D275 : dT) => if r271 = r274 then F_L_law_18 fu sL sX (v3 + (6 : Int32)) D275 else some ((0 : Int32), D275)) else none) else none else F_L_law_18 fu sL sX (v3 + (6 : Int32)) D else none
def F_L_law (sL : Nat) (sX : Nat → Int32) (D : dT) : Option (Int32 × dT) := F_L_law_18 lim sL sX (0 : Int32) D
set_option maxHeartbeats 20000000 in
set_option maxRecDepth 100000 in
theorem e_L_law_18 (l : Launch) (E : eE) (d : Nat) (sL : Nat) (hsL : E.2.2.2.2.2.1 = sL) (sX : Nat → Int32) (hsX : E.2.2.2.2.2.2 = sX)  (fuel : Nat) : ∀ (v3 : Int32) (D : dT), ev l E (d + 8) yL_law cL_law 4 (some .boolean) 18 [(0, .inr (.inr 17)), (1, .inr (.inr 18)), (2, .inr (.inr 378)), (3, .inl v3)] [] D eI (F_L_law_18 fuel sL sX v3 D) := by
  induction fuel with
  | zero =>
    intro v3 D
    exact ev_none
  | succ fu ih =>
    intro v3 D
    rw [F_L_law_18]
    refine ev_s (fun Q k => rn_iload_n (j := 3) 3 rfl rfl dL_law_18 k) ?_
    refine ev_s (fun Q k => rn_aload_n (j := 0) 0 rfl rfl (by decide) dL_law_19 k) ?_
    refine ev_s (fun Q k => rn_sclen2 (sL := sL) hsL dL_law_20 k) ?_
    refine ev_s (fun Q k => rn_bipush (v := 6) (by decide) dL_law_21 k) ?_
    refine ev_s (fun Q k => rn_isub dL_law_23 k) ?_
    refine ev_if (fun Q => rn_icmp_gt (tgt := 866) dL_law_24 (by decide)) (fun c280 => ?_) (fun c281 => ?_)
    · refine ev_s (fun Q k => rn_iconst (v := 1) (by decide) dL_law_866 k) ?_
      exact ev_ret (fun Q q => rn_ret q .boolean rfl rfl dL_law_867)
    · refine ev_s (fun Q k => rn_aload_n (j := 0) 0 rfl rfl (by decide) dL_law_27 k) ?_
      refine ev_s (fun Q k => rn_iload_n (j := 3) 3 rfl rfl dL_law_28 k) ?_
      refine ev_gd (fun g1 => ?_)
      refine ev_s (fun Q k => rn_scald2 hsX hsL (inR_vp g1) dL_law_29 k) ?_
      refine ev_s (fun Q k => rn_bipush (v := 31) (by decide) dL_law_30 k) ?_
      refine ev_s (fun Q k => rn_iand dL_law_32 k) ?_
      refine ev_ite (fun c12 => ?_) (fun c13 => ?_)
      · refine ev_s (fun Q k => rn_tswI (off := 119) (tgt := 152) dL_law_33 (by rw [c12]; decide) (by rw [c12]; decide) (by rw [c12]; rfl) (by decide) k) ?_
        refine ev_s (fun Q k => rn_aload_n (j := 1) 1 rfl rfl (okO_0 ok_18) dL_law_152 k) ?_
        refine ev_s (fun Q k => rn_aload_n (j := 0) 0 rfl rfl (by decide) dL_law_153 k) ?_
        refine ev_s (fun Q k => rn_iload_n (j := 3) 3 rfl rfl dL_law_154 k) ?_
        refine ev_s (fun Q k => rn_iconst (v := 1) (by decide) dL_law_155 k) ?_
        refine ev_s (fun Q k => rn_iadd dL_law_156 k) ?_
        refine ev_gd (fun g2 => ?_)
        refine ev_s (fun Q k => rn_scald2 hsX hsL (inR_vp g2) dL_law_157 k) ?_
        refine ev_s (fun Q k => rn_aload_n (j := 0) 0 rfl rfl (by decide) dL_law_158 k) ?_
        refine ev_s (fun Q k => rn_iload_n (j := 3) 3 rfl rfl dL_law_159 k) ?_
        refine ev_s (fun Q k => rn_iconst (v := 2) (by decide) dL_law_160 k) ?_
        refine ev_s (fun Q k => rn_iadd dL_law_161 k) ?_
        refine ev_gd (fun g3 => ?_)
        refine ev_s (fun Q k => rn_scald2 hsX hsL (inR_vp g3) dL_law_162 k) ?_
        refine ev_bindI (as := [.inr (.inr 18), .inl (sX (v3 + (1 : Int32)).toNatClampNeg), .inl (sX (v3 + (2 : Int32)).toNatClampNeg)]) (fun Q Q1 => rn_callV (as := [.inl (sX (v3 + (1 : Int32)).toNatClampNeg), .inl (sX (v3 + (2 : Int32)).toNatClampNeg)]) (rest := []) (o := 18) m_L_13 dL_law_163 (rcv_own ok_18.1 ok_18.2.1 (by decide) (okO_1 ok_18)) rfl rfl (Nat.le_of_ble_eq_true rfl)) pl_X5_set (Nat.le_of_ble_eq_true rfl) rfl (e_X5_set l E (d + 4) (sX (v3 + (1 : Int32)).toNatClampNeg) (sX (v3 + (2 : Int32)).toNatClampNeg) D) (fun r4 D5 => ?_)
        refine ev_s (fun Q k => rn_aload_n (j := 2) 2 rfl rfl (okO_0 ok_378) dL_law_166 k) ?_
        refine ev_s (fun Q k => rn_aload_n (j := 0) 0 rfl rfl (by decide) dL_law_167 k) ?_
        refine ev_s (fun Q k => rn_iload_n (j := 3) 3 rfl rfl dL_law_168 k) ?_
        refine ev_s (fun Q k => rn_iconst (v := 1) (by decide) dL_law_169 k) ?_
        refine ev_s (fun Q k => rn_iadd dL_law_170 k) ?_
        refine ev_gd (fun g6 => ?_)
        refine ev_s (fun Q k => rn_scald2 hsX hsL (inR_vp g6) dL_law_171 k) ?_
        refine ev_s (fun Q k => rn_aload_n (j := 0) 0 rfl rfl (by decide) dL_law_172 k) ?_
        refine ev_s (fun Q k => rn_iload_n (j := 3) 3 rfl rfl dL_law_173 k) ?_
        refine ev_s (fun Q k => rn_iconst (v := 2) (by decide) dL_law_174 k) ?_
        refine ev_s (fun Q k => rn_iadd dL_law_175 k) ?_
        refine ev_gd (fun g7 => ?_)
        refine ev_s (fun Q k => rn_scald2 hsX hsL (inR_vp g7) dL_law_176 k) ?_
        refine ev_bindI (as := [.inr (.inr 378), .inl (sX (v3 + (1 : Int32)).toNatClampNeg), .inl (sX (v3 + (2 : Int32)).toNatClampNeg)]) (fun Q Q1 => rn_callV (as := [.inl (sX (v3 + (1 : Int32)).toNatClampNeg), .inl (sX (v3 + (2 : Int32)).toNatClampNeg)]) (rest := [.inl r4]) (o := 378) m_L_17 dL_law_177 (rcv_own ok_378.1 ok_378.2.1 (by decide) (okO_1 ok_378)) rfl rfl (Nat.le_of_ble_eq_true rfl)) pl_X6_set (Nat.le_of_ble_eq_true rfl) rfl (e_X6_set l E (d + 6) (sX (v3 + (1 : Int32)).toNatClampNeg) (sX (v3 + (2 : Int32)).toNatClampNeg) D5) (fun r8 D9 => ?_)
        refine ev_if (fun Q => rn_icmp_eq (tgt := 860) dL_law_180 (by decide)) (fun c10 => ?_) (fun c11 => ?_)
        · refine ev_s (fun Q k => rn_iinc (v := (v3 + (6 : Int32))) (ls' := [(3, .inl (v3 + (6 : Int32))), (0, .inr (.inr 17)), (1, .inr (.inr 18)), (2, .inr (.inr 378))]) 3 rfl rfl (by decide) rfl dL_law_860 k) ?_
          refine ev_s (fun Q k => rn_goto (tgt := 18) dL_law_863 (by decide) k) ?_
          refine ev_s (fun Q k => rn_sub (ls' := [(0, .inr (.inr 17)), (1, .inr (.inr 18)), (2, .inr (.inr 378)), (3, .inl (v3 + (6 : Int32)))]) [1, 2, 3, 0] rfl k) ?_
          exact ih (v3 + (6 : Int32)) D9
        · refine ev_s (fun Q k => rn_iconst (v := 0) (by decide) dL_law_183 k) ?_
          exact ev_ret (fun Q q => rn_ret q .boolean rfl rfl dL_law_184)
      · refine ev_ite (fun c22 => ?_) (fun c23 => ?_)
        · refine ev_s (fun Q k => rn_tswI (off := 152) (tgt := 185) dL_law_33 (by rw [c22]; decide) (by rw [c22]; decide) (by rw [c22]; rfl) (by decide) k) ?_
          refine ev_s (fun Q k => rn_aload_n (j := 1) 1 rfl rfl (okO_0 ok_18) dL_law_185 k) ?_
          refine ev_s (fun Q k => rn_aload_n (j := 0) 0 rfl rfl (by decide) dL_law_186 k) ?_
          refine ev_s (fun Q k => rn_iload_n (j := 3) 3 rfl rfl dL_law_187 k) ?_
          refine ev_s (fun Q k => rn_iconst (v := 1) (by decide) dL_law_188 k) ?_
          refine ev_s (fun Q k => rn_iadd dL_law_189 k) ?_
          refine ev_gd (fun g14 => ?_)
          refine ev_s (fun Q k => rn_scald2 hsX hsL (inR_vp g14) dL_law_190 k) ?_
          refine ev_bindI (as := [.inr (.inr 18), .inl (sX (v3 + (1 : Int32)).toNatClampNeg)]) (fun Q Q1 => rn_callV (as := [.inl (sX (v3 + (1 : Int32)).toNatClampNeg)]) (rest := []) (o := 18) m_L_18 dL_law_191 (rcv_own ok_18.1 ok_18.2.1 (by decide) (okO_1 ok_18)) rfl rfl (Nat.le_of_ble_eq_true rfl)) pl_X5_person (Nat.le_of_ble_eq_true rfl) rfl (e_X5_person l E (d + 4) (sX (v3 + (1 : Int32)).toNatClampNeg) D) (fun r15 D16 => ?_)
          refine ev_s (fun Q k => rn_aload_n (j := 2) 2 rfl rfl (okO_0 ok_378) dL_law_194 k) ?_
          refine ev_s (fun Q k => rn_aload_n (j := 0) 0 rfl rfl (by decide) dL_law_195 k) ?_
          refine ev_s (fun Q k => rn_iload_n (j := 3) 3 rfl rfl dL_law_196 k) ?_
          refine ev_s (fun Q k => rn_iconst (v := 1) (by decide) dL_law_197 k) ?_
          refine ev_s (fun Q k => rn_iadd dL_law_198 k) ?_
          refine ev_gd (fun g17 => ?_)
          refine ev_s (fun Q k => rn_scald2 hsX hsL (inR_vp g17) dL_law_199 k) ?_
          refine ev_bindI (as := [.inr (.inr 378), .inl (sX (v3 + (1 : Int32)).toNatClampNeg)]) (fun Q Q1 => rn_callV (as := [.inl (sX (v3 + (1 : Int32)).toNatClampNeg)]) (rest := [.inl r15]) (o := 378) m_L_22 dL_law_200 (rcv_own ok_378.1 ok_378.2.1 (by decide) (okO_1 ok_378)) rfl rfl (Nat.le_of_ble_eq_true rfl)) pl_X6_person (Nat.le_of_ble_eq_true rfl) rfl (e_X6_person l E (d + 5) (sX (v3 + (1 : Int32)).toNatClampNeg) D16) (fun r18 D19 => ?_)
          refine ev_if (fun Q => rn_icmp_eq (tgt := 860) dL_law_203 (by decide)) (fun c20 => ?_) (fun c21 => ?_)
          · refine ev_s (fun Q k => rn_iinc (v := (v3 + (6 : Int32))) (ls' := [(3, .inl (v3 + (6 : Int32))), (0, .inr (.inr 17)), (1, .inr (.inr 18)), (2, .inr (.inr 378))]) 3 rfl rfl (by decide) rfl dL_law_860 k) ?_
            refine ev_s (fun Q k => rn_goto (tgt := 18) dL_law_863 (by decide) k) ?_
            refine ev_s (fun Q k => rn_sub (ls' := [(0, .inr (.inr 17)), (1, .inr (.inr 18)), (2, .inr (.inr 378)), (3, .inl (v3 + (6 : Int32)))]) [1, 2, 3, 0] rfl k) ?_
            exact ih (v3 + (6 : Int32)) D19
          · refine ev_s (fun Q k => rn_iconst (v := 0) (by decide) dL_law_206 k) ?_
            exact ev_ret (fun Q q => rn_ret q .boolean rfl rfl dL_law_207)
        · refine ev_ite (fun c32 => ?_) (fun c33 => ?_)
          · refine ev_s (fun Q k => rn_tswI (off := 175) (tgt := 208) dL_law_33 (by rw [c32]; decide) (by rw [c32]; decide) (by rw [c32]; rfl) (by decide) k) ?_
            refine ev_s (fun Q k => rn_aload_n (j := 1) 1 rfl rfl (okO_0 ok_18) dL_law_208 k) ?_
            refine ev_s (fun Q k => rn_aload_n (j := 0) 0 rfl rfl (by decide) dL_law_209 k) ?_
            refine ev_s (fun Q k => rn_iload_n (j := 3) 3 rfl rfl dL_law_210 k) ?_
            refine ev_s (fun Q k => rn_iconst (v := 1) (by decide) dL_law_211 k) ?_
            refine ev_s (fun Q k => rn_iadd dL_law_212 k) ?_
            refine ev_gd (fun g24 => ?_)
            refine ev_s (fun Q k => rn_scald2 hsX hsL (inR_vp g24) dL_law_213 k) ?_
            refine ev_bindI (as := [.inr (.inr 18), .inl (sX (v3 + (1 : Int32)).toNatClampNeg)]) (fun Q Q1 => rn_callV (as := [.inl (sX (v3 + (1 : Int32)).toNatClampNeg)]) (rest := []) (o := 18) m_L_23 dL_law_214 (rcv_own ok_18.1 ok_18.2.1 (by decide) (okO_1 ok_18)) rfl rfl (Nat.le_of_ble_eq_true rfl)) pl_X5_buy (Nat.le_of_ble_eq_true rfl) rfl (e_X5_buy l E (d + 4) (sX (v3 + (1 : Int32)).toNatClampNeg) D) (fun r25 D26 => ?_)
            refine ev_s (fun Q k => rn_aload_n (j := 2) 2 rfl rfl (okO_0 ok_378) dL_law_217 k) ?_
            refine ev_s (fun Q k => rn_aload_n (j := 0) 0 rfl rfl (by decide) dL_law_218 k) ?_
            refine ev_s (fun Q k => rn_iload_n (j := 3) 3 rfl rfl dL_law_219 k) ?_
            refine ev_s (fun Q k => rn_iconst (v := 1) (by decide) dL_law_220 k) ?_
            refine ev_s (fun Q k => rn_iadd dL_law_221 k) ?_
            refine ev_gd (fun g27 => ?_)
            refine ev_s (fun Q k => rn_scald2 hsX hsL (inR_vp g27) dL_law_222 k) ?_
            refine ev_bindI (as := [.inr (.inr 378), .inl (sX (v3 + (1 : Int32)).toNatClampNeg)]) (fun Q Q1 => rn_callV (as := [.inl (sX (v3 + (1 : Int32)).toNatClampNeg)]) (rest := [.inl r25]) (o := 378) m_L_26 dL_law_223 (rcv_own ok_378.1 ok_378.2.1 (by decide) (okO_1 ok_378)) rfl rfl (Nat.le_of_ble_eq_true rfl)) pl_X6_buy (Nat.le_of_ble_eq_true rfl) rfl (e_X6_buy l E (d + 6) (sX (v3 + (1 : Int32)).toNatClampNeg) D26) (fun r28 D29 => ?_)
            refine ev_if (fun Q => rn_icmp_eq (tgt := 860) dL_law_226 (by decide)) (fun c30 => ?_) (fun c31 => ?_)
            · refine ev_s (fun Q k => rn_iinc (v := (v3 + (6 : Int32))) (ls' := [(3, .inl (v3 + (6 : Int32))), (0, .inr (.inr 17)), (1, .inr (.inr 18)), (2, .inr (.inr 378))]) 3 rfl rfl (by decide) rfl dL_law_860 k) ?_
              refine ev_s (fun Q k => rn_goto (tgt := 18) dL_law_863 (by decide) k) ?_
              refine ev_s (fun Q k => rn_sub (ls' := [(0, .inr (.inr 17)), (1, .inr (.inr 18)), (2, .inr (.inr 378)), (3, .inl (v3 + (6 : Int32)))]) [1, 2, 3, 0] rfl k) ?_
              exact ih (v3 + (6 : Int32)) D29
            · refine ev_s (fun Q k => rn_iconst (v := 0) (by decide) dL_law_229 k) ?_
              exact ev_ret (fun Q q => rn_ret q .boolean rfl rfl dL_law_230)
          · refine ev_ite (fun c50 => ?_) (fun c51 => ?_)
            · refine ev_s (fun Q k => rn_tswI (off := 198) (tgt := 231) dL_law_33 (by rw [c50]; decide) (by rw [c50]; decide) (by rw [c50]; rfl) (by decide) k) ?_
              refine ev_s (fun Q k => rn_aload_n (j := 1) 1 rfl rfl (okO_0 ok_18) dL_law_231 k) ?_
              refine ev_s (fun Q k => rn_aload_n (j := 0) 0 rfl rfl (by decide) dL_law_232 k) ?_
              refine ev_s (fun Q k => rn_iload_n (j := 3) 3 rfl rfl dL_law_233 k) ?_
              refine ev_s (fun Q k => rn_iconst (v := 1) (by decide) dL_law_234 k) ?_
              refine ev_s (fun Q k => rn_iadd dL_law_235 k) ?_
              refine ev_gd (fun g34 => ?_)
              refine ev_s (fun Q k => rn_scald2 hsX hsL (inR_vp g34) dL_law_236 k) ?_
              refine ev_s (fun Q k => rn_aload_n (j := 0) 0 rfl rfl (by decide) dL_law_237 k) ?_
              refine ev_s (fun Q k => rn_iload_n (j := 3) 3 rfl rfl dL_law_238 k) ?_
              refine ev_s (fun Q k => rn_iconst (v := 2) (by decide) dL_law_239 k) ?_
              refine ev_s (fun Q k => rn_iadd dL_law_240 k) ?_
              refine ev_gd (fun g35 => ?_)
              refine ev_s (fun Q k => rn_scald2 hsX hsL (inR_vp g35) dL_law_241 k) ?_
              refine ev_s (fun Q k => rn_aload_n (j := 0) 0 rfl rfl (by decide) dL_law_242 k) ?_
              refine ev_s (fun Q k => rn_iload_n (j := 3) 3 rfl rfl dL_law_243 k) ?_
              refine ev_s (fun Q k => rn_iconst (v := 3) (by decide) dL_law_244 k) ?_
              refine ev_s (fun Q k => rn_iadd dL_law_245 k) ?_
              refine ev_gd (fun g36 => ?_)
              refine ev_s (fun Q k => rn_scald2 hsX hsL (inR_vp g36) dL_law_246 k) ?_
              refine ev_s (fun Q k => rn_aload_n (j := 0) 0 rfl rfl (by decide) dL_law_247 k) ?_
              refine ev_s (fun Q k => rn_iload_n (j := 3) 3 rfl rfl dL_law_248 k) ?_
              refine ev_s (fun Q k => rn_iconst (v := 4) (by decide) dL_law_249 k) ?_
              refine ev_s (fun Q k => rn_iadd dL_law_250 k) ?_
              refine ev_gd (fun g37 => ?_)
              refine ev_s (fun Q k => rn_scald2 hsX hsL (inR_vp g37) dL_law_251 k) ?_
              refine ev_s (fun Q k => rn_aload_n (j := 0) 0 rfl rfl (by decide) dL_law_252 k) ?_
              refine ev_s (fun Q k => rn_iload_n (j := 3) 3 rfl rfl dL_law_253 k) ?_
              refine ev_s (fun Q k => rn_iconst (v := 5) (by decide) dL_law_254 k) ?_
              refine ev_s (fun Q k => rn_iadd dL_law_255 k) ?_
              refine ev_gd (fun g38 => ?_)
              refine ev_s (fun Q k => rn_scald2 hsX hsL (inR_vp g38) dL_law_256 k) ?_
              refine ev_bindI (as := [.inr (.inr 18), .inl (sX (v3 + (1 : Int32)).toNatClampNeg), .inl (sX (v3 + (2 : Int32)).toNatClampNeg), .inl (sX (v3 + (3 : Int32)).toNatClampNeg), .inl (sX (v3 + (4 : Int32)).toNatClampNeg), .inl (sX (v3 + (5 : Int32)).toNatClampNeg)]) (fun Q Q1 => rn_callV (as := [.inl (sX (v3 + (1 : Int32)).toNatClampNeg), .inl (sX (v3 + (2 : Int32)).toNatClampNeg), .inl (sX (v3 + (3 : Int32)).toNatClampNeg), .inl (sX (v3 + (4 : Int32)).toNatClampNeg), .inl (sX (v3 + (5 : Int32)).toNatClampNeg)]) (rest := []) (o := 18) m_L_27 dL_law_257 (rcv_own ok_18.1 ok_18.2.1 (by decide) (okO_1 ok_18)) rfl rfl (Nat.le_of_ble_eq_true rfl)) pl_X5_job (Nat.le_of_ble_eq_true rfl) rfl (e_X5_job l E (d + 4) (sX (v3 + (1 : Int32)).toNatClampNeg) (sX (v3 + (2 : Int32)).toNatClampNeg) (sX (v3 + (3 : Int32)).toNatClampNeg) (sX (v3 + (4 : Int32)).toNatClampNeg) (sX (v3 + (5 : Int32)).toNatClampNeg) D) (fun r39 D40 => ?_)
              refine ev_s (fun Q k => rn_aload_n (j := 2) 2 rfl rfl (okO_0 ok_378) dL_law_260 k) ?_
              refine ev_s (fun Q k => rn_aload_n (j := 0) 0 rfl rfl (by decide) dL_law_261 k) ?_
              refine ev_s (fun Q k => rn_iload_n (j := 3) 3 rfl rfl dL_law_262 k) ?_
              refine ev_s (fun Q k => rn_iconst (v := 1) (by decide) dL_law_263 k) ?_
              refine ev_s (fun Q k => rn_iadd dL_law_264 k) ?_
              refine ev_gd (fun g41 => ?_)
              refine ev_s (fun Q k => rn_scald2 hsX hsL (inR_vp g41) dL_law_265 k) ?_
              refine ev_s (fun Q k => rn_aload_n (j := 0) 0 rfl rfl (by decide) dL_law_266 k) ?_
              refine ev_s (fun Q k => rn_iload_n (j := 3) 3 rfl rfl dL_law_267 k) ?_
              refine ev_s (fun Q k => rn_iconst (v := 2) (by decide) dL_law_268 k) ?_
              refine ev_s (fun Q k => rn_iadd dL_law_269 k) ?_
              refine ev_gd (fun g42 => ?_)
              refine ev_s (fun Q k => rn_scald2 hsX hsL (inR_vp g42) dL_law_270 k) ?_
              refine ev_s (fun Q k => rn_aload_n (j := 0) 0 rfl rfl (by decide) dL_law_271 k) ?_
              refine ev_s (fun Q k => rn_iload_n (j := 3) 3 rfl rfl dL_law_272 k) ?_
              refine ev_s (fun Q k => rn_iconst (v := 3) (by decide) dL_law_273 k) ?_
              refine ev_s (fun Q k => rn_iadd dL_law_274 k) ?_
              refine ev_gd (fun g43 => ?_)
              refine ev_s (fun Q k => rn_scald2 hsX hsL (inR_vp g43) dL_law_275 k) ?_
              refine ev_s (fun Q k => rn_aload_n (j := 0) 0 rfl rfl (by decide) dL_law_276 k) ?_
              refine ev_s (fun Q k => rn_iload_n (j := 3) 3 rfl rfl dL_law_277 k) ?_
              refine ev_s (fun Q k => rn_iconst (v := 4) (by decide) dL_law_278 k) ?_
              refine ev_s (fun Q k => rn_iadd dL_law_279 k) ?_
              refine ev_gd (fun g44 => ?_)
              refine ev_s (fun Q k => rn_scald2 hsX hsL (inR_vp g44) dL_law_280 k) ?_
              refine ev_s (fun Q k => rn_aload_n (j := 0) 0 rfl rfl (by decide) dL_law_281 k) ?_
              refine ev_s (fun Q k => rn_iload_n (j := 3) 3 rfl rfl dL_law_282 k) ?_
              refine ev_s (fun Q k => rn_iconst (v := 5) (by decide) dL_law_283 k) ?_
              refine ev_s (fun Q k => rn_iadd dL_law_284 k) ?_
              refine ev_gd (fun g45 => ?_)
              refine ev_s (fun Q k => rn_scald2 hsX hsL (inR_vp g45) dL_law_285 k) ?_
              refine ev_bindI (as := [.inr (.inr 378), .inl (sX (v3 + (1 : Int32)).toNatClampNeg), .inl (sX (v3 + (2 : Int32)).toNatClampNeg), .inl (sX (v3 + (3 : Int32)).toNatClampNeg), .inl (sX (v3 + (4 : Int32)).toNatClampNeg), .inl (sX (v3 + (5 : Int32)).toNatClampNeg)]) (fun Q Q1 => rn_callV (as := [.inl (sX (v3 + (1 : Int32)).toNatClampNeg), .inl (sX (v3 + (2 : Int32)).toNatClampNeg), .inl (sX (v3 + (3 : Int32)).toNatClampNeg), .inl (sX (v3 + (4 : Int32)).toNatClampNeg), .inl (sX (v3 + (5 : Int32)).toNatClampNeg)]) (rest := [.inl r39]) (o := 378) m_L_31 dL_law_286 (rcv_own ok_378.1 ok_378.2.1 (by decide) (okO_1 ok_378)) rfl rfl (Nat.le_of_ble_eq_true rfl)) pl_X6_job (Nat.le_of_ble_eq_true rfl) rfl (e_X6_job l E (d + 5) (sX (v3 + (1 : Int32)).toNatClampNeg) (sX (v3 + (2 : Int32)).toNatClampNeg) (sX (v3 + (3 : Int32)).toNatClampNeg) (sX (v3 + (4 : Int32)).toNatClampNeg) (sX (v3 + (5 : Int32)).toNatClampNeg) D40) (fun r46 D47 => ?_)
              refine ev_if (fun Q => rn_icmp_eq (tgt := 860) dL_law_289 (by decide)) (fun c48 => ?_) (fun c49 => ?_)
              · refine ev_s (fun Q k => rn_iinc (v := (v3 + (6 : Int32))) (ls' := [(3, .inl (v3 + (6 : Int32))), (0, .inr (.inr 17)), (1, .inr (.inr 18)), (2, .inr (.inr 378))]) 3 rfl rfl (by decide) rfl dL_law_860 k) ?_
                refine ev_s (fun Q k => rn_goto (tgt := 18) dL_law_863 (by decide) k) ?_
                refine ev_s (fun Q k => rn_sub (ls' := [(0, .inr (.inr 17)), (1, .inr (.inr 18)), (2, .inr (.inr 378)), (3, .inl (v3 + (6 : Int32)))]) [1, 2, 3, 0] rfl k) ?_
                exact ih (v3 + (6 : Int32)) D47
              · refine ev_s (fun Q k => rn_iconst (v := 0) (by decide) dL_law_292 k) ?_
                exact ev_ret (fun Q q => rn_ret q .boolean rfl rfl dL_law_293)
            · refine ev_ite (fun c64 => ?_) (fun c65 => ?_)
              · refine ev_s (fun Q k => rn_tswI (off := 261) (tgt := 294) dL_law_33 (by rw [c64]; decide) (by rw [c64]; decide) (by rw [c64]; rfl) (by decide) k) ?_
                refine ev_s (fun Q k => rn_aload_n (j := 1) 1 rfl rfl (okO_0 ok_18) dL_law_294 k) ?_
                refine ev_s (fun Q k => rn_aload_n (j := 0) 0 rfl rfl (by decide) dL_law_295 k) ?_
                refine ev_s (fun Q k => rn_iload_n (j := 3) 3 rfl rfl dL_law_296 k) ?_
                refine ev_s (fun Q k => rn_iconst (v := 1) (by decide) dL_law_297 k) ?_
                refine ev_s (fun Q k => rn_iadd dL_law_298 k) ?_
                refine ev_gd (fun g52 => ?_)
                refine ev_s (fun Q k => rn_scald2 hsX hsL (inR_vp g52) dL_law_299 k) ?_
                refine ev_s (fun Q k => rn_aload_n (j := 0) 0 rfl rfl (by decide) dL_law_300 k) ?_
                refine ev_s (fun Q k => rn_iload_n (j := 3) 3 rfl rfl dL_law_301 k) ?_
                refine ev_s (fun Q k => rn_iconst (v := 2) (by decide) dL_law_302 k) ?_
                refine ev_s (fun Q k => rn_iadd dL_law_303 k) ?_
                refine ev_gd (fun g53 => ?_)
                refine ev_s (fun Q k => rn_scald2 hsX hsL (inR_vp g53) dL_law_304 k) ?_
                refine ev_s (fun Q k => rn_aload_n (j := 0) 0 rfl rfl (by decide) dL_law_305 k) ?_
                refine ev_s (fun Q k => rn_iload_n (j := 3) 3 rfl rfl dL_law_306 k) ?_
                refine ev_s (fun Q k => rn_iconst (v := 3) (by decide) dL_law_307 k) ?_
                refine ev_s (fun Q k => rn_iadd dL_law_308 k) ?_
                refine ev_gd (fun g54 => ?_)
                refine ev_s (fun Q k => rn_scald2 hsX hsL (inR_vp g54) dL_law_309 k) ?_
                refine ev_bindI (as := [.inr (.inr 18), .inl (sX (v3 + (1 : Int32)).toNatClampNeg), .inl (sX (v3 + (2 : Int32)).toNatClampNeg), .inl (sX (v3 + (3 : Int32)).toNatClampNeg)]) (fun Q Q1 => rn_callV (as := [.inl (sX (v3 + (1 : Int32)).toNatClampNeg), .inl (sX (v3 + (2 : Int32)).toNatClampNeg), .inl (sX (v3 + (3 : Int32)).toNatClampNeg)]) (rest := []) (o := 18) m_L_32 dL_law_310 (rcv_own ok_18.1 ok_18.2.1 (by decide) (okO_1 ok_18)) rfl rfl (Nat.le_of_ble_eq_true rfl)) pl_X5_begin (Nat.le_of_ble_eq_true rfl) rfl (e_X5_begin l E (d + 3) (sX (v3 + (1 : Int32)).toNatClampNeg) (sX (v3 + (2 : Int32)).toNatClampNeg) (sX (v3 + (3 : Int32)).toNatClampNeg) D) (fun r55 D56 => ?_)
                refine ev_s (fun Q k => rn_aload_n (j := 2) 2 rfl rfl (okO_0 ok_378) dL_law_313 k) ?_
                refine ev_s (fun Q k => rn_aload_n (j := 0) 0 rfl rfl (by decide) dL_law_314 k) ?_
                refine ev_s (fun Q k => rn_iload_n (j := 3) 3 rfl rfl dL_law_315 k) ?_
                refine ev_s (fun Q k => rn_iconst (v := 1) (by decide) dL_law_316 k) ?_
                refine ev_s (fun Q k => rn_iadd dL_law_317 k) ?_
                refine ev_gd (fun g57 => ?_)
                refine ev_s (fun Q k => rn_scald2 hsX hsL (inR_vp g57) dL_law_318 k) ?_
                refine ev_s (fun Q k => rn_aload_n (j := 0) 0 rfl rfl (by decide) dL_law_319 k) ?_
                refine ev_s (fun Q k => rn_iload_n (j := 3) 3 rfl rfl dL_law_320 k) ?_
                refine ev_s (fun Q k => rn_iconst (v := 2) (by decide) dL_law_321 k) ?_
                refine ev_s (fun Q k => rn_iadd dL_law_322 k) ?_
                refine ev_gd (fun g58 => ?_)
                refine ev_s (fun Q k => rn_scald2 hsX hsL (inR_vp g58) dL_law_323 k) ?_
                refine ev_s (fun Q k => rn_aload_n (j := 0) 0 rfl rfl (by decide) dL_law_324 k) ?_
                refine ev_s (fun Q k => rn_iload_n (j := 3) 3 rfl rfl dL_law_325 k) ?_
                refine ev_s (fun Q k => rn_iconst (v := 3) (by decide) dL_law_326 k) ?_
                refine ev_s (fun Q k => rn_iadd dL_law_327 k) ?_
                refine ev_gd (fun g59 => ?_)
                refine ev_s (fun Q k => rn_scald2 hsX hsL (inR_vp g59) dL_law_328 k) ?_
                refine ev_bindI (as := [.inr (.inr 378), .inl (sX (v3 + (1 : Int32)).toNatClampNeg), .inl (sX (v3 + (2 : Int32)).toNatClampNeg), .inl (sX (v3 + (3 : Int32)).toNatClampNeg)]) (fun Q Q1 => rn_callV (as := [.inl (sX (v3 + (1 : Int32)).toNatClampNeg), .inl (sX (v3 + (2 : Int32)).toNatClampNeg), .inl (sX (v3 + (3 : Int32)).toNatClampNeg)]) (rest := [.inl r55]) (o := 378) m_L_36 dL_law_329 (rcv_own ok_378.1 ok_378.2.1 (by decide) (okO_1 ok_378)) rfl rfl (Nat.le_of_ble_eq_true rfl)) pl_X6_begin (Nat.le_of_ble_eq_true rfl) rfl (e_X6_begin l E (d + 2) (sX (v3 + (1 : Int32)).toNatClampNeg) (sX (v3 + (2 : Int32)).toNatClampNeg) (sX (v3 + (3 : Int32)).toNatClampNeg) D56) (fun r60 D61 => ?_)
                refine ev_if (fun Q => rn_icmp_eq (tgt := 860) dL_law_332 (by decide)) (fun c62 => ?_) (fun c63 => ?_)
                · refine ev_s (fun Q k => rn_iinc (v := (v3 + (6 : Int32))) (ls' := [(3, .inl (v3 + (6 : Int32))), (0, .inr (.inr 17)), (1, .inr (.inr 18)), (2, .inr (.inr 378))]) 3 rfl rfl (by decide) rfl dL_law_860 k) ?_
                  refine ev_s (fun Q k => rn_goto (tgt := 18) dL_law_863 (by decide) k) ?_
                  refine ev_s (fun Q k => rn_sub (ls' := [(0, .inr (.inr 17)), (1, .inr (.inr 18)), (2, .inr (.inr 378)), (3, .inl (v3 + (6 : Int32)))]) [1, 2, 3, 0] rfl k) ?_
                  exact ih (v3 + (6 : Int32)) D61
                · refine ev_s (fun Q k => rn_iconst (v := 0) (by decide) dL_law_335 k) ?_
                  exact ev_ret (fun Q q => rn_ret q .boolean rfl rfl dL_law_336)
              · refine ev_ite (fun c72 => ?_) (fun c73 => ?_)
                · refine ev_s (fun Q k => rn_tswI (off := 304) (tgt := 337) dL_law_33 (by rw [c72]; decide) (by rw [c72]; decide) (by rw [c72]; rfl) (by decide) k) ?_
                  refine ev_s (fun Q k => rn_aload_n (j := 1) 1 rfl rfl (okO_0 ok_18) dL_law_337 k) ?_
                  refine ev_bindI (as := [.inr (.inr 18)]) (fun Q Q1 => rn_callV (as := []) (rest := []) (o := 18) m_L_37 dL_law_338 (rcv_own ok_18.1 ok_18.2.1 (by decide) (okO_1 ok_18)) rfl rfl (Nat.le_of_ble_eq_true rfl)) pl_X5_assign (Nat.le_of_ble_eq_true rfl) rfl (e_X5_assign l E (d + 2)  D) (fun r66 D67 => ?_)
                  refine ev_s (fun Q k => rn_aload_n (j := 2) 2 rfl rfl (okO_0 ok_378) dL_law_341 k) ?_
                  refine ev_bindI (as := [.inr (.inr 378)]) (fun Q Q1 => rn_callV (as := []) (rest := [.inl r66]) (o := 378) m_L_41 dL_law_342 (rcv_own ok_378.1 ok_378.2.1 (by decide) (okO_1 ok_378)) rfl rfl (Nat.le_of_ble_eq_true rfl)) pl_X6_assign (Nat.le_of_ble_eq_true rfl) rfl (e_X6_assign l E (d + 1)  D67) (fun r68 D69 => ?_)
                  refine ev_if (fun Q => rn_icmp_eq (tgt := 860) dL_law_345 (by decide)) (fun c70 => ?_) (fun c71 => ?_)
                  · refine ev_s (fun Q k => rn_iinc (v := (v3 + (6 : Int32))) (ls' := [(3, .inl (v3 + (6 : Int32))), (0, .inr (.inr 17)), (1, .inr (.inr 18)), (2, .inr (.inr 378))]) 3 rfl rfl (by decide) rfl dL_law_860 k) ?_
                    refine ev_s (fun Q k => rn_goto (tgt := 18) dL_law_863 (by decide) k) ?_
                    refine ev_s (fun Q k => rn_sub (ls' := [(0, .inr (.inr 17)), (1, .inr (.inr 18)), (2, .inr (.inr 378)), (3, .inl (v3 + (6 : Int32)))]) [1, 2, 3, 0] rfl k) ?_
                    exact ih (v3 + (6 : Int32)) D69
                  · refine ev_s (fun Q k => rn_iconst (v := 0) (by decide) dL_law_348 k) ?_
                    exact ev_ret (fun Q q => rn_ret q .boolean rfl rfl dL_law_349)
                · refine ev_ite (fun c84 => ?_) (fun c85 => ?_)
                  · refine ev_s (fun Q k => rn_tswI (off := 317) (tgt := 350) dL_law_33 (by rw [c84]; decide) (by rw [c84]; decide) (by rw [c84]; rfl) (by decide) k) ?_
                    refine ev_s (fun Q k => rn_aload_n (j := 1) 1 rfl rfl (okO_0 ok_18) dL_law_350 k) ?_
                    refine ev_s (fun Q k => rn_aload_n (j := 0) 0 rfl rfl (by decide) dL_law_351 k) ?_
                    refine ev_s (fun Q k => rn_iload_n (j := 3) 3 rfl rfl dL_law_352 k) ?_
                    refine ev_s (fun Q k => rn_iconst (v := 1) (by decide) dL_law_353 k) ?_
                    refine ev_s (fun Q k => rn_iadd dL_law_354 k) ?_
                    refine ev_gd (fun g74 => ?_)
                    refine ev_s (fun Q k => rn_scald2 hsX hsL (inR_vp g74) dL_law_355 k) ?_
                    refine ev_s (fun Q k => rn_aload_n (j := 0) 0 rfl rfl (by decide) dL_law_356 k) ?_
                    refine ev_s (fun Q k => rn_iload_n (j := 3) 3 rfl rfl dL_law_357 k) ?_
                    refine ev_s (fun Q k => rn_iconst (v := 2) (by decide) dL_law_358 k) ?_
                    refine ev_s (fun Q k => rn_iadd dL_law_359 k) ?_
                    refine ev_gd (fun g75 => ?_)
                    refine ev_s (fun Q k => rn_scald2 hsX hsL (inR_vp g75) dL_law_360 k) ?_
                    refine ev_bindI (as := [.inr (.inr 18), .inl (sX (v3 + (1 : Int32)).toNatClampNeg), .inl (sX (v3 + (2 : Int32)).toNatClampNeg)]) (fun Q Q1 => rn_callV (as := [.inl (sX (v3 + (1 : Int32)).toNatClampNeg), .inl (sX (v3 + (2 : Int32)).toNatClampNeg)]) (rest := []) (o := 18) m_L_42 dL_law_361 (rcv_own ok_18.1 ok_18.2.1 (by decide) (okO_1 ok_18)) rfl rfl (Nat.le_of_ble_eq_true rfl)) pl_X5_delay (Nat.le_of_ble_eq_true rfl) rfl (e_X5_delay l E (d + 4) (sX (v3 + (1 : Int32)).toNatClampNeg) (sX (v3 + (2 : Int32)).toNatClampNeg) D) (fun r76 D77 => ?_)
                    refine ev_s (fun Q k => rn_aload_n (j := 2) 2 rfl rfl (okO_0 ok_378) dL_law_364 k) ?_
                    refine ev_s (fun Q k => rn_aload_n (j := 0) 0 rfl rfl (by decide) dL_law_365 k) ?_
                    refine ev_s (fun Q k => rn_iload_n (j := 3) 3 rfl rfl dL_law_366 k) ?_
                    refine ev_s (fun Q k => rn_iconst (v := 1) (by decide) dL_law_367 k) ?_
                    refine ev_s (fun Q k => rn_iadd dL_law_368 k) ?_
                    refine ev_gd (fun g78 => ?_)
                    refine ev_s (fun Q k => rn_scald2 hsX hsL (inR_vp g78) dL_law_369 k) ?_
                    refine ev_s (fun Q k => rn_aload_n (j := 0) 0 rfl rfl (by decide) dL_law_370 k) ?_
                    refine ev_s (fun Q k => rn_iload_n (j := 3) 3 rfl rfl dL_law_371 k) ?_
                    refine ev_s (fun Q k => rn_iconst (v := 2) (by decide) dL_law_372 k) ?_
                    refine ev_s (fun Q k => rn_iadd dL_law_373 k) ?_
                    refine ev_gd (fun g79 => ?_)
                    refine ev_s (fun Q k => rn_scald2 hsX hsL (inR_vp g79) dL_law_374 k) ?_
                    refine ev_bindI (as := [.inr (.inr 378), .inl (sX (v3 + (1 : Int32)).toNatClampNeg), .inl (sX (v3 + (2 : Int32)).toNatClampNeg)]) (fun Q Q1 => rn_callV (as := [.inl (sX (v3 + (1 : Int32)).toNatClampNeg), .inl (sX (v3 + (2 : Int32)).toNatClampNeg)]) (rest := [.inl r76]) (o := 378) m_L_45 dL_law_375 (rcv_own ok_378.1 ok_378.2.1 (by decide) (okO_1 ok_378)) rfl rfl (Nat.le_of_ble_eq_true rfl)) pl_X6_delay (Nat.le_of_ble_eq_true rfl) rfl (e_X6_delay l E (d + 4) (sX (v3 + (1 : Int32)).toNatClampNeg) (sX (v3 + (2 : Int32)).toNatClampNeg) D77) (fun r80 D81 => ?_)
                    refine ev_if (fun Q => rn_icmp_eq (tgt := 860) dL_law_378 (by decide)) (fun c82 => ?_) (fun c83 => ?_)
                    · refine ev_s (fun Q k => rn_iinc (v := (v3 + (6 : Int32))) (ls' := [(3, .inl (v3 + (6 : Int32))), (0, .inr (.inr 17)), (1, .inr (.inr 18)), (2, .inr (.inr 378))]) 3 rfl rfl (by decide) rfl dL_law_860 k) ?_
                      refine ev_s (fun Q k => rn_goto (tgt := 18) dL_law_863 (by decide) k) ?_
                      refine ev_s (fun Q k => rn_sub (ls' := [(0, .inr (.inr 17)), (1, .inr (.inr 18)), (2, .inr (.inr 378)), (3, .inl (v3 + (6 : Int32)))]) [1, 2, 3, 0] rfl k) ?_
                      exact ih (v3 + (6 : Int32)) D81
                    · refine ev_s (fun Q k => rn_iconst (v := 0) (by decide) dL_law_381 k) ?_
                      exact ev_ret (fun Q q => rn_ret q .boolean rfl rfl dL_law_382)
                  · refine ev_ite (fun c94 => ?_) (fun c95 => ?_)
                    · refine ev_s (fun Q k => rn_tswI (off := 350) (tgt := 383) dL_law_33 (by rw [c94]; decide) (by rw [c94]; decide) (by rw [c94]; rfl) (by decide) k) ?_
                      refine ev_s (fun Q k => rn_aload_n (j := 1) 1 rfl rfl (okO_0 ok_18) dL_law_383 k) ?_
                      refine ev_s (fun Q k => rn_aload_n (j := 0) 0 rfl rfl (by decide) dL_law_384 k) ?_
                      refine ev_s (fun Q k => rn_iload_n (j := 3) 3 rfl rfl dL_law_385 k) ?_
                      refine ev_s (fun Q k => rn_iconst (v := 1) (by decide) dL_law_386 k) ?_
                      refine ev_s (fun Q k => rn_iadd dL_law_387 k) ?_
                      refine ev_gd (fun g86 => ?_)
                      refine ev_s (fun Q k => rn_scald2 hsX hsL (inR_vp g86) dL_law_388 k) ?_
                      refine ev_bindI (as := [.inr (.inr 18), .inl (sX (v3 + (1 : Int32)).toNatClampNeg)]) (fun Q Q1 => rn_callV (as := [.inl (sX (v3 + (1 : Int32)).toNatClampNeg)]) (rest := []) (o := 18) m_L_46 dL_law_389 (rcv_own ok_18.1 ok_18.2.1 (by decide) (okO_1 ok_18)) rfl rfl (Nat.le_of_ble_eq_true rfl)) pl_X5_callOff (Nat.le_of_ble_eq_true rfl) rfl (e_X5_callOff l E (d + 3) (sX (v3 + (1 : Int32)).toNatClampNeg) D) (fun r87 D88 => ?_)
                      refine ev_s (fun Q k => rn_aload_n (j := 2) 2 rfl rfl (okO_0 ok_378) dL_law_392 k) ?_
                      refine ev_s (fun Q k => rn_aload_n (j := 0) 0 rfl rfl (by decide) dL_law_393 k) ?_
                      refine ev_s (fun Q k => rn_iload_n (j := 3) 3 rfl rfl dL_law_394 k) ?_
                      refine ev_s (fun Q k => rn_iconst (v := 1) (by decide) dL_law_395 k) ?_
                      refine ev_s (fun Q k => rn_iadd dL_law_396 k) ?_
                      refine ev_gd (fun g89 => ?_)
                      refine ev_s (fun Q k => rn_scald2 hsX hsL (inR_vp g89) dL_law_397 k) ?_
                      refine ev_bindI (as := [.inr (.inr 378), .inl (sX (v3 + (1 : Int32)).toNatClampNeg)]) (fun Q Q1 => rn_callV (as := [.inl (sX (v3 + (1 : Int32)).toNatClampNeg)]) (rest := [.inl r87]) (o := 378) m_L_49 dL_law_398 (rcv_own ok_378.1 ok_378.2.1 (by decide) (okO_1 ok_378)) rfl rfl (Nat.le_of_ble_eq_true rfl)) pl_X6_callOff (Nat.le_of_ble_eq_true rfl) rfl (e_X6_callOff l E (d + 4) (sX (v3 + (1 : Int32)).toNatClampNeg) D88) (fun r90 D91 => ?_)
                      refine ev_if (fun Q => rn_icmp_eq (tgt := 860) dL_law_401 (by decide)) (fun c92 => ?_) (fun c93 => ?_)
                      · refine ev_s (fun Q k => rn_iinc (v := (v3 + (6 : Int32))) (ls' := [(3, .inl (v3 + (6 : Int32))), (0, .inr (.inr 17)), (1, .inr (.inr 18)), (2, .inr (.inr 378))]) 3 rfl rfl (by decide) rfl dL_law_860 k) ?_
                        refine ev_s (fun Q k => rn_goto (tgt := 18) dL_law_863 (by decide) k) ?_
                        refine ev_s (fun Q k => rn_sub (ls' := [(0, .inr (.inr 17)), (1, .inr (.inr 18)), (2, .inr (.inr 378)), (3, .inl (v3 + (6 : Int32)))]) [1, 2, 3, 0] rfl k) ?_
                        exact ih (v3 + (6 : Int32)) D91
                      · refine ev_s (fun Q k => rn_iconst (v := 0) (by decide) dL_law_404 k) ?_
                        exact ev_ret (fun Q q => rn_ret q .boolean rfl rfl dL_law_405)
                    · refine ev_ite (fun c104 => ?_) (fun c105 => ?_)
                      · refine ev_s (fun Q k => rn_tswI (off := 373) (tgt := 406) dL_law_33 (by rw [c104]; decide) (by rw [c104]; decide) (by rw [c104]; rfl) (by decide) k) ?_
                        refine ev_s (fun Q k => rn_aload_n (j := 1) 1 rfl rfl (okO_0 ok_18) dL_law_406 k) ?_
                        refine ev_s (fun Q k => rn_aload_n (j := 0) 0 rfl rfl (by decide) dL_law_407 k) ?_
                        refine ev_s (fun Q k => rn_iload_n (j := 3) 3 rfl rfl dL_law_408 k) ?_
                        refine ev_s (fun Q k => rn_iconst (v := 1) (by decide) dL_law_409 k) ?_
                        refine ev_s (fun Q k => rn_iadd dL_law_410 k) ?_
                        refine ev_gd (fun g96 => ?_)
                        refine ev_s (fun Q k => rn_scald2 hsX hsL (inR_vp g96) dL_law_411 k) ?_
                        refine ev_bindI (as := [.inr (.inr 18), .inl (sX (v3 + (1 : Int32)).toNatClampNeg)]) (fun Q Q1 => rn_callV (as := [.inl (sX (v3 + (1 : Int32)).toNatClampNeg)]) (rest := []) (o := 18) m_L_50 dL_law_412 (rcv_own ok_18.1 ok_18.2.1 (by decide) (okO_1 ok_18)) rfl rfl (Nat.le_of_ble_eq_true rfl)) pl_X5_pass (Nat.le_of_ble_eq_true rfl) rfl (e_X5_pass l E (d + 1) (sX (v3 + (1 : Int32)).toNatClampNeg) D) (fun r97 D98 => ?_)
                        refine ev_s (fun Q k => rn_aload_n (j := 2) 2 rfl rfl (okO_0 ok_378) dL_law_415 k) ?_
                        refine ev_s (fun Q k => rn_aload_n (j := 0) 0 rfl rfl (by decide) dL_law_416 k) ?_
                        refine ev_s (fun Q k => rn_iload_n (j := 3) 3 rfl rfl dL_law_417 k) ?_
                        refine ev_s (fun Q k => rn_iconst (v := 1) (by decide) dL_law_418 k) ?_
                        refine ev_s (fun Q k => rn_iadd dL_law_419 k) ?_
                        refine ev_gd (fun g99 => ?_)
                        refine ev_s (fun Q k => rn_scald2 hsX hsL (inR_vp g99) dL_law_420 k) ?_
                        refine ev_bindI (as := [.inr (.inr 378), .inl (sX (v3 + (1 : Int32)).toNatClampNeg)]) (fun Q Q1 => rn_callV (as := [.inl (sX (v3 + (1 : Int32)).toNatClampNeg)]) (rest := [.inl r97]) (o := 378) m_L_53 dL_law_421 (rcv_own ok_378.1 ok_378.2.1 (by decide) (okO_1 ok_378)) rfl rfl (Nat.le_of_ble_eq_true rfl)) pl_X6_pass (Nat.le_of_ble_eq_true rfl) rfl (e_X6_pass l E (d + 2) (sX (v3 + (1 : Int32)).toNatClampNeg) D98) (fun r100 D101 => ?_)
                        refine ev_if (fun Q => rn_icmp_eq (tgt := 860) dL_law_424 (by decide)) (fun c102 => ?_) (fun c103 => ?_)
                        · refine ev_s (fun Q k => rn_iinc (v := (v3 + (6 : Int32))) (ls' := [(3, .inl (v3 + (6 : Int32))), (0, .inr (.inr 17)), (1, .inr (.inr 18)), (2, .inr (.inr 378))]) 3 rfl rfl (by decide) rfl dL_law_860 k) ?_
                          refine ev_s (fun Q k => rn_goto (tgt := 18) dL_law_863 (by decide) k) ?_
                          refine ev_s (fun Q k => rn_sub (ls' := [(0, .inr (.inr 17)), (1, .inr (.inr 18)), (2, .inr (.inr 378)), (3, .inl (v3 + (6 : Int32)))]) [1, 2, 3, 0] rfl k) ?_
                          exact ih (v3 + (6 : Int32)) D101
                        · refine ev_s (fun Q k => rn_iconst (v := 0) (by decide) dL_law_427 k) ?_
                          exact ev_ret (fun Q q => rn_ret q .boolean rfl rfl dL_law_428)
                      · refine ev_ite (fun c116 => ?_) (fun c117 => ?_)
                        · refine ev_s (fun Q k => rn_tswI (off := 396) (tgt := 429) dL_law_33 (by rw [c116]; decide) (by rw [c116]; decide) (by rw [c116]; rfl) (by decide) k) ?_
                          refine ev_s (fun Q k => rn_aload_n (j := 1) 1 rfl rfl (okO_0 ok_18) dL_law_429 k) ?_
                          refine ev_s (fun Q k => rn_aload_n (j := 0) 0 rfl rfl (by decide) dL_law_430 k) ?_
                          refine ev_s (fun Q k => rn_iload_n (j := 3) 3 rfl rfl dL_law_431 k) ?_
                          refine ev_s (fun Q k => rn_iconst (v := 1) (by decide) dL_law_432 k) ?_
                          refine ev_s (fun Q k => rn_iadd dL_law_433 k) ?_
                          refine ev_gd (fun g106 => ?_)
                          refine ev_s (fun Q k => rn_scald2 hsX hsL (inR_vp g106) dL_law_434 k) ?_
                          refine ev_s (fun Q k => rn_aload_n (j := 0) 0 rfl rfl (by decide) dL_law_435 k) ?_
                          refine ev_s (fun Q k => rn_iload_n (j := 3) 3 rfl rfl dL_law_436 k) ?_
                          refine ev_s (fun Q k => rn_iconst (v := 2) (by decide) dL_law_437 k) ?_
                          refine ev_s (fun Q k => rn_iadd dL_law_438 k) ?_
                          refine ev_gd (fun g107 => ?_)
                          refine ev_s (fun Q k => rn_scald2 hsX hsL (inR_vp g107) dL_law_439 k) ?_
                          refine ev_bindI (as := [.inr (.inr 18), .inl (sX (v3 + (1 : Int32)).toNatClampNeg), .inl (sX (v3 + (2 : Int32)).toNatClampNeg)]) (fun Q Q1 => rn_callV (as := [.inl (sX (v3 + (1 : Int32)).toNatClampNeg), .inl (sX (v3 + (2 : Int32)).toNatClampNeg)]) (rest := []) (o := 18) m_L_54 dL_law_440 (rcv_own ok_18.1 ok_18.2.1 (by decide) (okO_1 ok_18)) rfl rfl (Nat.le_of_ble_eq_true rfl)) pl_X5_of (Nat.le_of_ble_eq_true rfl) rfl (e_X5_of l E (d + 4) (sX (v3 + (1 : Int32)).toNatClampNeg) (sX (v3 + (2 : Int32)).toNatClampNeg) D) (fun r108 D109 => ?_)
                          refine ev_s (fun Q k => rn_aload_n (j := 2) 2 rfl rfl (okO_0 ok_378) dL_law_443 k) ?_
                          refine ev_s (fun Q k => rn_aload_n (j := 0) 0 rfl rfl (by decide) dL_law_444 k) ?_
                          refine ev_s (fun Q k => rn_iload_n (j := 3) 3 rfl rfl dL_law_445 k) ?_
                          refine ev_s (fun Q k => rn_iconst (v := 1) (by decide) dL_law_446 k) ?_
                          refine ev_s (fun Q k => rn_iadd dL_law_447 k) ?_
                          refine ev_gd (fun g110 => ?_)
                          refine ev_s (fun Q k => rn_scald2 hsX hsL (inR_vp g110) dL_law_448 k) ?_
                          refine ev_s (fun Q k => rn_aload_n (j := 0) 0 rfl rfl (by decide) dL_law_449 k) ?_
                          refine ev_s (fun Q k => rn_iload_n (j := 3) 3 rfl rfl dL_law_450 k) ?_
                          refine ev_s (fun Q k => rn_iconst (v := 2) (by decide) dL_law_451 k) ?_
                          refine ev_s (fun Q k => rn_iadd dL_law_452 k) ?_
                          refine ev_gd (fun g111 => ?_)
                          refine ev_s (fun Q k => rn_scald2 hsX hsL (inR_vp g111) dL_law_453 k) ?_
                          refine ev_bindI (as := [.inr (.inr 378), .inl (sX (v3 + (1 : Int32)).toNatClampNeg), .inl (sX (v3 + (2 : Int32)).toNatClampNeg)]) (fun Q Q1 => rn_callV (as := [.inl (sX (v3 + (1 : Int32)).toNatClampNeg), .inl (sX (v3 + (2 : Int32)).toNatClampNeg)]) (rest := [.inl r108]) (o := 378) m_L_57 dL_law_454 (rcv_own ok_378.1 ok_378.2.1 (by decide) (okO_1 ok_378)) rfl rfl (Nat.le_of_ble_eq_true rfl)) pl_X6_of (Nat.le_of_ble_eq_true rfl) rfl (e_X6_of l E (d + 5) (sX (v3 + (1 : Int32)).toNatClampNeg) (sX (v3 + (2 : Int32)).toNatClampNeg) D109) (fun r112 D113 => ?_)
                          refine ev_if (fun Q => rn_icmp_eq (tgt := 860) dL_law_457 (by decide)) (fun c114 => ?_) (fun c115 => ?_)
                          · refine ev_s (fun Q k => rn_iinc (v := (v3 + (6 : Int32))) (ls' := [(3, .inl (v3 + (6 : Int32))), (0, .inr (.inr 17)), (1, .inr (.inr 18)), (2, .inr (.inr 378))]) 3 rfl rfl (by decide) rfl dL_law_860 k) ?_
                            refine ev_s (fun Q k => rn_goto (tgt := 18) dL_law_863 (by decide) k) ?_
                            refine ev_s (fun Q k => rn_sub (ls' := [(0, .inr (.inr 17)), (1, .inr (.inr 18)), (2, .inr (.inr 378)), (3, .inl (v3 + (6 : Int32)))]) [1, 2, 3, 0] rfl k) ?_
                            exact ih (v3 + (6 : Int32)) D113
                          · refine ev_s (fun Q k => rn_iconst (v := 0) (by decide) dL_law_460 k) ?_
                            exact ev_ret (fun Q q => rn_ret q .boolean rfl rfl dL_law_461)
                        · refine ev_ite (fun c128 => ?_) (fun c129 => ?_)
                          · refine ev_s (fun Q k => rn_tswI (off := 429) (tgt := 462) dL_law_33 (by rw [c128]; decide) (by rw [c128]; decide) (by rw [c128]; rfl) (by decide) k) ?_
                            refine ev_s (fun Q k => rn_aload_n (j := 1) 1 rfl rfl (okO_0 ok_18) dL_law_462 k) ?_
                            refine ev_s (fun Q k => rn_aload_n (j := 0) 0 rfl rfl (by decide) dL_law_463 k) ?_
                            refine ev_s (fun Q k => rn_iload_n (j := 3) 3 rfl rfl dL_law_464 k) ?_
                            refine ev_s (fun Q k => rn_iconst (v := 1) (by decide) dL_law_465 k) ?_
                            refine ev_s (fun Q k => rn_iadd dL_law_466 k) ?_
                            refine ev_gd (fun g118 => ?_)
                            refine ev_s (fun Q k => rn_scald2 hsX hsL (inR_vp g118) dL_law_467 k) ?_
                            refine ev_s (fun Q k => rn_aload_n (j := 0) 0 rfl rfl (by decide) dL_law_468 k) ?_
                            refine ev_s (fun Q k => rn_iload_n (j := 3) 3 rfl rfl dL_law_469 k) ?_
                            refine ev_s (fun Q k => rn_iconst (v := 2) (by decide) dL_law_470 k) ?_
                            refine ev_s (fun Q k => rn_iadd dL_law_471 k) ?_
                            refine ev_gd (fun g119 => ?_)
                            refine ev_s (fun Q k => rn_scald2 hsX hsL (inR_vp g119) dL_law_472 k) ?_
                            refine ev_bindI (as := [.inr (.inr 18), .inl (sX (v3 + (1 : Int32)).toNatClampNeg), .inl (sX (v3 + (2 : Int32)).toNatClampNeg)]) (fun Q Q1 => rn_callV (as := [.inl (sX (v3 + (1 : Int32)).toNatClampNeg), .inl (sX (v3 + (2 : Int32)).toNatClampNeg)]) (rest := []) (o := 18) m_L_58 dL_law_473 (rcv_own ok_18.1 ok_18.2.1 (by decide) (okO_1 ok_18)) rfl rfl (Nat.le_of_ble_eq_true rfl)) pl_X5_ofJob (Nat.le_of_ble_eq_true rfl) rfl (e_X5_ofJob l E (d + 5) (sX (v3 + (1 : Int32)).toNatClampNeg) (sX (v3 + (2 : Int32)).toNatClampNeg) D) (fun r120 D121 => ?_)
                            refine ev_s (fun Q k => rn_aload_n (j := 2) 2 rfl rfl (okO_0 ok_378) dL_law_476 k) ?_
                            refine ev_s (fun Q k => rn_aload_n (j := 0) 0 rfl rfl (by decide) dL_law_477 k) ?_
                            refine ev_s (fun Q k => rn_iload_n (j := 3) 3 rfl rfl dL_law_478 k) ?_
                            refine ev_s (fun Q k => rn_iconst (v := 1) (by decide) dL_law_479 k) ?_
                            refine ev_s (fun Q k => rn_iadd dL_law_480 k) ?_
                            refine ev_gd (fun g122 => ?_)
                            refine ev_s (fun Q k => rn_scald2 hsX hsL (inR_vp g122) dL_law_481 k) ?_
                            refine ev_s (fun Q k => rn_aload_n (j := 0) 0 rfl rfl (by decide) dL_law_482 k) ?_
                            refine ev_s (fun Q k => rn_iload_n (j := 3) 3 rfl rfl dL_law_483 k) ?_
                            refine ev_s (fun Q k => rn_iconst (v := 2) (by decide) dL_law_484 k) ?_
                            refine ev_s (fun Q k => rn_iadd dL_law_485 k) ?_
                            refine ev_gd (fun g123 => ?_)
                            refine ev_s (fun Q k => rn_scald2 hsX hsL (inR_vp g123) dL_law_486 k) ?_
                            refine ev_bindI (as := [.inr (.inr 378), .inl (sX (v3 + (1 : Int32)).toNatClampNeg), .inl (sX (v3 + (2 : Int32)).toNatClampNeg)]) (fun Q Q1 => rn_callV (as := [.inl (sX (v3 + (1 : Int32)).toNatClampNeg), .inl (sX (v3 + (2 : Int32)).toNatClampNeg)]) (rest := [.inl r120]) (o := 378) m_L_61 dL_law_487 (rcv_own ok_378.1 ok_378.2.1 (by decide) (okO_1 ok_378)) rfl rfl (Nat.le_of_ble_eq_true rfl)) pl_X6_ofJob (Nat.le_of_ble_eq_true rfl) rfl (e_X6_ofJob l E (d + 5) (sX (v3 + (1 : Int32)).toNatClampNeg) (sX (v3 + (2 : Int32)).toNatClampNeg) D121) (fun r124 D125 => ?_)
                            refine ev_if (fun Q => rn_icmp_eq (tgt := 860) dL_law_490 (by decide)) (fun c126 => ?_) (fun c127 => ?_)
                            · refine ev_s (fun Q k => rn_iinc (v := (v3 + (6 : Int32))) (ls' := [(3, .inl (v3 + (6 : Int32))), (0, .inr (.inr 17)), (1, .inr (.inr 18)), (2, .inr (.inr 378))]) 3 rfl rfl (by decide) rfl dL_law_860 k) ?_
                              refine ev_s (fun Q k => rn_goto (tgt := 18) dL_law_863 (by decide) k) ?_
                              refine ev_s (fun Q k => rn_sub (ls' := [(0, .inr (.inr 17)), (1, .inr (.inr 18)), (2, .inr (.inr 378)), (3, .inl (v3 + (6 : Int32)))]) [1, 2, 3, 0] rfl k) ?_
                              exact ih (v3 + (6 : Int32)) D125
                            · refine ev_s (fun Q k => rn_iconst (v := 0) (by decide) dL_law_493 k) ?_
                              exact ev_ret (fun Q q => rn_ret q .boolean rfl rfl dL_law_494)
                          · refine ev_ite (fun c138 => ?_) (fun c139 => ?_)
                            · refine ev_s (fun Q k => rn_tswI (off := 462) (tgt := 495) dL_law_33 (by rw [c138]; decide) (by rw [c138]; decide) (by rw [c138]; rfl) (by decide) k) ?_
                              refine ev_s (fun Q k => rn_aload_n (j := 1) 1 rfl rfl (okO_0 ok_18) dL_law_495 k) ?_
                              refine ev_s (fun Q k => rn_aload_n (j := 0) 0 rfl rfl (by decide) dL_law_496 k) ?_
                              refine ev_s (fun Q k => rn_iload_n (j := 3) 3 rfl rfl dL_law_497 k) ?_
                              refine ev_s (fun Q k => rn_iconst (v := 1) (by decide) dL_law_498 k) ?_
                              refine ev_s (fun Q k => rn_iadd dL_law_499 k) ?_
                              refine ev_gd (fun g130 => ?_)
                              refine ev_s (fun Q k => rn_scald2 hsX hsL (inR_vp g130) dL_law_500 k) ?_
                              refine ev_bindI (as := [.inr (.inr 18), .inl (sX (v3 + (1 : Int32)).toNatClampNeg)]) (fun Q Q1 => rn_callV (as := [.inl (sX (v3 + (1 : Int32)).toNatClampNeg)]) (rest := []) (o := 18) m_L_62 dL_law_501 (rcv_own ok_18.1 ok_18.2.1 (by decide) (okO_1 ok_18)) rfl rfl (Nat.le_of_ble_eq_true rfl)) pl_X5_waiting (Nat.le_of_ble_eq_true rfl) rfl (e_X5_waiting l E (d + 3) (sX (v3 + (1 : Int32)).toNatClampNeg) D) (fun r131 D132 => ?_)
                              refine ev_s (fun Q k => rn_aload_n (j := 2) 2 rfl rfl (okO_0 ok_378) dL_law_504 k) ?_
                              refine ev_s (fun Q k => rn_aload_n (j := 0) 0 rfl rfl (by decide) dL_law_505 k) ?_
                              refine ev_s (fun Q k => rn_iload_n (j := 3) 3 rfl rfl dL_law_506 k) ?_
                              refine ev_s (fun Q k => rn_iconst (v := 1) (by decide) dL_law_507 k) ?_
                              refine ev_s (fun Q k => rn_iadd dL_law_508 k) ?_
                              refine ev_gd (fun g133 => ?_)
                              refine ev_s (fun Q k => rn_scald2 hsX hsL (inR_vp g133) dL_law_509 k) ?_
                              refine ev_bindI (as := [.inr (.inr 378), .inl (sX (v3 + (1 : Int32)).toNatClampNeg)]) (fun Q Q1 => rn_callV (as := [.inl (sX (v3 + (1 : Int32)).toNatClampNeg)]) (rest := [.inl r131]) (o := 378) m_L_65 dL_law_510 (rcv_own ok_378.1 ok_378.2.1 (by decide) (okO_1 ok_378)) rfl rfl (Nat.le_of_ble_eq_true rfl)) pl_X6_waiting (Nat.le_of_ble_eq_true rfl) rfl (e_X6_waiting l E (d + 4) (sX (v3 + (1 : Int32)).toNatClampNeg) D132) (fun r134 D135 => ?_)
                              refine ev_if (fun Q => rn_icmp_eq (tgt := 860) dL_law_513 (by decide)) (fun c136 => ?_) (fun c137 => ?_)
                              · refine ev_s (fun Q k => rn_iinc (v := (v3 + (6 : Int32))) (ls' := [(3, .inl (v3 + (6 : Int32))), (0, .inr (.inr 17)), (1, .inr (.inr 18)), (2, .inr (.inr 378))]) 3 rfl rfl (by decide) rfl dL_law_860 k) ?_
                                refine ev_s (fun Q k => rn_goto (tgt := 18) dL_law_863 (by decide) k) ?_
                                refine ev_s (fun Q k => rn_sub (ls' := [(0, .inr (.inr 17)), (1, .inr (.inr 18)), (2, .inr (.inr 378)), (3, .inl (v3 + (6 : Int32)))]) [1, 2, 3, 0] rfl k) ?_
                                exact ih (v3 + (6 : Int32)) D135
                              · refine ev_s (fun Q k => rn_iconst (v := 0) (by decide) dL_law_516 k) ?_
                                exact ev_ret (fun Q q => rn_ret q .boolean rfl rfl dL_law_517)
                            · refine ev_ite (fun c150 => ?_) (fun c151 => ?_)
                              · refine ev_s (fun Q k => rn_tswI (off := 485) (tgt := 518) dL_law_33 (by rw [c150]; decide) (by rw [c150]; decide) (by rw [c150]; rfl) (by decide) k) ?_
                                refine ev_s (fun Q k => rn_aload_n (j := 1) 1 rfl rfl (okO_0 ok_18) dL_law_518 k) ?_
                                refine ev_s (fun Q k => rn_aload_n (j := 0) 0 rfl rfl (by decide) dL_law_519 k) ?_
                                refine ev_s (fun Q k => rn_iload_n (j := 3) 3 rfl rfl dL_law_520 k) ?_
                                refine ev_s (fun Q k => rn_iconst (v := 1) (by decide) dL_law_521 k) ?_
                                refine ev_s (fun Q k => rn_iadd dL_law_522 k) ?_
                                refine ev_gd (fun g140 => ?_)
                                refine ev_s (fun Q k => rn_scald2 hsX hsL (inR_vp g140) dL_law_523 k) ?_
                                refine ev_s (fun Q k => rn_aload_n (j := 0) 0 rfl rfl (by decide) dL_law_524 k) ?_
                                refine ev_s (fun Q k => rn_iload_n (j := 3) 3 rfl rfl dL_law_525 k) ?_
                                refine ev_s (fun Q k => rn_iconst (v := 2) (by decide) dL_law_526 k) ?_
                                refine ev_s (fun Q k => rn_iadd dL_law_527 k) ?_
                                refine ev_gd (fun g141 => ?_)
                                refine ev_s (fun Q k => rn_scald2 hsX hsL (inR_vp g141) dL_law_528 k) ?_
                                refine ev_bindI (as := [.inr (.inr 18), .inl (sX (v3 + (1 : Int32)).toNatClampNeg), .inl (sX (v3 + (2 : Int32)).toNatClampNeg)]) (fun Q Q1 => rn_callV (as := [.inl (sX (v3 + (1 : Int32)).toNatClampNeg), .inl (sX (v3 + (2 : Int32)).toNatClampNeg)]) (rest := []) (o := 18) m_L_66 dL_law_529 (rcv_own ok_18.1 ok_18.2.1 (by decide) (okO_1 ok_18)) rfl rfl (Nat.le_of_ble_eq_true rfl)) pl_X5_straps (Nat.le_of_ble_eq_true rfl) rfl (e_X5_straps l E (d + 6) (sX (v3 + (1 : Int32)).toNatClampNeg) (sX (v3 + (2 : Int32)).toNatClampNeg) D) (fun r142 D143 => ?_)
                                refine ev_s (fun Q k => rn_aload_n (j := 2) 2 rfl rfl (okO_0 ok_378) dL_law_532 k) ?_
                                refine ev_s (fun Q k => rn_aload_n (j := 0) 0 rfl rfl (by decide) dL_law_533 k) ?_
                                refine ev_s (fun Q k => rn_iload_n (j := 3) 3 rfl rfl dL_law_534 k) ?_
                                refine ev_s (fun Q k => rn_iconst (v := 1) (by decide) dL_law_535 k) ?_
                                refine ev_s (fun Q k => rn_iadd dL_law_536 k) ?_
                                refine ev_gd (fun g144 => ?_)
                                refine ev_s (fun Q k => rn_scald2 hsX hsL (inR_vp g144) dL_law_537 k) ?_
                                refine ev_s (fun Q k => rn_aload_n (j := 0) 0 rfl rfl (by decide) dL_law_538 k) ?_
                                refine ev_s (fun Q k => rn_iload_n (j := 3) 3 rfl rfl dL_law_539 k) ?_
                                refine ev_s (fun Q k => rn_iconst (v := 2) (by decide) dL_law_540 k) ?_
                                refine ev_s (fun Q k => rn_iadd dL_law_541 k) ?_
                                refine ev_gd (fun g145 => ?_)
                                refine ev_s (fun Q k => rn_scald2 hsX hsL (inR_vp g145) dL_law_542 k) ?_
                                refine ev_bindI (as := [.inr (.inr 378), .inl (sX (v3 + (1 : Int32)).toNatClampNeg), .inl (sX (v3 + (2 : Int32)).toNatClampNeg)]) (fun Q Q1 => rn_callV (as := [.inl (sX (v3 + (1 : Int32)).toNatClampNeg), .inl (sX (v3 + (2 : Int32)).toNatClampNeg)]) (rest := [.inl r142]) (o := 378) m_L_69 dL_law_543 (rcv_own ok_378.1 ok_378.2.1 (by decide) (okO_1 ok_378)) rfl rfl (Nat.le_of_ble_eq_true rfl)) pl_X6_straps (Nat.le_of_ble_eq_true rfl) rfl (e_X6_straps l E (d + 5) (sX (v3 + (1 : Int32)).toNatClampNeg) (sX (v3 + (2 : Int32)).toNatClampNeg) D143) (fun r146 D147 => ?_)
                                refine ev_if (fun Q => rn_icmp_eq (tgt := 860) dL_law_546 (by decide)) (fun c148 => ?_) (fun c149 => ?_)
                                · refine ev_s (fun Q k => rn_iinc (v := (v3 + (6 : Int32))) (ls' := [(3, .inl (v3 + (6 : Int32))), (0, .inr (.inr 17)), (1, .inr (.inr 18)), (2, .inr (.inr 378))]) 3 rfl rfl (by decide) rfl dL_law_860 k) ?_
                                  refine ev_s (fun Q k => rn_goto (tgt := 18) dL_law_863 (by decide) k) ?_
                                  refine ev_s (fun Q k => rn_sub (ls' := [(0, .inr (.inr 17)), (1, .inr (.inr 18)), (2, .inr (.inr 378)), (3, .inl (v3 + (6 : Int32)))]) [1, 2, 3, 0] rfl k) ?_
                                  exact ih (v3 + (6 : Int32)) D147
                                · refine ev_s (fun Q k => rn_iconst (v := 0) (by decide) dL_law_549 k) ?_
                                  exact ev_ret (fun Q q => rn_ret q .boolean rfl rfl dL_law_550)
                              · refine ev_ite (fun c160 => ?_) (fun c161 => ?_)
                                · refine ev_s (fun Q k => rn_tswI (off := 518) (tgt := 551) dL_law_33 (by rw [c160]; decide) (by rw [c160]; decide) (by rw [c160]; rfl) (by decide) k) ?_
                                  refine ev_s (fun Q k => rn_aload_n (j := 1) 1 rfl rfl (okO_0 ok_18) dL_law_551 k) ?_
                                  refine ev_s (fun Q k => rn_aload_n (j := 0) 0 rfl rfl (by decide) dL_law_552 k) ?_
                                  refine ev_s (fun Q k => rn_iload_n (j := 3) 3 rfl rfl dL_law_553 k) ?_
                                  refine ev_s (fun Q k => rn_iconst (v := 1) (by decide) dL_law_554 k) ?_
                                  refine ev_s (fun Q k => rn_iadd dL_law_555 k) ?_
                                  refine ev_gd (fun g152 => ?_)
                                  refine ev_s (fun Q k => rn_scald2 hsX hsL (inR_vp g152) dL_law_556 k) ?_
                                  refine ev_bindI (as := [.inr (.inr 18), .inl (sX (v3 + (1 : Int32)).toNatClampNeg)]) (fun Q Q1 => rn_callV (as := [.inl (sX (v3 + (1 : Int32)).toNatClampNeg)]) (rest := []) (o := 18) m_L_70 dL_law_557 (rcv_own ok_18.1 ok_18.2.1 (by decide) (okO_1 ok_18)) rfl rfl (Nat.le_of_ble_eq_true rfl)) pl_X5_count (Nat.le_of_ble_eq_true rfl) rfl (e_X5_count l E (d + 4) (sX (v3 + (1 : Int32)).toNatClampNeg) D) (fun r153 D154 => ?_)
                                  refine ev_s (fun Q k => rn_aload_n (j := 2) 2 rfl rfl (okO_0 ok_378) dL_law_560 k) ?_
                                  refine ev_s (fun Q k => rn_aload_n (j := 0) 0 rfl rfl (by decide) dL_law_561 k) ?_
                                  refine ev_s (fun Q k => rn_iload_n (j := 3) 3 rfl rfl dL_law_562 k) ?_
                                  refine ev_s (fun Q k => rn_iconst (v := 1) (by decide) dL_law_563 k) ?_
                                  refine ev_s (fun Q k => rn_iadd dL_law_564 k) ?_
                                  refine ev_gd (fun g155 => ?_)
                                  refine ev_s (fun Q k => rn_scald2 hsX hsL (inR_vp g155) dL_law_565 k) ?_
                                  refine ev_bindI (as := [.inr (.inr 378), .inl (sX (v3 + (1 : Int32)).toNatClampNeg)]) (fun Q Q1 => rn_callV (as := [.inl (sX (v3 + (1 : Int32)).toNatClampNeg)]) (rest := [.inl r153]) (o := 378) m_L_73 dL_law_566 (rcv_own ok_378.1 ok_378.2.1 (by decide) (okO_1 ok_378)) rfl rfl (Nat.le_of_ble_eq_true rfl)) pl_X6_count (Nat.le_of_ble_eq_true rfl) rfl (e_X6_count l E (d + 4) (sX (v3 + (1 : Int32)).toNatClampNeg) D154) (fun r156 D157 => ?_)
                                  refine ev_if (fun Q => rn_icmp_eq (tgt := 860) dL_law_569 (by decide)) (fun c158 => ?_) (fun c159 => ?_)
                                  · refine ev_s (fun Q k => rn_iinc (v := (v3 + (6 : Int32))) (ls' := [(3, .inl (v3 + (6 : Int32))), (0, .inr (.inr 17)), (1, .inr (.inr 18)), (2, .inr (.inr 378))]) 3 rfl rfl (by decide) rfl dL_law_860 k) ?_
                                    refine ev_s (fun Q k => rn_goto (tgt := 18) dL_law_863 (by decide) k) ?_
                                    refine ev_s (fun Q k => rn_sub (ls' := [(0, .inr (.inr 17)), (1, .inr (.inr 18)), (2, .inr (.inr 378)), (3, .inl (v3 + (6 : Int32)))]) [1, 2, 3, 0] rfl k) ?_
                                    exact ih (v3 + (6 : Int32)) D157
                                  · refine ev_s (fun Q k => rn_iconst (v := 0) (by decide) dL_law_572 k) ?_
                                    exact ev_ret (fun Q q => rn_ret q .boolean rfl rfl dL_law_573)
                                · refine ev_ite (fun c174 => ?_) (fun c175 => ?_)
                                  · refine ev_s (fun Q k => rn_tswI (off := 541) (tgt := 574) dL_law_33 (by rw [c174]; decide) (by rw [c174]; decide) (by rw [c174]; rfl) (by decide) k) ?_
                                    refine ev_s (fun Q k => rn_aload_n (j := 1) 1 rfl rfl (okO_0 ok_18) dL_law_574 k) ?_
                                    refine ev_s (fun Q k => rn_aload_n (j := 0) 0 rfl rfl (by decide) dL_law_575 k) ?_
                                    refine ev_s (fun Q k => rn_iload_n (j := 3) 3 rfl rfl dL_law_576 k) ?_
                                    refine ev_s (fun Q k => rn_iconst (v := 1) (by decide) dL_law_577 k) ?_
                                    refine ev_s (fun Q k => rn_iadd dL_law_578 k) ?_
                                    refine ev_gd (fun g162 => ?_)
                                    refine ev_s (fun Q k => rn_scald2 hsX hsL (inR_vp g162) dL_law_579 k) ?_
                                    refine ev_s (fun Q k => rn_aload_n (j := 0) 0 rfl rfl (by decide) dL_law_580 k) ?_
                                    refine ev_s (fun Q k => rn_iload_n (j := 3) 3 rfl rfl dL_law_581 k) ?_
                                    refine ev_s (fun Q k => rn_iconst (v := 2) (by decide) dL_law_582 k) ?_
                                    refine ev_s (fun Q k => rn_iadd dL_law_583 k) ?_
                                    refine ev_gd (fun g163 => ?_)
                                    refine ev_s (fun Q k => rn_scald2 hsX hsL (inR_vp g163) dL_law_584 k) ?_
                                    refine ev_s (fun Q k => rn_aload_n (j := 0) 0 rfl rfl (by decide) dL_law_585 k) ?_
                                    refine ev_s (fun Q k => rn_iload_n (j := 3) 3 rfl rfl dL_law_586 k) ?_
                                    refine ev_s (fun Q k => rn_iconst (v := 3) (by decide) dL_law_587 k) ?_
                                    refine ev_s (fun Q k => rn_iadd dL_law_588 k) ?_
                                    refine ev_gd (fun g164 => ?_)
                                    refine ev_s (fun Q k => rn_scald2 hsX hsL (inR_vp g164) dL_law_589 k) ?_
                                    refine ev_bindI (as := [.inr (.inr 18), .inl (sX (v3 + (1 : Int32)).toNatClampNeg), .inl (sX (v3 + (2 : Int32)).toNatClampNeg), .inl (sX (v3 + (3 : Int32)).toNatClampNeg)]) (fun Q Q1 => rn_callV (as := [.inl (sX (v3 + (1 : Int32)).toNatClampNeg), .inl (sX (v3 + (2 : Int32)).toNatClampNeg), .inl (sX (v3 + (3 : Int32)).toNatClampNeg)]) (rest := []) (o := 18) m_L_74 dL_law_590 (rcv_own ok_18.1 ok_18.2.1 (by decide) (okO_1 ok_18)) rfl rfl (Nat.le_of_ble_eq_true rfl)) pl_X5_why (Nat.le_of_ble_eq_true rfl) rfl (e_X5_why l E (d + 4) (sX (v3 + (1 : Int32)).toNatClampNeg) (sX (v3 + (2 : Int32)).toNatClampNeg) (sX (v3 + (3 : Int32)).toNatClampNeg) D) (fun r165 D166 => ?_)
                                    refine ev_s (fun Q k => rn_aload_n (j := 2) 2 rfl rfl (okO_0 ok_378) dL_law_593 k) ?_
                                    refine ev_s (fun Q k => rn_aload_n (j := 0) 0 rfl rfl (by decide) dL_law_594 k) ?_
                                    refine ev_s (fun Q k => rn_iload_n (j := 3) 3 rfl rfl dL_law_595 k) ?_
                                    refine ev_s (fun Q k => rn_iconst (v := 1) (by decide) dL_law_596 k) ?_
                                    refine ev_s (fun Q k => rn_iadd dL_law_597 k) ?_
                                    refine ev_gd (fun g167 => ?_)
                                    refine ev_s (fun Q k => rn_scald2 hsX hsL (inR_vp g167) dL_law_598 k) ?_
                                    refine ev_s (fun Q k => rn_aload_n (j := 0) 0 rfl rfl (by decide) dL_law_599 k) ?_
                                    refine ev_s (fun Q k => rn_iload_n (j := 3) 3 rfl rfl dL_law_600 k) ?_
                                    refine ev_s (fun Q k => rn_iconst (v := 2) (by decide) dL_law_601 k) ?_
                                    refine ev_s (fun Q k => rn_iadd dL_law_602 k) ?_
                                    refine ev_gd (fun g168 => ?_)
                                    refine ev_s (fun Q k => rn_scald2 hsX hsL (inR_vp g168) dL_law_603 k) ?_
                                    refine ev_s (fun Q k => rn_aload_n (j := 0) 0 rfl rfl (by decide) dL_law_604 k) ?_
                                    refine ev_s (fun Q k => rn_iload_n (j := 3) 3 rfl rfl dL_law_605 k) ?_
                                    refine ev_s (fun Q k => rn_iconst (v := 3) (by decide) dL_law_606 k) ?_
                                    refine ev_s (fun Q k => rn_iadd dL_law_607 k) ?_
                                    refine ev_gd (fun g169 => ?_)
                                    refine ev_s (fun Q k => rn_scald2 hsX hsL (inR_vp g169) dL_law_608 k) ?_
                                    refine ev_bindI (as := [.inr (.inr 378), .inl (sX (v3 + (1 : Int32)).toNatClampNeg), .inl (sX (v3 + (2 : Int32)).toNatClampNeg), .inl (sX (v3 + (3 : Int32)).toNatClampNeg)]) (fun Q Q1 => rn_callV (as := [.inl (sX (v3 + (1 : Int32)).toNatClampNeg), .inl (sX (v3 + (2 : Int32)).toNatClampNeg), .inl (sX (v3 + (3 : Int32)).toNatClampNeg)]) (rest := [.inl r165]) (o := 378) m_L_77 dL_law_609 (rcv_own ok_378.1 ok_378.2.1 (by decide) (okO_1 ok_378)) rfl rfl (Nat.le_of_ble_eq_true rfl)) pl_X6_why (Nat.le_of_ble_eq_true rfl) rfl (e_X6_why l E (d + 3) (sX (v3 + (1 : Int32)).toNatClampNeg) (sX (v3 + (2 : Int32)).toNatClampNeg) (sX (v3 + (3 : Int32)).toNatClampNeg) D166) (fun r170 D171 => ?_)
                                    refine ev_if (fun Q => rn_icmp_eq (tgt := 860) dL_law_612 (by decide)) (fun c172 => ?_) (fun c173 => ?_)
                                    · refine ev_s (fun Q k => rn_iinc (v := (v3 + (6 : Int32))) (ls' := [(3, .inl (v3 + (6 : Int32))), (0, .inr (.inr 17)), (1, .inr (.inr 18)), (2, .inr (.inr 378))]) 3 rfl rfl (by decide) rfl dL_law_860 k) ?_
                                      refine ev_s (fun Q k => rn_goto (tgt := 18) dL_law_863 (by decide) k) ?_
                                      refine ev_s (fun Q k => rn_sub (ls' := [(0, .inr (.inr 17)), (1, .inr (.inr 18)), (2, .inr (.inr 378)), (3, .inl (v3 + (6 : Int32)))]) [1, 2, 3, 0] rfl k) ?_
                                      exact ih (v3 + (6 : Int32)) D171
                                    · refine ev_s (fun Q k => rn_iconst (v := 0) (by decide) dL_law_615 k) ?_
                                      exact ev_ret (fun Q q => rn_ret q .boolean rfl rfl dL_law_616)
                                  · refine ev_ite (fun c186 => ?_) (fun c187 => ?_)
                                    · refine ev_s (fun Q k => rn_tswI (off := 584) (tgt := 617) dL_law_33 (by rw [c186]; decide) (by rw [c186]; decide) (by rw [c186]; rfl) (by decide) k) ?_
                                      refine ev_s (fun Q k => rn_aload_n (j := 1) 1 rfl rfl (okO_0 ok_18) dL_law_617 k) ?_
                                      refine ev_s (fun Q k => rn_aload_n (j := 0) 0 rfl rfl (by decide) dL_law_618 k) ?_
                                      refine ev_s (fun Q k => rn_iload_n (j := 3) 3 rfl rfl dL_law_619 k) ?_
                                      refine ev_s (fun Q k => rn_iconst (v := 1) (by decide) dL_law_620 k) ?_
                                      refine ev_s (fun Q k => rn_iadd dL_law_621 k) ?_
                                      refine ev_gd (fun g176 => ?_)
                                      refine ev_s (fun Q k => rn_scald2 hsX hsL (inR_vp g176) dL_law_622 k) ?_
                                      refine ev_s (fun Q k => rn_aload_n (j := 0) 0 rfl rfl (by decide) dL_law_623 k) ?_
                                      refine ev_s (fun Q k => rn_iload_n (j := 3) 3 rfl rfl dL_law_624 k) ?_
                                      refine ev_s (fun Q k => rn_iconst (v := 2) (by decide) dL_law_625 k) ?_
                                      refine ev_s (fun Q k => rn_iadd dL_law_626 k) ?_
                                      refine ev_gd (fun g177 => ?_)
                                      refine ev_s (fun Q k => rn_scald2 hsX hsL (inR_vp g177) dL_law_627 k) ?_
                                      refine ev_bindI (as := [.inr (.inr 18), .inl (sX (v3 + (1 : Int32)).toNatClampNeg), .inl (sX (v3 + (2 : Int32)).toNatClampNeg)]) (fun Q Q1 => rn_callV (as := [.inl (sX (v3 + (1 : Int32)).toNatClampNeg), .inl (sX (v3 + (2 : Int32)).toNatClampNeg)]) (rest := []) (o := 18) m_L_78 dL_law_628 (rcv_own ok_18.1 ok_18.2.1 (by decide) (okO_1 ok_18)) rfl rfl (Nat.le_of_ble_eq_true rfl)) pl_X5_crew (Nat.le_of_ble_eq_true rfl) rfl (e_X5_crew l E (d + 4) (sX (v3 + (1 : Int32)).toNatClampNeg) (sX (v3 + (2 : Int32)).toNatClampNeg) D) (fun r178 D179 => ?_)
                                      refine ev_s (fun Q k => rn_aload_n (j := 2) 2 rfl rfl (okO_0 ok_378) dL_law_631 k) ?_
                                      refine ev_s (fun Q k => rn_aload_n (j := 0) 0 rfl rfl (by decide) dL_law_632 k) ?_
                                      refine ev_s (fun Q k => rn_iload_n (j := 3) 3 rfl rfl dL_law_633 k) ?_
                                      refine ev_s (fun Q k => rn_iconst (v := 1) (by decide) dL_law_634 k) ?_
                                      refine ev_s (fun Q k => rn_iadd dL_law_635 k) ?_
                                      refine ev_gd (fun g180 => ?_)
                                      refine ev_s (fun Q k => rn_scald2 hsX hsL (inR_vp g180) dL_law_636 k) ?_
                                      refine ev_s (fun Q k => rn_aload_n (j := 0) 0 rfl rfl (by decide) dL_law_637 k) ?_
                                      refine ev_s (fun Q k => rn_iload_n (j := 3) 3 rfl rfl dL_law_638 k) ?_
                                      refine ev_s (fun Q k => rn_iconst (v := 2) (by decide) dL_law_639 k) ?_
                                      refine ev_s (fun Q k => rn_iadd dL_law_640 k) ?_
                                      refine ev_gd (fun g181 => ?_)
                                      refine ev_s (fun Q k => rn_scald2 hsX hsL (inR_vp g181) dL_law_641 k) ?_
                                      refine ev_bindI (as := [.inr (.inr 378), .inl (sX (v3 + (1 : Int32)).toNatClampNeg), .inl (sX (v3 + (2 : Int32)).toNatClampNeg)]) (fun Q Q1 => rn_callV (as := [.inl (sX (v3 + (1 : Int32)).toNatClampNeg), .inl (sX (v3 + (2 : Int32)).toNatClampNeg)]) (rest := [.inl r178]) (o := 378) m_L_81 dL_law_642 (rcv_own ok_378.1 ok_378.2.1 (by decide) (okO_1 ok_378)) rfl rfl (Nat.le_of_ble_eq_true rfl)) pl_X6_crew (Nat.le_of_ble_eq_true rfl) rfl (e_X6_crew l E (d + 3) (sX (v3 + (1 : Int32)).toNatClampNeg) (sX (v3 + (2 : Int32)).toNatClampNeg) D179) (fun r182 D183 => ?_)
                                      refine ev_if (fun Q => rn_icmp_eq (tgt := 860) dL_law_645 (by decide)) (fun c184 => ?_) (fun c185 => ?_)
                                      · refine ev_s (fun Q k => rn_iinc (v := (v3 + (6 : Int32))) (ls' := [(3, .inl (v3 + (6 : Int32))), (0, .inr (.inr 17)), (1, .inr (.inr 18)), (2, .inr (.inr 378))]) 3 rfl rfl (by decide) rfl dL_law_860 k) ?_
                                        refine ev_s (fun Q k => rn_goto (tgt := 18) dL_law_863 (by decide) k) ?_
                                        refine ev_s (fun Q k => rn_sub (ls' := [(0, .inr (.inr 17)), (1, .inr (.inr 18)), (2, .inr (.inr 378)), (3, .inl (v3 + (6 : Int32)))]) [1, 2, 3, 0] rfl k) ?_
                                        exact ih (v3 + (6 : Int32)) D183
                                      · refine ev_s (fun Q k => rn_iconst (v := 0) (by decide) dL_law_648 k) ?_
                                        exact ev_ret (fun Q q => rn_ret q .boolean rfl rfl dL_law_649)
                                    · refine ev_ite (fun c196 => ?_) (fun c197 => ?_)
                                      · refine ev_s (fun Q k => rn_tswI (off := 617) (tgt := 650) dL_law_33 (by rw [c196]; decide) (by rw [c196]; decide) (by rw [c196]; rfl) (by decide) k) ?_
                                        refine ev_s (fun Q k => rn_aload_n (j := 1) 1 rfl rfl (okO_0 ok_18) dL_law_650 k) ?_
                                        refine ev_s (fun Q k => rn_aload_n (j := 0) 0 rfl rfl (by decide) dL_law_651 k) ?_
                                        refine ev_s (fun Q k => rn_iload_n (j := 3) 3 rfl rfl dL_law_652 k) ?_
                                        refine ev_s (fun Q k => rn_iconst (v := 1) (by decide) dL_law_653 k) ?_
                                        refine ev_s (fun Q k => rn_iadd dL_law_654 k) ?_
                                        refine ev_gd (fun g188 => ?_)
                                        refine ev_s (fun Q k => rn_scald2 hsX hsL (inR_vp g188) dL_law_655 k) ?_
                                        refine ev_bindI (as := [.inr (.inr 18), .inl (sX (v3 + (1 : Int32)).toNatClampNeg)]) (fun Q Q1 => rn_callV (as := [.inl (sX (v3 + (1 : Int32)).toNatClampNeg)]) (rest := []) (o := 18) m_L_82 dL_law_656 (rcv_own ok_18.1 ok_18.2.1 (by decide) (okO_1 ok_18)) rfl rfl (Nat.le_of_ble_eq_true rfl)) pl_X5_bestStraps (Nat.le_of_ble_eq_true rfl) rfl (e_X5_bestStraps l E (d + 3) (sX (v3 + (1 : Int32)).toNatClampNeg) D) (fun r189 D190 => ?_)
                                        refine ev_s (fun Q k => rn_aload_n (j := 2) 2 rfl rfl (okO_0 ok_378) dL_law_659 k) ?_
                                        refine ev_s (fun Q k => rn_aload_n (j := 0) 0 rfl rfl (by decide) dL_law_660 k) ?_
                                        refine ev_s (fun Q k => rn_iload_n (j := 3) 3 rfl rfl dL_law_661 k) ?_
                                        refine ev_s (fun Q k => rn_iconst (v := 1) (by decide) dL_law_662 k) ?_
                                        refine ev_s (fun Q k => rn_iadd dL_law_663 k) ?_
                                        refine ev_gd (fun g191 => ?_)
                                        refine ev_s (fun Q k => rn_scald2 hsX hsL (inR_vp g191) dL_law_664 k) ?_
                                        refine ev_bindI (as := [.inr (.inr 378), .inl (sX (v3 + (1 : Int32)).toNatClampNeg)]) (fun Q Q1 => rn_callV (as := [.inl (sX (v3 + (1 : Int32)).toNatClampNeg)]) (rest := [.inl r189]) (o := 378) m_L_85 dL_law_665 (rcv_own ok_378.1 ok_378.2.1 (by decide) (okO_1 ok_378)) rfl rfl (Nat.le_of_ble_eq_true rfl)) pl_X6_bestStraps (Nat.le_of_ble_eq_true rfl) rfl (e_X6_bestStraps l E (d + 2) (sX (v3 + (1 : Int32)).toNatClampNeg) D190) (fun r192 D193 => ?_)
                                        refine ev_if (fun Q => rn_icmp_eq (tgt := 860) dL_law_668 (by decide)) (fun c194 => ?_) (fun c195 => ?_)
                                        · refine ev_s (fun Q k => rn_iinc (v := (v3 + (6 : Int32))) (ls' := [(3, .inl (v3 + (6 : Int32))), (0, .inr (.inr 17)), (1, .inr (.inr 18)), (2, .inr (.inr 378))]) 3 rfl rfl (by decide) rfl dL_law_860 k) ?_
                                          refine ev_s (fun Q k => rn_goto (tgt := 18) dL_law_863 (by decide) k) ?_
                                          refine ev_s (fun Q k => rn_sub (ls' := [(0, .inr (.inr 17)), (1, .inr (.inr 18)), (2, .inr (.inr 378)), (3, .inl (v3 + (6 : Int32)))]) [1, 2, 3, 0] rfl k) ?_
                                          exact ih (v3 + (6 : Int32)) D193
                                        · refine ev_s (fun Q k => rn_iconst (v := 0) (by decide) dL_law_671 k) ?_
                                          exact ev_ret (fun Q q => rn_ret q .boolean rfl rfl dL_law_672)
                                      · refine ev_ite (fun c206 => ?_) (fun c207 => ?_)
                                        · refine ev_s (fun Q k => rn_tswI (off := 640) (tgt := 673) dL_law_33 (by rw [c206]; decide) (by rw [c206]; decide) (by rw [c206]; rfl) (by decide) k) ?_
                                          refine ev_s (fun Q k => rn_aload_n (j := 1) 1 rfl rfl (okO_0 ok_18) dL_law_673 k) ?_
                                          refine ev_s (fun Q k => rn_aload_n (j := 0) 0 rfl rfl (by decide) dL_law_674 k) ?_
                                          refine ev_s (fun Q k => rn_iload_n (j := 3) 3 rfl rfl dL_law_675 k) ?_
                                          refine ev_s (fun Q k => rn_iconst (v := 1) (by decide) dL_law_676 k) ?_
                                          refine ev_s (fun Q k => rn_iadd dL_law_677 k) ?_
                                          refine ev_gd (fun g198 => ?_)
                                          refine ev_s (fun Q k => rn_scald2 hsX hsL (inR_vp g198) dL_law_678 k) ?_
                                          refine ev_bindI (as := [.inr (.inr 18), .inl (sX (v3 + (1 : Int32)).toNatClampNeg)]) (fun Q Q1 => rn_callV (as := [.inl (sX (v3 + (1 : Int32)).toNatClampNeg)]) (rest := []) (o := 18) m_L_86 dL_law_679 (rcv_own ok_18.1 ok_18.2.1 (by decide) (okO_1 ok_18)) rfl rfl (Nat.le_of_ble_eq_true rfl)) pl_X5_doneIn (Nat.le_of_ble_eq_true rfl) rfl (e_X5_doneIn l E (d + 3) (sX (v3 + (1 : Int32)).toNatClampNeg) D) (fun r199 D200 => ?_)
                                          refine ev_s (fun Q k => rn_aload_n (j := 2) 2 rfl rfl (okO_0 ok_378) dL_law_682 k) ?_
                                          refine ev_s (fun Q k => rn_aload_n (j := 0) 0 rfl rfl (by decide) dL_law_683 k) ?_
                                          refine ev_s (fun Q k => rn_iload_n (j := 3) 3 rfl rfl dL_law_684 k) ?_
                                          refine ev_s (fun Q k => rn_iconst (v := 1) (by decide) dL_law_685 k) ?_
                                          refine ev_s (fun Q k => rn_iadd dL_law_686 k) ?_
                                          refine ev_gd (fun g201 => ?_)
                                          refine ev_s (fun Q k => rn_scald2 hsX hsL (inR_vp g201) dL_law_687 k) ?_
                                          refine ev_bindI (as := [.inr (.inr 378), .inl (sX (v3 + (1 : Int32)).toNatClampNeg)]) (fun Q Q1 => rn_callV (as := [.inl (sX (v3 + (1 : Int32)).toNatClampNeg)]) (rest := [.inl r199]) (o := 378) m_L_89 dL_law_688 (rcv_own ok_378.1 ok_378.2.1 (by decide) (okO_1 ok_378)) rfl rfl (Nat.le_of_ble_eq_true rfl)) pl_X6_doneIn (Nat.le_of_ble_eq_true rfl) rfl (e_X6_doneIn l E (d + 3) (sX (v3 + (1 : Int32)).toNatClampNeg) D200) (fun r202 D203 => ?_)
                                          refine ev_if (fun Q => rn_icmp_eq (tgt := 860) dL_law_691 (by decide)) (fun c204 => ?_) (fun c205 => ?_)
                                          · refine ev_s (fun Q k => rn_iinc (v := (v3 + (6 : Int32))) (ls' := [(3, .inl (v3 + (6 : Int32))), (0, .inr (.inr 17)), (1, .inr (.inr 18)), (2, .inr (.inr 378))]) 3 rfl rfl (by decide) rfl dL_law_860 k) ?_
                                            refine ev_s (fun Q k => rn_goto (tgt := 18) dL_law_863 (by decide) k) ?_
                                            refine ev_s (fun Q k => rn_sub (ls' := [(0, .inr (.inr 17)), (1, .inr (.inr 18)), (2, .inr (.inr 378)), (3, .inl (v3 + (6 : Int32)))]) [1, 2, 3, 0] rfl k) ?_
                                            exact ih (v3 + (6 : Int32)) D203
                                          · refine ev_s (fun Q k => rn_iconst (v := 0) (by decide) dL_law_694 k) ?_
                                            exact ev_ret (fun Q q => rn_ret q .boolean rfl rfl dL_law_695)
                                        · refine ev_ite (fun c214 => ?_) (fun c215 => ?_)
                                          · refine ev_s (fun Q k => rn_tswI (off := 663) (tgt := 696) dL_law_33 (by rw [c214]; decide) (by rw [c214]; decide) (by rw [c214]; rfl) (by decide) k) ?_
                                            refine ev_s (fun Q k => rn_aload_n (j := 1) 1 rfl rfl (okO_0 ok_18) dL_law_696 k) ?_
                                            refine ev_bindI (as := [.inr (.inr 18)]) (fun Q Q1 => rn_callV (as := []) (rest := []) (o := 18) m_L_90 dL_law_697 (rcv_own ok_18.1 ok_18.2.1 (by decide) (okO_1 ok_18)) rfl rfl (Nat.le_of_ble_eq_true rfl)) pl_X5_ifAssigned (Nat.le_of_ble_eq_true rfl) rfl (e_X5_ifAssigned l E (d + 2)  D) (fun r208 D209 => ?_)
                                            refine ev_s (fun Q k => rn_aload_n (j := 2) 2 rfl rfl (okO_0 ok_378) dL_law_700 k) ?_
                                            refine ev_bindI (as := [.inr (.inr 378)]) (fun Q Q1 => rn_callV (as := []) (rest := [.inl r208]) (o := 378) m_L_93 dL_law_701 (rcv_own ok_378.1 ok_378.2.1 (by decide) (okO_1 ok_378)) rfl rfl (Nat.le_of_ble_eq_true rfl)) pl_X6_ifAssigned (Nat.le_of_ble_eq_true rfl) rfl (e_X6_ifAssigned l E (d + 1)  D209) (fun r210 D211 => ?_)
                                            refine ev_if (fun Q => rn_icmp_eq (tgt := 860) dL_law_704 (by decide)) (fun c212 => ?_) (fun c213 => ?_)
                                            · refine ev_s (fun Q k => rn_iinc (v := (v3 + (6 : Int32))) (ls' := [(3, .inl (v3 + (6 : Int32))), (0, .inr (.inr 17)), (1, .inr (.inr 18)), (2, .inr (.inr 378))]) 3 rfl rfl (by decide) rfl dL_law_860 k) ?_
                                              refine ev_s (fun Q k => rn_goto (tgt := 18) dL_law_863 (by decide) k) ?_
                                              refine ev_s (fun Q k => rn_sub (ls' := [(0, .inr (.inr 17)), (1, .inr (.inr 18)), (2, .inr (.inr 378)), (3, .inl (v3 + (6 : Int32)))]) [1, 2, 3, 0] rfl k) ?_
                                              exact ih (v3 + (6 : Int32)) D211
                                            · refine ev_s (fun Q k => rn_iconst (v := 0) (by decide) dL_law_707 k) ?_
                                              exact ev_ret (fun Q q => rn_ret q .boolean rfl rfl dL_law_708)
                                          · refine ev_ite (fun c226 => ?_) (fun c227 => ?_)
                                            · refine ev_s (fun Q k => rn_tswI (off := 676) (tgt := 709) dL_law_33 (by rw [c226]; decide) (by rw [c226]; decide) (by rw [c226]; rfl) (by decide) k) ?_
                                              refine ev_s (fun Q k => rn_aload_n (j := 1) 1 rfl rfl (okO_0 ok_18) dL_law_709 k) ?_
                                              refine ev_s (fun Q k => rn_aload_n (j := 0) 0 rfl rfl (by decide) dL_law_710 k) ?_
                                              refine ev_s (fun Q k => rn_iload_n (j := 3) 3 rfl rfl dL_law_711 k) ?_
                                              refine ev_s (fun Q k => rn_iconst (v := 1) (by decide) dL_law_712 k) ?_
                                              refine ev_s (fun Q k => rn_iadd dL_law_713 k) ?_
                                              refine ev_gd (fun g216 => ?_)
                                              refine ev_s (fun Q k => rn_scald2 hsX hsL (inR_vp g216) dL_law_714 k) ?_
                                              refine ev_s (fun Q k => rn_i2l (v := (sX (v3 + (1 : Int32)).toNatClampNeg).toInt64) rfl dL_law_715 k) ?_
                                              refine ev_s (fun Q k => rn_bipush (v := 32) (by decide) dL_law_716 k) ?_
                                              refine ev_s (fun Q k => rn_lshl (v := (((sX (v3 + (1 : Int32)).toNatClampNeg).toInt64) <<< ((32 : Int32).toInt64 &&& 63))) rfl dL_law_718 k) ?_
                                              refine ev_s (fun Q k => rn_aload_n (j := 0) 0 rfl rfl (by decide) dL_law_719 k) ?_
                                              refine ev_s (fun Q k => rn_iload_n (j := 3) 3 rfl rfl dL_law_720 k) ?_
                                              refine ev_s (fun Q k => rn_iconst (v := 2) (by decide) dL_law_721 k) ?_
                                              refine ev_s (fun Q k => rn_iadd dL_law_722 k) ?_
                                              refine ev_gd (fun g217 => ?_)
                                              refine ev_s (fun Q k => rn_scald2 hsX hsL (inR_vp g217) dL_law_723 k) ?_
                                              refine ev_s (fun Q k => rn_i2l (v := (sX (v3 + (2 : Int32)).toNatClampNeg).toInt64) rfl dL_law_724 k) ?_
                                              refine ev_s (fun Q k => rn_ldc2 (v := 4294967295) cn_L_94 dL_law_725 k) ?_
                                              refine ev_s (fun Q k => rn_land dL_law_728 k) ?_
                                              refine ev_s (fun Q k => rn_lor dL_law_729 k) ?_
                                              refine ev_bindI (as := [.inr (.inr 18), .inr (.inl ((((sX (v3 + (1 : Int32)).toNatClampNeg).toInt64) <<< ((32 : Int32).toInt64 &&& 63)) ||| (((sX (v3 + (2 : Int32)).toNatClampNeg).toInt64) &&& (4294967295 : Int64))))]) (fun Q Q1 => rn_callV (as := [.inr (.inl ((((sX (v3 + (1 : Int32)).toNatClampNeg).toInt64) <<< ((32 : Int32).toInt64 &&& 63)) ||| (((sX (v3 + (2 : Int32)).toNatClampNeg).toInt64) &&& (4294967295 : Int64))))]) (rest := []) (o := 18) m_L_96 dL_law_730 (rcv_own ok_18.1 ok_18.2.1 (by decide) (okO_1 ok_18)) rfl rfl (Nat.le_of_ble_eq_true rfl)) pl_X5_put (Nat.le_of_ble_eq_true rfl) rfl (e_X5_put l E (d + 4) ((((sX (v3 + (1 : Int32)).toNatClampNeg).toInt64) <<< ((32 : Int32).toInt64 &&& 63)) ||| (((sX (v3 + (2 : Int32)).toNatClampNeg).toInt64) &&& (4294967295 : Int64))) D) (fun r218 D219 => ?_)
                                              refine ev_s (fun Q k => rn_aload_n (j := 2) 2 rfl rfl (okO_0 ok_378) dL_law_733 k) ?_
                                              refine ev_s (fun Q k => rn_aload_n (j := 0) 0 rfl rfl (by decide) dL_law_734 k) ?_
                                              refine ev_s (fun Q k => rn_iload_n (j := 3) 3 rfl rfl dL_law_735 k) ?_
                                              refine ev_s (fun Q k => rn_iconst (v := 1) (by decide) dL_law_736 k) ?_
                                              refine ev_s (fun Q k => rn_iadd dL_law_737 k) ?_
                                              refine ev_gd (fun g220 => ?_)
                                              refine ev_s (fun Q k => rn_scald2 hsX hsL (inR_vp g220) dL_law_738 k) ?_
                                              refine ev_s (fun Q k => rn_i2l (v := (sX (v3 + (1 : Int32)).toNatClampNeg).toInt64) rfl dL_law_739 k) ?_
                                              refine ev_s (fun Q k => rn_bipush (v := 32) (by decide) dL_law_740 k) ?_
                                              refine ev_s (fun Q k => rn_lshl (v := (((sX (v3 + (1 : Int32)).toNatClampNeg).toInt64) <<< ((32 : Int32).toInt64 &&& 63))) rfl dL_law_742 k) ?_
                                              refine ev_s (fun Q k => rn_aload_n (j := 0) 0 rfl rfl (by decide) dL_law_743 k) ?_
                                              refine ev_s (fun Q k => rn_iload_n (j := 3) 3 rfl rfl dL_law_744 k) ?_
                                              refine ev_s (fun Q k => rn_iconst (v := 2) (by decide) dL_law_745 k) ?_
                                              refine ev_s (fun Q k => rn_iadd dL_law_746 k) ?_
                                              refine ev_gd (fun g221 => ?_)
                                              refine ev_s (fun Q k => rn_scald2 hsX hsL (inR_vp g221) dL_law_747 k) ?_
                                              refine ev_s (fun Q k => rn_i2l (v := (sX (v3 + (2 : Int32)).toNatClampNeg).toInt64) rfl dL_law_748 k) ?_
                                              refine ev_s (fun Q k => rn_ldc2 (v := 4294967295) cn_L_94 dL_law_749 k) ?_
                                              refine ev_s (fun Q k => rn_land dL_law_752 k) ?_
                                              refine ev_s (fun Q k => rn_lor dL_law_753 k) ?_
                                              refine ev_bindI (as := [.inr (.inr 378), .inr (.inl ((((sX (v3 + (1 : Int32)).toNatClampNeg).toInt64) <<< ((32 : Int32).toInt64 &&& 63)) ||| (((sX (v3 + (2 : Int32)).toNatClampNeg).toInt64) &&& (4294967295 : Int64))))]) (fun Q Q1 => rn_callV (as := [.inr (.inl ((((sX (v3 + (1 : Int32)).toNatClampNeg).toInt64) <<< ((32 : Int32).toInt64 &&& 63)) ||| (((sX (v3 + (2 : Int32)).toNatClampNeg).toInt64) &&& (4294967295 : Int64))))]) (rest := [.inl r218]) (o := 378) m_L_100 dL_law_754 (rcv_own ok_378.1 ok_378.2.1 (by decide) (okO_1 ok_378)) rfl rfl (Nat.le_of_ble_eq_true rfl)) pl_X6_put (Nat.le_of_ble_eq_true rfl) rfl (e_X6_put l E (d + 6) ((((sX (v3 + (1 : Int32)).toNatClampNeg).toInt64) <<< ((32 : Int32).toInt64 &&& 63)) ||| (((sX (v3 + (2 : Int32)).toNatClampNeg).toInt64) &&& (4294967295 : Int64))) D219) (fun r222 D223 => ?_)
                                              refine ev_if (fun Q => rn_icmp_eq (tgt := 860) dL_law_757 (by decide)) (fun c224 => ?_) (fun c225 => ?_)
                                              · refine ev_s (fun Q k => rn_iinc (v := (v3 + (6 : Int32))) (ls' := [(3, .inl (v3 + (6 : Int32))), (0, .inr (.inr 17)), (1, .inr (.inr 18)), (2, .inr (.inr 378))]) 3 rfl rfl (by decide) rfl dL_law_860 k) ?_
                                                refine ev_s (fun Q k => rn_goto (tgt := 18) dL_law_863 (by decide) k) ?_
                                                refine ev_s (fun Q k => rn_sub (ls' := [(0, .inr (.inr 17)), (1, .inr (.inr 18)), (2, .inr (.inr 378)), (3, .inl (v3 + (6 : Int32)))]) [1, 2, 3, 0] rfl k) ?_
                                                exact ih (v3 + (6 : Int32)) D223
                                              · refine ev_s (fun Q k => rn_iconst (v := 0) (by decide) dL_law_760 k) ?_
                                                exact ev_ret (fun Q q => rn_ret q .boolean rfl rfl dL_law_761)
                                            · refine ev_ite (fun c234 => ?_) (fun c235 => ?_)
                                              · refine ev_s (fun Q k => rn_tswI (off := 729) (tgt := 762) dL_law_33 (by rw [c234]; decide) (by rw [c234]; decide) (by rw [c234]; rfl) (by decide) k) ?_
                                                refine ev_s (fun Q k => rn_aload_n (j := 1) 1 rfl rfl (okO_0 ok_18) dL_law_762 k) ?_
                                                refine ev_bindI (as := [.inr (.inr 18)]) (fun Q Q1 => rn_callV (as := []) (rest := []) (o := 18) m_L_101 dL_law_763 (rcv_own ok_18.1 ok_18.2.1 (by decide) (okO_1 ok_18)) rfl rfl (Nat.le_of_ble_eq_true rfl)) pl_X5_wipe (Nat.le_of_ble_eq_true rfl) rfl (e_X5_wipe l E (d + 6)  D) (fun r228 D229 => ?_)
                                                refine ev_s (fun Q k => rn_aload_n (j := 2) 2 rfl rfl (okO_0 ok_378) dL_law_766 k) ?_
                                                refine ev_bindI (as := [.inr (.inr 378)]) (fun Q Q1 => rn_callV (as := []) (rest := [.inl r228]) (o := 378) m_L_104 dL_law_767 (rcv_own ok_378.1 ok_378.2.1 (by decide) (okO_1 ok_378)) rfl rfl (Nat.le_of_ble_eq_true rfl)) pl_X6_wipe (Nat.le_of_ble_eq_true rfl) rfl (e_X6_wipe l E (d + 7)  D229) (fun r230 D231 => ?_)
                                                refine ev_if (fun Q => rn_icmp_eq (tgt := 860) dL_law_770 (by decide)) (fun c232 => ?_) (fun c233 => ?_)
                                                · refine ev_s (fun Q k => rn_iinc (v := (v3 + (6 : Int32))) (ls' := [(3, .inl (v3 + (6 : Int32))), (0, .inr (.inr 17)), (1, .inr (.inr 18)), (2, .inr (.inr 378))]) 3 rfl rfl (by decide) rfl dL_law_860 k) ?_
                                                  refine ev_s (fun Q k => rn_goto (tgt := 18) dL_law_863 (by decide) k) ?_
                                                  refine ev_s (fun Q k => rn_sub (ls' := [(0, .inr (.inr 17)), (1, .inr (.inr 18)), (2, .inr (.inr 378)), (3, .inl (v3 + (6 : Int32)))]) [1, 2, 3, 0] rfl k) ?_
                                                  exact ih (v3 + (6 : Int32)) D231
                                                · refine ev_s (fun Q k => rn_iconst (v := 0) (by decide) dL_law_773 k) ?_
                                                  exact ev_ret (fun Q q => rn_ret q .boolean rfl rfl dL_law_774)
                                              · refine ev_ite (fun c242 => ?_) (fun c243 => ?_)
                                                · refine ev_s (fun Q k => rn_tswI (off := 742) (tgt := 775) dL_law_33 (by rw [c242]; decide) (by rw [c242]; decide) (by rw [c242]; rfl) (by decide) k) ?_
                                                  refine ev_s (fun Q k => rn_aload_n (j := 1) 1 rfl rfl (okO_0 ok_18) dL_law_775 k) ?_
                                                  refine ev_bindI (as := [.inr (.inr 18)]) (fun Q Q1 => rn_callV (as := []) (rest := []) (o := 18) m_L_105 dL_law_776 (rcv_own ok_18.1 ok_18.2.1 (by decide) (okO_1 ok_18)) rfl rfl (Nat.le_of_ble_eq_true rfl)) pl_X5_fault (Nat.le_of_ble_eq_true rfl) rfl (e_X5_fault l E d  D) (fun r236 D237 => ?_)
                                                  refine ev_s (fun Q k => rn_aload_n (j := 2) 2 rfl rfl (okO_0 ok_378) dL_law_779 k) ?_
                                                  refine ev_bindI (as := [.inr (.inr 378)]) (fun Q Q1 => rn_callV (as := []) (rest := [.inl r236]) (o := 378) m_L_108 dL_law_780 (rcv_own ok_378.1 ok_378.2.1 (by decide) (okO_1 ok_378)) rfl rfl (Nat.le_of_ble_eq_true rfl)) pl_X6_fault (Nat.le_of_ble_eq_true rfl) rfl (e_X6_fault l E (d + 1)  D237) (fun r238 D239 => ?_)
                                                  refine ev_if (fun Q => rn_icmp_eq (tgt := 860) dL_law_783 (by decide)) (fun c240 => ?_) (fun c241 => ?_)
                                                  · refine ev_s (fun Q k => rn_iinc (v := (v3 + (6 : Int32))) (ls' := [(3, .inl (v3 + (6 : Int32))), (0, .inr (.inr 17)), (1, .inr (.inr 18)), (2, .inr (.inr 378))]) 3 rfl rfl (by decide) rfl dL_law_860 k) ?_
                                                    refine ev_s (fun Q k => rn_goto (tgt := 18) dL_law_863 (by decide) k) ?_
                                                    refine ev_s (fun Q k => rn_sub (ls' := [(0, .inr (.inr 17)), (1, .inr (.inr 18)), (2, .inr (.inr 378)), (3, .inl (v3 + (6 : Int32)))]) [1, 2, 3, 0] rfl k) ?_
                                                    exact ih (v3 + (6 : Int32)) D239
                                                  · refine ev_s (fun Q k => rn_iconst (v := 0) (by decide) dL_law_786 k) ?_
                                                    exact ev_ret (fun Q q => rn_ret q .boolean rfl rfl dL_law_787)
                                                · refine ev_ite (fun c250 => ?_) (fun c251 => ?_)
                                                  · refine ev_s (fun Q k => rn_tswI (off := 755) (tgt := 788) dL_law_33 (by rw [c250]; decide) (by rw [c250]; decide) (by rw [c250]; rfl) (by decide) k) ?_
                                                    refine ev_s (fun Q k => rn_aload_n (j := 1) 1 rfl rfl (okO_0 ok_18) dL_law_788 k) ?_
                                                    refine ev_bindI (as := [.inr (.inr 18)]) (fun Q Q1 => rn_callV (as := []) (rest := []) (o := 18) m_L_109 dL_law_789 (rcv_own ok_18.1 ok_18.2.1 (by decide) (okO_1 ok_18)) rfl rfl (Nat.le_of_ble_eq_true rfl)) pl_X5_carryOut (Nat.le_of_ble_eq_true rfl) rfl (e_X5_carryOut l E d  D) (fun r244 D245 => ?_)
                                                    refine ev_s (fun Q k => rn_aload_n (j := 2) 2 rfl rfl (okO_0 ok_378) dL_law_792 k) ?_
                                                    refine ev_bindI (as := [.inr (.inr 378)]) (fun Q Q1 => rn_callV (as := []) (rest := [.inl r244]) (o := 378) m_L_112 dL_law_793 (rcv_own ok_378.1 ok_378.2.1 (by decide) (okO_1 ok_378)) rfl rfl (Nat.le_of_ble_eq_true rfl)) pl_X6_carryOut (Nat.le_of_ble_eq_true rfl) rfl (e_X6_carryOut l E d  D245) (fun r246 D247 => ?_)
                                                    refine ev_if (fun Q => rn_icmp_eq (tgt := 860) dL_law_796 (by decide)) (fun c248 => ?_) (fun c249 => ?_)
                                                    · refine ev_s (fun Q k => rn_iinc (v := (v3 + (6 : Int32))) (ls' := [(3, .inl (v3 + (6 : Int32))), (0, .inr (.inr 17)), (1, .inr (.inr 18)), (2, .inr (.inr 378))]) 3 rfl rfl (by decide) rfl dL_law_860 k) ?_
                                                      refine ev_s (fun Q k => rn_goto (tgt := 18) dL_law_863 (by decide) k) ?_
                                                      refine ev_s (fun Q k => rn_sub (ls' := [(0, .inr (.inr 17)), (1, .inr (.inr 18)), (2, .inr (.inr 378)), (3, .inl (v3 + (6 : Int32)))]) [1, 2, 3, 0] rfl k) ?_
                                                      exact ih (v3 + (6 : Int32)) D247
                                                    · refine ev_s (fun Q k => rn_iconst (v := 0) (by decide) dL_law_799 k) ?_
                                                      exact ev_ret (fun Q q => rn_ret q .boolean rfl rfl dL_law_800)
                                                  · refine ev_ite (fun c258 => ?_) (fun c259 => ?_)
                                                    · refine ev_s (fun Q k => rn_tswI (off := 768) (tgt := 801) dL_law_33 (by rw [c258]; decide) (by rw [c258]; decide) (by rw [c258]; rfl) (by decide) k) ?_
                                                      refine ev_s (fun Q k => rn_aload_n (j := 1) 1 rfl rfl (okO_0 ok_18) dL_law_801 k) ?_
                                                      refine ev_bindI (as := [.inr (.inr 18)]) (fun Q Q1 => rn_callV (as := []) (rest := []) (o := 18) m_L_113 dL_law_802 (rcv_own ok_18.1 ok_18.2.1 (by decide) (okO_1 ok_18)) rfl rfl (Nat.le_of_ble_eq_true rfl)) pl_X5_undo (Nat.le_of_ble_eq_true rfl) rfl (e_X5_undo l E (d + 4)  D) (fun r252 D253 => ?_)
                                                      refine ev_s (fun Q k => rn_aload_n (j := 2) 2 rfl rfl (okO_0 ok_378) dL_law_805 k) ?_
                                                      refine ev_bindI (as := [.inr (.inr 378)]) (fun Q Q1 => rn_callV (as := []) (rest := [.inl r252]) (o := 378) m_L_116 dL_law_806 (rcv_own ok_378.1 ok_378.2.1 (by decide) (okO_1 ok_378)) rfl rfl (Nat.le_of_ble_eq_true rfl)) pl_X6_undo (Nat.le_of_ble_eq_true rfl) rfl (e_X6_undo l E (d + 7)  D253) (fun r254 D255 => ?_)
                                                      refine ev_if (fun Q => rn_icmp_eq (tgt := 860) dL_law_809 (by decide)) (fun c256 => ?_) (fun c257 => ?_)
                                                      · refine ev_s (fun Q k => rn_iinc (v := (v3 + (6 : Int32))) (ls' := [(3, .inl (v3 + (6 : Int32))), (0, .inr (.inr 17)), (1, .inr (.inr 18)), (2, .inr (.inr 378))]) 3 rfl rfl (by decide) rfl dL_law_860 k) ?_
                                                        refine ev_s (fun Q k => rn_goto (tgt := 18) dL_law_863 (by decide) k) ?_
                                                        refine ev_s (fun Q k => rn_sub (ls' := [(0, .inr (.inr 17)), (1, .inr (.inr 18)), (2, .inr (.inr 378)), (3, .inl (v3 + (6 : Int32)))]) [1, 2, 3, 0] rfl k) ?_
                                                        exact ih (v3 + (6 : Int32)) D255
                                                      · refine ev_s (fun Q k => rn_iconst (v := 0) (by decide) dL_law_812 k) ?_
                                                        exact ev_ret (fun Q q => rn_ret q .boolean rfl rfl dL_law_813)
                                                    · refine ev_ite (fun c268 => ?_) (fun c269 => ?_)
                                                      · refine ev_s (fun Q k => rn_tswI (off := 781) (tgt := 814) dL_law_33 (by rw [c268]; decide) (by rw [c268]; decide) (by rw [c268]; rfl) (by decide) k) ?_
                                                        refine ev_s (fun Q k => rn_aload_n (j := 1) 1 rfl rfl (okO_0 ok_18) dL_law_814 k) ?_
                                                        refine ev_s (fun Q k => rn_aload_n (j := 0) 0 rfl rfl (by decide) dL_law_815 k) ?_
                                                        refine ev_s (fun Q k => rn_iload_n (j := 3) 3 rfl rfl dL_law_816 k) ?_
                                                        refine ev_s (fun Q k => rn_iconst (v := 1) (by decide) dL_law_817 k) ?_
                                                        refine ev_s (fun Q k => rn_iadd dL_law_818 k) ?_
                                                        refine ev_gd (fun g260 => ?_)
                                                        refine ev_s (fun Q k => rn_scald2 hsX hsL (inR_vp g260) dL_law_819 k) ?_
                                                        refine ev_bindI (as := [.inr (.inr 18), .inl (sX (v3 + (1 : Int32)).toNatClampNeg)]) (fun Q Q1 => rn_callV (as := [.inl (sX (v3 + (1 : Int32)).toNatClampNeg)]) (rest := []) (o := 18) m_L_117 dL_law_820 (rcv_own ok_18.1 ok_18.2.1 (by decide) (okO_1 ok_18)) rfl rfl (Nat.le_of_ble_eq_true rfl)) pl_X5_save (Nat.le_of_ble_eq_true rfl) rfl (e_X5_save l E (d + 5) (sX (v3 + (1 : Int32)).toNatClampNeg) D) (fun r261 D262 => ?_)
                                                        refine ev_s (fun Q k => rn_aload_n (j := 2) 2 rfl rfl (okO_0 ok_378) dL_law_823 k) ?_
                                                        refine ev_s (fun Q k => rn_aload_n (j := 0) 0 rfl rfl (by decide) dL_law_824 k) ?_
                                                        refine ev_s (fun Q k => rn_iload_n (j := 3) 3 rfl rfl dL_law_825 k) ?_
                                                        refine ev_s (fun Q k => rn_iconst (v := 1) (by decide) dL_law_826 k) ?_
                                                        refine ev_s (fun Q k => rn_iadd dL_law_827 k) ?_
                                                        refine ev_gd (fun g263 => ?_)
                                                        refine ev_s (fun Q k => rn_scald2 hsX hsL (inR_vp g263) dL_law_828 k) ?_
                                                        refine ev_bindI (as := [.inr (.inr 378), .inl (sX (v3 + (1 : Int32)).toNatClampNeg)]) (fun Q Q1 => rn_callV (as := [.inl (sX (v3 + (1 : Int32)).toNatClampNeg)]) (rest := [.inl r261]) (o := 378) m_L_120 dL_law_829 (rcv_own ok_378.1 ok_378.2.1 (by decide) (okO_1 ok_378)) rfl rfl (Nat.le_of_ble_eq_true rfl)) pl_X6_save (Nat.le_of_ble_eq_true rfl) rfl (e_X6_save l E (d + 6) (sX (v3 + (1 : Int32)).toNatClampNeg) D262) (fun r264 D265 => ?_)
                                                        refine ev_if (fun Q => rn_icmp_eq (tgt := 860) dL_law_832 (by decide)) (fun c266 => ?_) (fun c267 => ?_)
                                                        · refine ev_s (fun Q k => rn_iinc (v := (v3 + (6 : Int32))) (ls' := [(3, .inl (v3 + (6 : Int32))), (0, .inr (.inr 17)), (1, .inr (.inr 18)), (2, .inr (.inr 378))]) 3 rfl rfl (by decide) rfl dL_law_860 k) ?_
                                                          refine ev_s (fun Q k => rn_goto (tgt := 18) dL_law_863 (by decide) k) ?_
                                                          refine ev_s (fun Q k => rn_sub (ls' := [(0, .inr (.inr 17)), (1, .inr (.inr 18)), (2, .inr (.inr 378)), (3, .inl (v3 + (6 : Int32)))]) [1, 2, 3, 0] rfl k) ?_
                                                          exact ih (v3 + (6 : Int32)) D265
                                                        · refine ev_s (fun Q k => rn_iconst (v := 0) (by decide) dL_law_835 k) ?_
                                                          exact ev_ret (fun Q q => rn_ret q .boolean rfl rfl dL_law_836)
                                                      · refine ev_ite (fun c278 => ?_) (fun c279 => ?_)
                                                        · refine ev_s (fun Q k => rn_tswI (off := 804) (tgt := 837) dL_law_33 (by rw [c278]; decide) (by rw [c278]; decide) (by rw [c278]; rfl) (by decide) k) ?_
                                                          refine ev_s (fun Q k => rn_aload_n (j := 1) 1 rfl rfl (okO_0 ok_18) dL_law_837 k) ?_
                                                          refine ev_s (fun Q k => rn_aload_n (j := 0) 0 rfl rfl (by decide) dL_law_838 k) ?_
                                                          refine ev_s (fun Q k => rn_iload_n (j := 3) 3 rfl rfl dL_law_839 k) ?_
                                                          refine ev_s (fun Q k => rn_iconst (v := 1) (by decide) dL_law_840 k) ?_
                                                          refine ev_s (fun Q k => rn_iadd dL_law_841 k) ?_
                                                          refine ev_gd (fun g270 => ?_)
                                                          refine ev_s (fun Q k => rn_scald2 hsX hsL (inR_vp g270) dL_law_842 k) ?_
                                                          refine ev_bindI (as := [.inr (.inr 18), .inl (sX (v3 + (1 : Int32)).toNatClampNeg)]) (fun Q Q1 => rn_callV (as := [.inl (sX (v3 + (1 : Int32)).toNatClampNeg)]) (rest := []) (o := 18) m_L_121 dL_law_843 (rcv_own ok_18.1 ok_18.2.1 (by decide) (okO_1 ok_18)) rfl rfl (Nat.le_of_ble_eq_true rfl)) pl_X5_restore (Nat.le_of_ble_eq_true rfl) rfl (e_X5_restore l E (d + 4) (sX (v3 + (1 : Int32)).toNatClampNeg) D) (fun r271 D272 => ?_)
                                                          refine ev_s (fun Q k => rn_aload_n (j := 2) 2 rfl rfl (okO_0 ok_378) dL_law_846 k) ?_
                                                          refine ev_s (fun Q k => rn_aload_n (j := 0) 0 rfl rfl (by decide) dL_law_847 k) ?_
                                                          refine ev_s (fun Q k => rn_iload_n (j := 3) 3 rfl rfl dL_law_848 k) ?_
                                                          refine ev_s (fun Q k => rn_iconst (v := 1) (by decide) dL_law_849 k) ?_
                                                          refine ev_s (fun Q k => rn_iadd dL_law_850 k) ?_
                                                          refine ev_gd (fun g273 => ?_)
                                                          refine ev_s (fun Q k => rn_scald2 hsX hsL (inR_vp g273) dL_law_851 k) ?_
                                                          refine ev_bindI (as := [.inr (.inr 378), .inl (sX (v3 + (1 : Int32)).toNatClampNeg)]) (fun Q Q1 => rn_callV (as := [.inl (sX (v3 + (1 : Int32)).toNatClampNeg)]) (rest := [.inl r271]) (o := 378) m_L_124 dL_law_852 (rcv_own ok_378.1 ok_378.2.1 (by decide) (okO_1 ok_378)) rfl rfl (Nat.le_of_ble_eq_true rfl)) pl_X6_restore (Nat.le_of_ble_eq_true rfl) rfl (e_X6_restore l E (d + 6) (sX (v3 + (1 : Int32)).toNatClampNeg) D272) (fun r274 D275 => ?_)
                                                          refine ev_if (fun Q => rn_icmp_eq (tgt := 860) dL_law_855 (by decide)) (fun c276 => ?_) (fun c277 => ?_)
                                                          · refine ev_s (fun Q k => rn_iinc (v := (v3 + (6 : Int32))) (ls' := [(3, .inl (v3 + (6 : Int32))), (0, .inr (.inr 17)), (1, .inr (.inr 18)), (2, .inr (.inr 378))]) 3 rfl rfl (by decide) rfl dL_law_860 k) ?_
                                                            refine ev_s (fun Q k => rn_goto (tgt := 18) dL_law_863 (by decide) k) ?_
                                                            refine ev_s (fun Q k => rn_sub (ls' := [(0, .inr (.inr 17)), (1, .inr (.inr 18)), (2, .inr (.inr 378)), (3, .inl (v3 + (6 : Int32)))]) [1, 2, 3, 0] rfl k) ?_
                                                            exact ih (v3 + (6 : Int32)) D275
                                                          · refine ev_s (fun Q k => rn_iconst (v := 0) (by decide) dL_law_858 k) ?_
                                                            exact ev_ret (fun Q q => rn_ret q .boolean rfl rfl dL_law_859)
                                                        · have z0 := lv_neT (k := 0) (a := 0) c13 (by decide)
                                                          have z1 := lv_neT (k := 1) (a := 1) c23 (by decide)
                                                          have z2 := lv_neT (k := 2) (a := 2) c33 (by decide)
                                                          have z3 := lv_neT (k := 3) (a := 3) c51 (by decide)
                                                          have z4 := lv_neT (k := 4) (a := 4) c65 (by decide)
                                                          have z5 := lv_neT (k := 5) (a := 5) c73 (by decide)
                                                          have z6 := lv_neT (k := 6) (a := 6) c85 (by decide)
                                                          have z7 := lv_neT (k := 7) (a := 7) c95 (by decide)
                                                          have z8 := lv_neT (k := 8) (a := 8) c105 (by decide)
                                                          have z9 := lv_neT (k := 9) (a := 9) c117 (by decide)
                                                          have z10 := lv_neT (k := 10) (a := 10) c129 (by decide)
                                                          have z11 := lv_neT (k := 11) (a := 11) c139 (by decide)
                                                          have z12 := lv_neT (k := 12) (a := 12) c151 (by decide)
                                                          have z13 := lv_neT (k := 13) (a := 13) c161 (by decide)
                                                          have z14 := lv_neT (k := 14) (a := 14) c175 (by decide)
                                                          have z15 := lv_neT (k := 15) (a := 15) c187 (by decide)
                                                          have z16 := lv_neT (k := 16) (a := 16) c197 (by decide)
                                                          have z17 := lv_neT (k := 17) (a := 17) c207 (by decide)
                                                          have z18 := lv_neT (k := 18) (a := 18) c215 (by decide)
                                                          have z19 := lv_neT (k := 19) (a := 19) c227 (by decide)
                                                          have z20 := lv_neT (k := 20) (a := 20) c235 (by decide)
                                                          have z21 := lv_neT (k := 21) (a := 21) c243 (by decide)
                                                          have z22 := lv_neT (k := 22) (a := 22) c251 (by decide)
                                                          have z23 := lv_neT (k := 23) (a := 23) c259 (by decide)
                                                          have z24 := lv_neT (k := 24) (a := 24) c269 (by decide)
                                                          have z25 := lv_neT (k := 25) (a := 25) c279 (by decide)
                                                          refine ev_s (fun Q k => rn_tswO (tgt := 860) dL_law_33 (by omega) (by decide) k) ?_
                                                          refine ev_s (fun Q k => rn_iinc (v := (v3 + (6 : Int32))) (ls' := [(3, .inl (v3 + (6 : Int32))), (0, .inr (.inr 17)), (1, .inr (.inr 18)), (2, .inr (.inr 378))]) 3 rfl rfl (by decide) rfl dL_law_860 k) ?_
                                                          refine ev_s (fun Q k => rn_goto (tgt := 18) dL_law_863 (by decide) k) ?_
                                                          refine ev_s (fun Q k => rn_sub (ls' := [(0, .inr (.inr 17)), (1, .inr (.inr 18)), (2, .inr (.inr 378)), (3, .inl (v3 + (6 : Int32)))]) [1, 2, 3, 0] rfl k) ?_
                                                          exact ih (v3 + (6 : Int32)) D

set_option maxHeartbeats 20000000 in
set_option maxRecDepth 100000 in
theorem e_L_law (l : Launch) (E : eE) (d : Nat) (sL : Nat) (hsL : E.2.2.2.2.2.1 = sL) (sX : Nat → Int32) (hsX : E.2.2.2.2.2.2 = sX) (D : dT) : ev l E (d + 8) yL_law cL_law 4 (some .boolean) 16 [(2, .inr (.inr 378)), (1, .inr (.inr 18)), (0, .inr (.inr 17))] [] D eI (F_L_law sL sX D) := by
  unfold F_L_law
  refine ev_s (fun Q k => rn_iconst (v := 0) (by decide) dL_law_16 k) ?_
  refine ev_s (fun Q k => rn_istore_n (j := 3) (ls' := [(3, .inl (0 : Int32)), (2, .inr (.inr 378)), (1, .inr (.inr 18)), (0, .inr (.inr 17))]) rfl (by decide) rfl dL_law_17 k) ?_
  refine ev_s (fun Q k => rn_sub (ls' := [(0, .inr (.inr 17)), (1, .inr (.inr 18)), (2, .inr (.inr 378)), (3, .inl (0 : Int32))]) [3, 2, 1, 0] rfl k) ?_
  exact e_L_law_18 l E d sL hsL sX hsX  lim (0 : Int32) D

