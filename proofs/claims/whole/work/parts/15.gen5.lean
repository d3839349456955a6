def F_X0_tellCount (B : Nat) (x1 : Int32) (D : dT) : Option (Int32 × dT) := if x1 = (0 : Int32) then some ((D B 7), D) else if x1 = (1 : Int32) then some ((D B 5), D) else if x1 = (2 : Int32) then bd (F_X0_busyPeople B D) (fun (r5 : Int32) (D6 : dT) => some (r5, D6)) else if x1 = (3 : Int32) then some ((D B 6), D) else if x1 = (4 : Int32) then bd (F_X0_jobsInState B (0 : Int32) D) (fun (r11 : Int32) (D12 : dT) => some (r11, D12)) else if x1 = (5 : Int32) then bd (F_X0_jobsInState B (1 : Int32) D) (fun (r15 : Int32) (D16 : dT) => some (r15, D16)) else if x1 = (6 : Int32) then bd (F_X0_jobsInState B (2 : Int32) D) (fun (r19 : Int32) (D20 : dT) => some (r19, D20)) else if x1 = (7 : Int32) then bd (F_X0_lateJobs B D) (fun (r23 : Int32) (D24 : dT) => some (r23, D24)) else if x1 = (8 : Int32) then some ((D B 8), D) else if x1 = (9 : Int32) then some ((D B 9), D) else if x1 = (10 : Int32) then if inR (0 : Int32) 4 then some ((D (B + 1) (0 : Int32).toNatClampNeg), D) else none else if x1 = (11 : Int32) then if inR (1 : Int32) 4 then some ((D (B + 1) (1 : Int32).toNatClampNeg), D) else none else if x1 = (12 : Int32) then if inR (2 : Int32) 4 then some ((D (B + 1) (2 : Int32).toNatClampNeg), D) else none else if x1 = (13 : Int32) then if inR (3 : Int32) 4 then some ((D (B + 1) (3 : Int32).toNatClampNeg), D) else none else some ((-2 : Int32), D)
set_option maxRecDepth 20000 in
theorem e_X0_tellCount (l : Launch) (E : eE) (d : Nat) (B : Nat) (hB : isF B) (x1 : Int32) (D : dT) : ev l E (d + 2) yX0_tellCount cX0_tellCount 2 (some .int) 0 [(0, .inr (.inr B)), (1, .inl x1)] [] D eI (F_X0_tellCount B x1 D) := by
  unfold F_X0_tellCount
  refine ev_s (fun Q k => rn_iload_n (j := 1) 1 rfl rfl dX0_tellCount_0 k) ?_
  refine ev_ite (fun c1 => ?_) (fun c2 => ?_)
  · refine ev_s (fun Q k => rn_tswI (off := 71) (tgt := 72) dX0_tellCount_1 (by rw [c1]; decide) (by rw [c1]; decide) (by rw [c1]; rfl) (by decide) k) ?_
    refine ev_s (fun Q k => rn_aload_n (j := 0) 0 rfl rfl (okO_0 (oF hB)) dX0_tellCount_72 k) ?_
    refine ev_s (fun Q k => rn_geti f_X0_48 (oF hB).1 (oF hB).2.1 (okO_1 (oF hB)) rfl dX0_tellCount_73 k) ?_
    exact ev_ret (fun Q q => rn_ret q .int rfl rfl dX0_tellCount_76)
  · refine ev_ite (fun c3 => ?_) (fun c4 => ?_)
    · refine ev_s (fun Q k => rn_tswI (off := 76) (tgt := 77) dX0_tellCount_1 (by rw [c3]; decide) (by rw [c3]; decide) (by rw [c3]; rfl) (by decide) k) ?_
      refine ev_s (fun Q k => rn_aload_n (j := 0) 0 rfl rfl (okO_0 (oF hB)) dX0_tellCount_77 k) ?_
      refine ev_s (fun Q k => rn_geti f_X0_41 (oF hB).1 (oF hB).2.1 (okO_1 (oF hB)) rfl dX0_tellCount_78 k) ?_
      exact ev_ret (fun Q q => rn_ret q .int rfl rfl dX0_tellCount_81)
    · refine ev_ite (fun c7 => ?_) (fun c8 => ?_)
      · refine ev_s (fun Q k => rn_tswI (off := 81) (tgt := 82) dX0_tellCount_1 (by rw [c7]; decide) (by rw [c7]; decide) (by rw [c7]; rfl) (by decide) k) ?_
        refine ev_s (fun Q k => rn_aload_n (j := 0) 0 rfl rfl (okO_0 (oF hB)) dX0_tellCount_82 k) ?_
        refine ev_bindI (as := [.inr (.inr B)]) (fun Q Q1 => rn_callV (as := []) (rest := []) (o := B) m_X0_126 dX0_tellCount_83 (rcv_own (oF hB).1 (oF hB).2.1 (by decide) (okO_1 (oF hB))) rfl rfl (Nat.le_of_ble_eq_true rfl)) pl_X0_busyPeople (Nat.le_of_ble_eq_true rfl) rfl (e_X0_busyPeople l E (d + 1) B hB D) (fun r5 D6 => ?_)
        exact ev_ret (fun Q q => rn_ret q .int rfl rfl dX0_tellCount_86)
      · refine ev_ite (fun c9 => ?_) (fun c10 => ?_)
        · refine ev_s (fun Q k => rn_tswI (off := 86) (tgt := 87) dX0_tellCount_1 (by rw [c9]; decide) (by rw [c9]; decide) (by rw [c9]; rfl) (by decide) k) ?_
          refine ev_s (fun Q k => rn_aload_n (j := 0) 0 rfl rfl (okO_0 (oF hB)) dX0_tellCount_87 k) ?_
          refine ev_s (fun Q k => rn_geti f_X0_45 (oF hB).1 (oF hB).2.1 (okO_1 (oF hB)) rfl dX0_tellCount_88 k) ?_
          exact ev_ret (fun Q q => rn_ret q .int rfl rfl dX0_tellCount_91)
        · refine ev_ite (fun c13 => ?_) (fun c14 => ?_)
          · refine ev_s (fun Q k => rn_tswI (off := 91) (tgt := 92) dX0_tellCount_1 (by rw [c13]; decide) (by rw [c13]; decide) (by rw [c13]; rfl) (by decide) k) ?_
            refine ev_s (fun Q k => rn_aload_n (j := 0) 0 rfl rfl (okO_0 (oF hB)) dX0_tellCount_92 k) ?_
            refine ev_s (fun Q k => rn_iconst (v := 0) (by decide) dX0_tellCount_93 k) ?_
            refine ev_bindI (as := [.inr (.inr B), .inl (0 : Int32)]) (fun Q Q1 => rn_callV (as := [.inl (0 : Int32)]) (rest := []) (o := B) m_X0_232 dX0_tellCount_94 (rcv_own (oF hB).1 (oF hB).2.1 (by decide) (okO_1 (oF hB))) rfl rfl (Nat.le_of_ble_eq_true rfl)) pl_X0_jobsInState (Nat.le_of_ble_eq_true rfl) rfl (e_X0_jobsInState l E (d + 1) B hB (0 : Int32) D) (fun r11 D12 => ?_)
            exact ev_ret (fun Q q => rn_ret q .int rfl rfl dX0_tellCount_97)
          · refine ev_ite (fun c17 => ?_) (fun c18 => ?_)
            · refine ev_s (fun Q k => rn_tswI (off := 97) (tgt := 98) dX0_tellCount_1 (by rw [c17]; decide) (by rw [c17]; decide) (by rw [c17]; rfl) (by decide) k) ?_
              refine ev_s (fun Q k => rn_aload_n (j := 0) 0 rfl rfl (okO_0 (oF hB)) dX0_tellCount_98 k) ?_
              refine ev_s (fun Q k => rn_iconst (v := 1) (by decide) dX0_tellCount_99 k) ?_
              refine ev_bindI (as := [.inr (.inr B), .inl (1 : Int32)]) (fun Q Q1 => rn_callV (as := [.inl (1 : Int32)]) (rest := []) (o := B) m_X0_232 dX0_tellCount_100 (rcv_own (oF hB).1 (oF hB).2.1 (by decide) (okO_1 (oF hB))) rfl rfl (Nat.le_of_ble_eq_true rfl)) pl_X0_jobsInState (Nat.le_of_ble_eq_true rfl) rfl (e_X0_jobsInState l E (d + 1) B hB (1 : Int32) D) (fun r15 D16 => ?_)
              exact ev_ret (fun Q q => rn_ret q .int rfl rfl dX0_tellCount_103)
            · refine ev_ite (fun c21 => ?_) (fun c22 => ?_)
              · refine ev_s (fun Q k => rn_tswI (off := 103) (tgt := 104) dX0_tellCount_1 (by rw [c21]; decide) (by rw [c21]; decide) (by rw [c21]; rfl) (by decide) k) ?_
                refine ev_s (fun Q k => rn_aload_n (j := 0) 0 rfl rfl (okO_0 (oF hB)) dX0_tellCount_104 k) ?_
                refine ev_s (fun Q k => rn_iconst (v := 2) (by decide) dX0_tellCount_105 k) ?_
                refine ev_bindI (as := [.inr (.inr B), .inl (2 : Int32)]) (fun Q Q1 => rn_callV (as := [.inl (2 : Int32)]) (rest := []) (o := B) m_X0_232 dX0_tellCount_106 (rcv_own (oF hB).1 (oF hB).2.1 (by decide) (okO_1 (oF hB))) rfl rfl (Nat.le_of_ble_eq_true rfl)) pl_X0_jobsInState (Nat.le_of_ble_eq_true rfl) rfl (e_X0_jobsInState l E (d + 1) B hB (2 : Int32) D) (fun r19 D20 => ?_)
                exact ev_ret (fun Q q => rn_ret q .int rfl rfl dX0_tellCount_109)
              · refine ev_ite (fun c25 => ?_) (fun c26 => ?_)
                · refine ev_s (fun Q k => rn_tswI (off := 109) (tgt := 110) dX0_tellCount_1 (by rw [c25]; decide) (by rw [c25]; decide) (by rw [c25]; rfl) (by decide) k) ?_
                  refine ev_s (fun Q k => rn_aload_n (j := 0) 0 rfl rfl (okO_0 (oF hB)) dX0_tellCount_110 k) ?_
                  refine ev_bindI (as := [.inr (.inr B)]) (fun Q Q1 => rn_callV (as := []) (rest := []) (o := B) m_X0_235 dX0_tellCount_111 (rcv_own (oF hB).1 (oF hB).2.1 (by decide) (okO_1 (oF hB))) rfl rfl (Nat.le_of_ble_eq_true rfl)) pl_X0_lateJobs (Nat.le_of_ble_eq_true rfl) rfl (e_X0_lateJobs l E d B hB D) (fun r23 D24 => ?_)
                  exact ev_ret (fun Q q => rn_ret q .int rfl rfl dX0_tellCount_114)
                · refine ev_ite (fun c27 => ?_) (fun c28 => ?_)
                  · refine ev_s (fun Q k => rn_tswI (off := 114) (tgt := 115) dX0_tellCount_1 (by rw [c27]; decide) (by rw [c27]; decide) (by rw [c27]; rfl) (by decide) k) ?_
                    refine ev_s (fun Q k => rn_aload_n (j := 0) 0 rfl rfl (okO_0 (oF hB)) dX0_tellCount_115 k) ?_
                    refine ev_s (fun Q k => rn_geti f_X0_51 (oF hB).1 (oF hB).2.1 (okO_1 (oF hB)) rfl dX0_tellCount_116 k) ?_
                    exact ev_ret (fun Q q => rn_ret q .int rfl rfl dX0_tellCount_119)
                  · refine ev_ite (fun c29 => ?_) (fun c30 => ?_)
                    · refine ev_s (fun Q k => rn_tswI (off := 119) (tgt := 120) dX0_tellCount_1 (by rw [c29]; decide) (by rw [c29]; decide) (by rw [c29]; rfl) (by decide) k) ?_
                      refine ev_s (fun Q k => rn_aload_n (j := 0) 0 rfl rfl (okO_0 (oF hB)) dX0_tellCount_120 k) ?_
                      refine ev_s (fun Q k => rn_geti f_X0_54 (oF hB).1 (oF hB).2.1 (okO_1 (oF hB)) rfl dX0_tellCount_121 k) ?_
                      exact ev_ret (fun Q q => rn_ret q .int rfl rfl dX0_tellCount_124)
                    · refine ev_ite (fun c32 => ?_) (fun c33 => ?_)
                      · refine ev_s (fun Q k => rn_tswI (off := 124) (tgt := 125) dX0_tellCount_1 (by rw [c32]; decide) (by rw [c32]; decide) (by rw [c32]; rfl) (by decide) k) ?_
                        refine ev_s (fun Q k => rn_aload_n (j := 0) 0 rfl rfl (okO_0 (oF hB)) dX0_tellCount_125 k) ?_
                        refine ev_s (fun Q k => rn_getr (q := (B + 1)) f_X0_9 (oF hB).1 (oF hB).2.1 (okO_1 (oF hB)) rfl (rF0 hB) dX0_tellCount_126 k) ?_
                        refine ev_s (fun Q k => rn_iconst (v := 0) (by decide) dX0_tellCount_129 k) ?_
                        refine ev_gd (fun g31 => ?_)
                        refine ev_s (fun Q k => rn_iald (oF1 hB).1 (oF1 hB).2.1 (oF1 hB).2.2 (inR_vp g31) dX0_tellCount_130 k) ?_
                        exact ev_ret (fun Q q => rn_ret q .int rfl rfl dX0_tellCount_131)
                      · refine ev_ite (fun c35 => ?_) (fun c36 => ?_)
                        · refine ev_s (fun Q k => rn_tswI (off := 131) (tgt := 132) dX0_tellCount_1 (by rw [c35]; decide) (by rw [c35]; decide) (by rw [c35]; rfl) (by decide) k) ?_
                          refine ev_s (fun Q k => rn_aload_n (j := 0) 0 rfl rfl (okO_0 (oF hB)) dX0_tellCount_132 k) ?_
                          refine ev_s (fun Q k => rn_getr (q := (B + 1)) f_X0_9 (oF hB).1 (oF hB).2.1 (okO_1 (oF hB)) rfl (rF0 hB) dX0_tellCount_133 k) ?_
                          refine ev_s (fun Q k => rn_iconst (v := 1) (by decide) dX0_tellCount_136 k) ?_
                          refine ev_gd (fun g34 => ?_)
                          refine ev_s (fun Q k => rn_iald (oF1 hB).1 (oF1 hB).2.1 (oF1 hB).2.2 (inR_vp g34) dX0_tellCount_137 k) ?_
                          exact ev_ret (fun Q q => rn_ret q .int rfl rfl dX0_tellCount_138)
                        · refine ev_ite (fun c38 => ?_) (fun c39 => ?_)
                          · refine ev_s (fun Q k => rn_tswI (off := 138) (tgt := 139) dX0_tellCount_1 (by rw [c38]; decide) (by rw [c38]; decide) (by rw [c38]; rfl) (by decide) k) ?_
                            refine ev_s (fun Q k => rn_aload_n (j := 0) 0 rfl rfl (okO_0 (oF hB)) dX0_tellCount_139 k) ?_
                            refine ev_s (fun Q k => rn_getr (q := (B + 1)) f_X0_9 (oF hB).1 (oF hB).2.1 (okO_1 (oF hB)) rfl (rF0 hB) dX0_tellCount_140 k) ?_
                            refine ev_s (fun Q k => rn_iconst (v := 2) (by decide) dX0_tellCount_143 k) ?_
                            refine ev_gd (fun g37 => ?_)
                            refine ev_s (fun Q k => rn_iald (oF1 hB).1 (oF1 hB).2.1 (oF1 hB).2.2 (inR_vp g37) dX0_tellCount_144 k) ?_
                            exact ev_ret (fun Q q => rn_ret q .int rfl rfl dX0_tellCount_145)
                          · refine ev_ite (fun c41 => ?_) (fun c42 => ?_)
                            · refine ev_s (fun Q k => rn_tswI (off := 145) (tgt := 146) dX0_tellCount_1 (by rw [c41]; decide) (by rw [c41]; decide) (by rw [c41]; rfl) (by decide) k) ?_
                              refine ev_s (fun Q k => rn_aload_n (j := 0) 0 rfl rfl (okO_0 (oF hB)) dX0_tellCount_146 k) ?_
                              refine ev_s (fun Q k => rn_getr (q := (B + 1)) f_X0_9 (oF hB).1 (oF hB).2.1 (okO_1 (oF hB)) rfl (rF0 hB) dX0_tellCount_147 k) ?_
                              refine ev_s (fun Q k => rn_iconst (v := 3) (by decide) dX0_tellCount_150 k) ?_
                              refine ev_gd (fun g40 => ?_)
                              refine ev_s (fun Q k => rn_iald (oF1 hB).1 (oF1 hB).2.1 (oF1 hB).2.2 (inR_vp g40) dX0_tellCount_151 k) ?_
                              exact ev_ret (fun Q q => rn_ret q .int rfl rfl dX0_tellCount_152)
                            · have z0 := lv_neT (k := 0) (a := 0) c2 (by decide)
                              have z1 := lv_neT (k := 1) (a := 1) c4 (by decide)
                              have z2 := lv_neT (k := 2) (a := 2) c8 (by decide)
                              have z3 := lv_neT (k := 3) (a := 3) c10 (by decide)
                              have z4 := lv_neT (k := 4) (a := 4) c14 (by decide)
                              have z5 := lv_neT (k := 5) (a := 5) c18 (by decide)
                              have z6 := lv_neT (k := 6) (a := 6) c22 (by decide)
                              have z7 := lv_neT (k := 7) (a := 7) c26 (by decide)
                              have z8 := lv_neT (k := 8) (a := 8) c28 (by decide)
                              have z9 := lv_neT (k := 9) (a := 9) c30 (by decide)
                              have z10 := lv_neT (k := 10) (a := 10) c33 (by decide)
                              have z11 := lv_neT (k := 11) (a := 11) c36 (by decide)
                              have z12 := lv_neT (k := 12) (a := 12) c39 (by decide)
                              have z13 := lv_neT (k := 13) (a := 13) c42 (by decide)
                              refine ev_s (fun Q k => rn_tswO (tgt := 153) dX0_tellCount_1 (by omega) (by decide) k) ?_
                              refine ev_s (fun Q k => rn_bipush (v := -2) (by decide) dX0_tellCount_153 k) ?_
                              exact ev_ret (fun Q q => rn_ret q .int rfl rfl dX0_tellCount_155)

def F_X5_count (x1 : Int32) (D : dT) : Option (Int32 × dT) := if x1 = (14 : Int32) then some ((D 311 4), D) else if x1 = (15 : Int32) then some ((D 85 2), D) else bd (F_X0_tellCount 19 x1 D) (fun (r5 : Int32) (D6 : dT) => some (r5, D6))
set_option maxRecDepth 20000 in
theorem e_X5_count (l : Launch) (E : eE) (d : Nat) (x1 : Int32) (D : dT) : ev l E (d + 3) yX5_count cX5_count 2 (some .int) 0 [(0, .inr (.inr 18)), (1, .inl x1)] [] D eI (F_X5_count x1 D) := by
  unfold F_X5_count
  refine ev_s (fun Q k => rn_iload_n (j := 1) 1 rfl rfl dX5_count_0 k) ?_
  refine ev_ite (fun c1 => ?_) (fun c2 => ?_)
  · refine ev_s (fun Q k => rn_lsw (off := 27) (tgt := 28) dX5_count_1 (by decide) (by rw [c1]; rfl) (by decide) k) ?_
    refine ev_s (fun Q k => rn_aload_n (j := 0) 0 rfl rfl (okO_0 ok_18) dX5_count_28 k) ?_
    refine ev_s (fun Q k => rn_getr (q := 311) f_X5_37 ok_18.1 ok_18.2.1 (okO_1 ok_18) rfl rfl dX5_count_29 k) ?_
    refine ev_s (fun Q k => rn_geti f_X5_120 ok_311.1 ok_311.2.1 (okO_1 ok_311) rfl dX5_count_32 k) ?_
    exact ev_ret (fun Q q => rn_ret q .int rfl rfl dX5_count_35)
  · refine ev_ite (fun c3 => ?_) (fun c4 => ?_)
    · refine ev_s (fun Q k => rn_lsw (off := 35) (tgt := 36) dX5_count_1 (by decide) (by rw [c3]; rfl) (by decide) k) ?_
      refine ev_s (fun Q k => rn_aload_n (j := 0) 0 rfl rfl (okO_0 ok_18) dX5_count_36 k) ?_
      refine ev_s (fun Q k => rn_getr (q := 85) f_X5_30 ok_18.1 ok_18.2.1 (okO_1 ok_18) rfl rfl dX5_count_37 k) ?_
      refine ev_s (fun Q k => rn_geti f_X5_124 ok_85.1 ok_85.2.1 (okO_1 ok_85) rfl dX5_count_40 k) ?_
      exact ev_ret (fun Q q => rn_ret q .int rfl rfl dX5_count_43)
    · refine ev_s (fun Q k => rn_lsw (off := 43) (tgt := 44) dX5_count_1 (by decide) ((lv_osw (k := 14) c2 (by decide)).trans ((lv_osw (k := 15) c4 (by decide)).trans rfl)) (by decide) k) ?_
      refine ev_s (fun Q k => rn_aload_n (j := 0) 0 rfl rfl (okO_0 ok_18) dX5_count_44 k) ?_
      refine ev_s (fun Q k => rn_getr (q := 19) f_X5_10 ok_18.1 ok_18.2.1 (okO_1 ok_18) rfl rfl dX5_count_45 k) ?_
      refine ev_s (fun Q k => rn_iload_n (j := 1) 1 rfl rfl dX5_count_48 k) ?_
      refine ev_bindI (as := [.inr (.inr 19), .inl x1]) (fun Q Q1 => rn_callV (as := [.inl x1]) (rest := []) (o := 19) m_X5_127 dX5_count_49 (rcv_own (oF isF_19).1 (oF isF_19).2.1 (by decide) (okO_1 (oF isF_19))) rfl rfl (Nat.le_of_ble_eq_true rfl)) pl_X0_tellCount (Nat.le_of_ble_eq_true rfl) rfl (e_X0_tellCount l E d 19 isF_19 x1 D) (fun r5 D6 => ?_)
      exact ev_ret (fun Q q => rn_ret q .int rfl rfl dX5_count_52)

def F_X5_why (x1 : Int32) (x2 : Int32) (x3 : Int32) (D : dT) : Option (Int32 × dT) := bd (F_X0_whyNot 19 x1 x2 x3 D) (fun (r1 : Int32) (D2 : dT) => some (r1, D2))
set_option maxRecDepth 20000 in
theorem e_X5_why (l : Launch) (E : eE) (d : Nat) (x1 : Int32) (x2 : Int32) (x3 : Int32) (D : dT) : ev l E (d + 3) yX5_why cX5_why 4 (some .int) 0 [(0, .inr (.inr 18)), (1, .inl x1), (2, .inl x2), (3, .inl x3)] [] D eI (F_X5_why x1 x2 x3 D) := by
  unfold F_X5_why
  refine ev_s (fun Q k => rn_aload_n (j := 0) 0 rfl rfl (okO_0 ok_18) dX5_why_0 k) ?_
  refine ev_s (fun Q k => rn_getr (q := 19) f_X5_10 ok_18.1 ok_18.2.1 (okO_1 ok_18) rfl rfl dX5_why_1 k) ?_
  refine ev_s (fun Q k => rn_iload_n (j := 1) 1 rfl rfl dX5_why_4 k) ?_
  refine ev_s (fun Q k => rn_iload_n (j := 2) 2 rfl rfl dX5_why_5 k) ?_
  refine ev_s (fun Q k => rn_iload_n (j := 3) 3 rfl rfl dX5_why_6 k) ?_
  refine ev_bindI (as := [.inr (.inr 19), .inl x1, .inl x2, .inl x3]) (fun Q Q1 => rn_callV (as := [.inl x1, .inl x2, .inl x3]) (rest := []) (o := 19) m_X5_130 dX5_why_7 (rcv_own (oF isF_19).1 (oF isF_19).2.1 (by decide) (okO_1 (oF isF_19))) rfl rfl (Nat.le_of_ble_eq_true rfl)) pl_X0_whyNot (Nat.le_of_ble_eq_true rfl) rfl (e_X0_whyNot l E d 19 isF_19 x1 x2 x3 D) (fun r1 D2 => ?_)
  exact ev_ret (fun Q q => rn_ret q .int rfl rfl dX5_why_10)

def F_X5_crew (x1 : Int32) (x2 : Int32) (D : dT) : Option (Int32 × dT) := bd (F_X0_hasJob 19 x1 D) (fun (r1 : Int32) (D2 : dT) => if r1 = 0 then some ((-1 : Int32), D2) else bd (F_X5_isKindOrNone x2 D2) (fun (r3 : Int32) (D4 : dT) => if r3 = 0 then some ((-2 : Int32), D4) else if inR x1 16 then if (D4 (19 + 16 + x1.toNatClampNeg) 5) = 0 then if inR x1 16 then bd (F_X0_crewByItself 19 (19 + 16 + x1.toNatClampNeg) x2 D4) (fun (r7 : Int32) (D8 : dT) => some (r7, D8)) else none else some ((-5 : Int32), D4) else none))
set_option maxRecDepth 20000 in
theorem e_X5_crew (l : Launch) (E : eE) (d : Nat) (x1 : Int32) (x2 : Int32) (D : dT) : ev l E (d + 3) yX5_crew cX5_crew 3 (some .int) 0 [(0, .inr (.inr 18)), (1, .inl x1), (2, .inl x2)] [] D eI (F_X5_crew x1 x2 D) := by
  unfold F_X5_crew
  refine ev_s (fun Q k => rn_aload_n (j := 0) 0 rfl rfl (okO_0 ok_18) dX5_crew_0 k) ?_
  refine ev_s (fun Q k => rn_getr (q := 19) f_X5_10 ok_18.1 ok_18.2.1 (okO_1 ok_18) rfl rfl dX5_crew_1 k) ?_
  refine ev_s (fun Q k => rn_iload_n (j := 1) 1 rfl rfl dX5_crew_4 k) ?_
  refine ev_bindI (as := [.inr (.inr 19), .inl x1]) (fun Q Q1 => rn_callV (as := [.inl x1]) (rest := []) (o := 19) m_X5_97 dX5_crew_5 (rcv_own (oF isF_19).1 (oF isF_19).2.1 (by decide) (okO_1 (oF isF_19))) rfl rfl (Nat.le_of_ble_eq_true rfl)) pl_X0_hasJob (Nat.le_of_ble_eq_true rfl) rfl (e_X0_hasJob l E (d + 2) 19 isF_19 x1 D) (fun r1 D2 => ?_)
  refine ev_if (fun Q => rn_if_ne (tgt := 13) dX5_crew_8 (by decide)) (fun c13 => ?_) (fun c14 => ?_)
  · refine ev_s (fun Q k => rn_iconst (v := -1) (by decide) dX5_crew_11 k) ?_
    exact ev_ret (fun Q q => rn_ret q .int rfl rfl dX5_crew_12)
  · refine ev_s (fun Q k => rn_iload_n (j := 2) 2 rfl rfl dX5_crew_13 k) ?_
    refine ev_bindI (as := [.inl x2]) (fun Q Q1 => rn_callS (as := [.inl x2]) (rest := []) m_X5_133 dX5_crew_14 rfl rfl (Nat.le_of_ble_eq_true rfl)) pl_X5_isKindOrNone (Nat.le_of_ble_eq_true rfl) rfl (e_X5_isKindOrNone l E (d + 1) x2 D2) (fun r3 D4 => ?_)
    refine ev_if (fun Q => rn_if_ne (tgt := 23) dX5_crew_17 (by decide)) (fun c11 => ?_) (fun c12 => ?_)
    · refine ev_s (fun Q k => rn_bipush (v := -2) (by decide) dX5_crew_20 k) ?_
      exact ev_ret (fun Q q => rn_ret q .int rfl rfl dX5_crew_22)
    · refine ev_s (fun Q k => rn_aload_n (j := 0) 0 rfl rfl (okO_0 ok_18) dX5_crew_23 k) ?_
      refine ev_s (fun Q k => rn_getr (q := 19) f_X5_10 ok_18.1 ok_18.2.1 (okO_1 ok_18) rfl rfl dX5_crew_24 k) ?_
      refine ev_s (fun Q k => rn_getr (q := (19 + 5)) f_X5_100 (oF isF_19).1 (oF isF_19).2.1 (okO_1 (oF isF_19)) rfl (rF4 isF_19) dX5_crew_27 k) ?_
      refine ev_s (fun Q k => rn_iload_n (j := 1) 1 rfl rfl dX5_crew_30 k) ?_
      refine ev_gd (fun g5 => ?_)
      refine ev_s (fun Q k => rn_aald (q := (19 + 16 + x1.toNatClampNeg)) (oF5 isF_19).1 (oF5 isF_19).2.1 (by decide) (by decide) (oF5 isF_19).2.2 (inR_vp g5) (rJ isF_19 g5.2) dX5_crew_31 k) ?_
      refine ev_s (fun Q k => rn_geti f_X5_136 (oJ isF_19 g5.2).1 (oJ isF_19 g5.2).2.1 (okO_1 (oJ isF_19 g5.2)) rfl dX5_crew_32 k) ?_
      refine ev_if (fun Q => rn_if_eq (tgt := 41) dX5_crew_35 (by decide)) (fun c9 => ?_) (fun c10 => ?_)
      · refine ev_s (fun Q k => rn_aload_n (j := 0) 0 rfl rfl (okO_0 ok_18) dX5_crew_41 k) ?_
        refine ev_s (fun Q k => rn_getr (q := 19) f_X5_10 ok_18.1 ok_18.2.1 (okO_1 ok_18) rfl rfl dX5_crew_42 k) ?_
        refine ev_s (fun Q k => rn_aload_n (j := 0) 0 rfl rfl (okO_0 ok_18) dX5_crew_45 k) ?_
        refine ev_s (fun Q k => rn_getr (q := 19) f_X5_10 ok_18.1 ok_18.2.1 (okO_1 ok_18) rfl rfl dX5_crew_46 k) ?_
        refine ev_s (fun Q k => rn_getr (q := (19 + 5)) f_X5_100 (oF isF_19).1 (oF isF_19).2.1 (okO_1 (oF isF_19)) rfl (rF4 isF_19) dX5_crew_49 k) ?_
        refine ev_s (fun Q k => rn_iload_n (j := 1) 1 rfl rfl dX5_crew_52 k) ?_
        refine ev_gd (fun g6 => ?_)
        refine ev_s (fun Q k => rn_aald (q := (19 + 16 + x1.toNatClampNeg)) (oF5 isF_19).1 (oF5 isF_19).2.1 (by decide) (by decide) (oF5 isF_19).2.2 (inR_vp g6) (rJ isF_19 g6.2) dX5_crew_53 k) ?_
        refine ev_s (fun Q k => rn_iload_n (j := 2) 2 rfl rfl dX5_crew_54 k) ?_
        refine ev_bindI (as := [.inr (.inr 19), .inr (.inr (19 + 16 + x1.toNatClampNeg)), .inl x2]) (fun Q Q1 => rn_callV (as := [.inr (.inr (19 + 16 + x1.toNatClampNeg)), .inl x2]) (rest := []) (o := 19) m_X5_141 dX5_crew_55 (rcv_own (oF isF_19).1 (oF isF_19).2.1 (by decide) (okO_1 (oF isF_19))) rfl rfl (Nat.le_of_ble_eq_true rfl)) pl_X0_crewByItself (Nat.le_of_ble_eq_true rfl) rfl (e_X0_crewByItself l E d 19 isF_19 (19 + 16 + x1.toNatClampNeg) (oJ isF_19 g6.2) x2 D4) (fun r7 D8 => ?_)
        exact ev_ret (fun Q q => rn_ret q .int rfl rfl dX5_crew_58)
      · refine ev_s (fun Q k => rn_bipush (v := -5) (by decide) dX5_crew_38 k) ?_
        exact ev_ret (fun Q q => rn_ret q .int rfl rfl dX5_crew_40)

def F_X5_bestStraps (x1 : Int32) (D : dT) : Option (Int32 × dT) := bd (F_X0_hasJob 19 x1 D) (fun (r1 : Int32) (D2 : dT) => if r1 = 0 then some ((-1 : Int32), D2) else if inR x1 16 then if (D2 (19 + 16 + x1.toNatClampNeg) 5) = 0 then if inR x1 16 then bd (F_X0_fewestPeopleStraps 19 (19 + 16 + x1.toNatClampNeg) D2) (fun (r5 : Int32) (D6 : dT) => some (r5, D6)) else none else some ((-5 : Int32), D2) else none)
set_option maxRecDepth 20000 in
theorem e_X5_bestStraps (l : Launch) (E : eE) (d : Nat) (x1 : Int32) (D : dT) : ev l E (d + 4) yX5_bestStraps cX5_bestStraps 2 (some .int) 0 [(0, .inr (.inr 18)), (1, .inl x1)] [] D eI (F_X5_bestStraps x1 D) := by
  unfold F_X5_bestStraps
  refine ev_s (fun Q k => rn_aload_n (j := 0) 0 rfl rfl (okO_0 ok_18) dX5_bestStraps_0 k) ?_
  refine ev_s (fun Q k => rn_getr (q := 19) f_X5_10 ok_18.1 ok_18.2.1 (okO_1 ok_18) rfl rfl dX5_bestStraps_1 k) ?_
  refine ev_s (fun Q k => rn_iload_n (j := 1) 1 rfl rfl dX5_bestStraps_4 k) ?_
  refine ev_bindI (as := [.inr (.inr 19), .inl x1]) (fun Q Q1 => rn_callV (as := [.inl x1]) (rest := []) (o := 19) m_X5_97 dX5_bestStraps_5 (rcv_own (oF isF_19).1 (oF isF_19).2.1 (by decide) (okO_1 (oF isF_19))) rfl rfl (Nat.le_of_ble_eq_true rfl)) pl_X0_hasJob (Nat.le_of_ble_eq_true rfl) rfl (e_X0_hasJob l E (d + 3) 19 isF_19 x1 D) (fun r1 D2 => ?_)
  refine ev_if (fun Q => rn_if_ne (tgt := 13) dX5_bestStraps_8 (by decide)) (fun c9 => ?_) (fun c10 => ?_)
  · refine ev_s (fun Q k => rn_iconst (v := -1) (by decide) dX5_bestStraps_11 k) ?_
    exact ev_ret (fun Q q => rn_ret q .int rfl rfl dX5_bestStraps_12)
  · refine ev_s (fun Q k => rn_aload_n (j := 0) 0 rfl rfl (okO_0 ok_18) dX5_bestStraps_13 k) ?_
    refine ev_s (fun Q k => rn_getr (q := 19) f_X5_10 ok_18.1 ok_18.2.1 (okO_1 ok_18) rfl rfl dX5_bestStraps_14 k) ?_
    refine ev_s (fun Q k => rn_getr (q := (19 + 5)) f_X5_100 (oF isF_19).1 (oF isF_19).2.1 (okO_1 (oF isF_19)) rfl (rF4 isF_19) dX5_bestStraps_17 k) ?_
    refine ev_s (fun Q k => rn_iload_n (j := 1) 1 rfl rfl dX5_bestStraps_20 k) ?_
    refine ev_gd (fun g3 => ?_)
    refine ev_s (fun Q k => rn_aald (q := (19 + 16 + x1.toNatClampNeg)) (oF5 isF_19).1 (oF5 isF_19).2.1 (by decide) (by decide) (oF5 isF_19).2.2 (inR_vp g3) (rJ isF_19 g3.2) dX5_bestStraps_21 k) ?_
    refine ev_s (fun Q k => rn_geti f_X5_136 (oJ isF_19 g3.2).1 (oJ isF_19 g3.2).2.1 (okO_1 (oJ isF_19 g3.2)) rfl dX5_bestStraps_22 k) ?_
    refine ev_if (fun Q => rn_if_eq (tgt := 31) dX5_bestStraps_25 (by decide)) (fun c7 => ?_) (fun c8 => ?_)
    · refine ev_s (fun Q k => rn_aload_n (j := 0) 0 rfl rfl (okO_0 ok_18) dX5_bestStraps_31 k) ?_
      refine ev_s (fun Q k => rn_getr (q := 19) f_X5_10 ok_18.1 ok_18.2.1 (okO_1 ok_18) rfl rfl dX5_bestStraps_32 k) ?_
      refine ev_s (fun Q k => rn_aload_n (j := 0) 0 rfl rfl (okO_0 ok_18) dX5_bestStraps_35 k) ?_
      refine ev_s (fun Q k => rn_getr (q := 19) f_X5_10 ok_18.1 ok_18.2.1 (okO_1 ok_18) rfl rfl dX5_bestStraps_36 k) ?_
      refine ev_s (fun Q k => rn_getr (q := (19 + 5)) f_X5_100 (oF isF_19).1 (oF isF_19).2.1 (okO_1 (oF isF_19)) rfl (rF4 isF_19) dX5_bestStraps_39 k) ?_
      refine ev_s (fun Q k => rn_iload_n (j := 1) 1 rfl rfl dX5_bestStraps_42 k) ?_
      refine ev_gd (fun g4 => ?_)
      refine ev_s (fun Q k => rn_aald (q := (19 + 16 + x1.toNatClampNeg)) (oF5 isF_19).1 (oF5 isF_19).2.1 (by decide) (by decide) (oF5 isF_19).2.2 (inR_vp g4) (rJ isF_19 g4.2) dX5_bestStraps_43 k) ?_
      refine ev_bindI (as := [.inr (.inr 19), .inr (.inr (19 + 16 + x1.toNatClampNeg))]) (fun Q Q1 => rn_callV (as := [.inr (.inr (19 + 16 + x1.toNatClampNeg))]) (rest := []) (o := 19) m_X5_144 dX5_bestStraps_44 (rcv_own (oF isF_19).1 (oF isF_19).2.1 (by decide) (okO_1 (oF isF_19))) rfl rfl (Nat.le_of_ble_eq_true rfl)) pl_X0_fewestPeopleStraps (Nat.le_of_ble_eq_true rfl) rfl (e_X0_fewestPeopleStraps l E d 19 isF_19 (19 + 16 + x1.toNatClampNeg) (oJ isF_19 g4.2) D2) (fun r5 D6 => ?_)
      exact ev_ret (fun Q q => rn_ret q .int rfl rfl dX5_bestStraps_47)
    · refine ev_s (fun Q k => rn_bipush (v := -5) (by decide) dX5_bestStraps_28 k) ?_
      exact ev_ret (fun Q q => rn_ret q .int rfl rfl dX5_bestStraps_30)

def F_X5_doneIn_45 (fuel : Nat) (x1 : Int32)  (v2 : Int32) (D : dT) : Option (Int32 × dT) := match fuel with
  | 0 => none
  | fu + 1 => if (500 : Int32) < v2 then some ((-6 : Int32), D) else if inR x1 16 then bd (F_X0_workOneHour 51 (51 + 16 + x1.toNatClampNeg) D) (fun (r2 : Int32) (D3 : dT) => if r2 = 0 then F_X5_doneIn_45 fu x1 (v2 + (1 : Int32)) D3 else some (v2, D3)) else none
def F_X5_doneIn (x1 : Int32) (D : dT) : Option (Int32 × dT) := bd (F_X0_hasJob 19 x1 D) (fun (r1 : Int32) (D2 : dT) => if r1 = 0 then some ((-1 : Int32), D2) else if inR x1 16 then if (D2 (19 + 16 + x1.toNatClampNeg) 5) = (1 : Int32) then bd (F_X0_copyFrom 51 19 D2) (fun (r4 : Int32) (D5 : dT) => F_X5_doneIn_45 lim x1 (1 : Int32) D5) else some ((-5 : Int32), D2) else none)
set_option maxRecDepth 20000 in
theorem e_X5_doneIn_45 (l : Launch) (E : eE) (d : Nat) (x1 : Int32)  (fuel : Nat) : ∀ (v2 : Int32) (D : dT), ev l E (d + 4) yX5_doneIn cX5_doneIn 3 (some .int) 45 [(0, .inr (.inr 18)), (1, .inl x1), (2, .inl v2)] [] D eI (F_X5_doneIn_45 fuel x1 v2 D) := by
  induction fuel with
  | zero =>
    intro v2 D
    exact ev_none
  | succ fu ih =>
    intro v2 D
    rw [F_X5_doneIn_45]
    refine ev_s (fun Q k => rn_iload_n (j := 2) 2 rfl rfl dX5_doneIn_45 k) ?_
    refine ev_s (fun Q k => rn_sipush (v := 500) (by decide) dX5_doneIn_46 k) ?_
    refine ev_if (fun Q => rn_icmp_gt (tgt := 79) dX5_doneIn_49 (by decide)) (fun c6 => ?_) (fun c7 => ?_)
    · refine ev_s (fun Q k => rn_bipush (v := -6) (by decide) dX5_doneIn_79 k) ?_
      exact ev_ret (fun Q q => rn_ret q .int rfl rfl dX5_doneIn_81)
    · refine ev_s (fun Q k => rn_aload_n (j := 0) 0 rfl rfl (okO_0 ok_18) dX5_doneIn_52 k) ?_
      refine ev_s (fun Q k => rn_getr (q := 51) f_X5_16 ok_18.1 ok_18.2.1 (okO_1 ok_18) rfl rfl dX5_doneIn_53 k) ?_
      refine ev_s (fun Q k => rn_aload_n (j := 0) 0 rfl rfl (okO_0 ok_18) dX5_doneIn_56 k) ?_
      refine ev_s (fun Q k => rn_getr (q := 51) f_X5_16 ok_18.1 ok_18.2.1 (okO_1 ok_18) rfl rfl dX5_doneIn_57 k) ?_
      refine ev_s (fun Q k => rn_getr (q := (51 + 5)) f_X5_100 (oF isF_51).1 (oF isF_51).2.1 (okO_1 (oF isF_51)) rfl (rF4 isF_51) dX5_doneIn_60 k) ?_
      refine ev_s (fun Q k => rn_iload_n (j := 1) 1 rfl rfl dX5_doneIn_63 k) ?_
      refine ev_gd (fun g1 => ?_)
      refine ev_s (fun Q k => rn_aald (q := (51 + 16 + x1.toNatClampNeg)) (oF5 isF_51).1 (oF5 isF_51).2.1 (by decide) (by decide) (oF5 isF_51).2.2 (inR_vp g1) (rJ isF_51 g1.2) dX5_doneIn_64 k) ?_
      refine ev_bindI (as := [.inr (.inr 51), .inr (.inr (51 + 16 + x1.toNatClampNeg))]) (fun Q Q1 => rn_callV (as := [.inr (.inr (51 + 16 + x1.toNatClampNeg))]) (rest := []) (o := 51) m_X5_151 dX5_doneIn_65 (rcv_own (oF isF_51).1 (oF isF_51).2.1 (by decide) (okO_1 (oF isF_51))) rfl rfl (Nat.le_of_ble_eq_true rfl)) pl_X0_workOneHour (Nat.le_of_ble_eq_true rfl) rfl (e_X0_workOneHour l E d 51 isF_51 (51 + 16 + x1.toNatClampNeg) (oJ isF_51 g1.2) D) (fun r2 D3 => ?_)
      refine ev_if (fun Q => rn_if_eq (tgt := 73) dX5_doneIn_68 (by decide)) (fun c4 => ?_) (fun c5 => ?_)
      · refine ev_s (fun Q k => rn_iinc (v := (v2 + (1 : Int32))) (ls' := [(2, .inl (v2 + (1 : Int32))), (0, .inr (.inr 18)), (1, .inl x1)]) 2 rfl rfl (by decide) rfl dX5_doneIn_73 k) ?_
        refine ev_s (fun Q k => rn_goto (tgt := 45) dX5_doneIn_76 (by decide) k) ?_
        refine ev_s (fun Q k => rn_sub (ls' := [(0, .inr (.inr 18)), (1, .inl x1), (2, .inl (v2 + (1 : Int32)))]) [1, 2, 0] rfl k) ?_
        exact ih (v2 + (1 : Int32)) D3
      · refine ev_s (fun Q k => rn_iload_n (j := 2) 2 rfl rfl dX5_doneIn_71 k) ?_
        exact ev_ret (fun Q q => rn_ret q .int rfl rfl dX5_doneIn_72)

set_option maxRecDepth 20000 in
theorem e_X5_doneIn (l : Launch) (E : eE) (d : Nat) (x1 : Int32) (D : dT) : ev l E (d + 4) yX5_doneIn cX5_doneIn 3 (some .int) 0 [(0, .inr (.inr 18)), (1, .inl x1)] [] D eI (F_X5_doneIn x1 D) := by
  unfold F_X5_doneIn
  refine ev_s (fun Q k => rn_aload_n (j := 0) 0 rfl rfl (okO_0 ok_18) dX5_doneIn_0 k) ?_
  refine ev_s (fun Q k => rn_getr (q := 19) f_X5_10 ok_18.1 ok_18.2.1 (okO_1 ok_18) rfl rfl dX5_doneIn_1 k) ?_
  refine ev_s (fun Q k => rn_iload_n (j := 1) 1 rfl rfl dX5_doneIn_4 k) ?_
  refine ev_bindI (as := [.inr (.inr 19), .inl x1]) (fun Q Q1 => rn_callV (as := [.inl x1]) (rest := []) (o := 19) m_X5_97 dX5_doneIn_5 (rcv_own (oF isF_19).1 (oF isF_19).2.1 (by decide) (okO_1 (oF isF_19))) rfl rfl (Nat.le_of_ble_eq_true rfl)) pl_X0_hasJob (Nat.le_of_ble_eq_true rfl) rfl (e_X0_hasJob l E (d + 3) 19 isF_19 x1 D) (fun r1 D2 => ?_)
  refine ev_if (fun Q => rn_if_ne (tgt := 13) dX5_doneIn_8 (by decide)) (fun c8 => ?_) (fun c9 => ?_)
  · refine ev_s (fun Q k => rn_iconst (v := -1) (by decide) dX5_doneIn_11 k) ?_
    exact ev_ret (fun Q q => rn_ret q .int rfl rfl dX5_doneIn_12)
  · refine ev_s (fun Q k => rn_aload_n (j := 0) 0 rfl rfl (okO_0 ok_18) dX5_doneIn_13 k) ?_
    refine ev_s (fun Q k => rn_getr (q := 19) f_X5_10 ok_18.1 ok_18.2.1 (okO_1 ok_18) rfl rfl dX5_doneIn_14 k) ?_
    refine ev_s (fun Q k => rn_getr (q := (19 + 5)) f_X5_100 (oF isF_19).1 (oF isF_19).2.1 (okO_1 (oF isF_19)) rfl (rF4 isF_19) dX5_doneIn_17 k) ?_
    refine ev_s (fun Q k => rn_iload_n (j := 1) 1 rfl rfl dX5_doneIn_20 k) ?_
    refine ev_gd (fun g3 => ?_)
    refine ev_s (fun Q k => rn_aald (q := (19 + 16 + x1.toNatClampNeg)) (oF5 isF_19).1 (oF5 isF_19).2.1 (by decide) (by decide) (oF5 isF_19).2.2 (inR_vp g3) (rJ isF_19 g3.2) dX5_doneIn_21 k) ?_
    refine ev_s (fun Q k => rn_geti f_X5_136 (oJ isF_19 g3.2).1 (oJ isF_19 g3.2).2.1 (okO_1 (oJ isF_19 g3.2)) rfl dX5_doneIn_22 k) ?_
    refine ev_s (fun Q k => rn_iconst (v := 1) (by decide) dX5_doneIn_25 k) ?_
    refine ev_if (fun Q => rn_icmp_eq (tgt := 32) dX5_doneIn_26 (by decide)) (fun c6 => ?_) (fun c7 => ?_)
    · refine ev_s (fun Q k => rn_aload_n (j := 0) 0 rfl rfl (okO_0 ok_18) dX5_doneIn_32 k) ?_
      refine ev_s (fun Q k => rn_getr (q := 51) f_X5_16 ok_18.1 ok_18.2.1 (okO_1 ok_18) rfl rfl dX5_doneIn_33 k) ?_
      refine ev_s (fun Q k => rn_aload_n (j := 0) 0 rfl rfl (okO_0 ok_18) dX5_doneIn_36 k) ?_
      refine ev_s (fun Q k => rn_getr (q := 19) f_X5_10 ok_18.1 ok_18.2.1 (okO_1 ok_18) rfl rfl dX5_doneIn_37 k) ?_
      refine ev_bindU (as := [.inr (.inr 51), .inr (.inr 19)]) (fun Q Q1 => rn_callV (as := [.inr (.inr 19)]) (rest := []) (o := 51) m_X5_148 dX5_doneIn_40 (rcv_own (oF isF_51).1 (oF isF_51).2.1 (by decide) (okO_1 (oF isF_51))) rfl rfl (Nat.le_of_ble_eq_true rfl)) pl_X0_copyFrom (Nat.le_of_ble_eq_true rfl) rfl (e_X0_copyFrom l E (d + 2) 51 isF_51 19 isF_19 D2) (fun r4 D5 => ?_)
      refine ev_s (fun Q k => rn_iconst (v := 1) (by decide) dX5_doneIn_43 k) ?_
      refine ev_s (fun Q k => rn_istore_n (j := 2) (ls' := [(2, .inl (1 : Int32)), (0, .inr (.inr 18)), (1, .inl x1)]) rfl (by decide) rfl dX5_doneIn_44 k) ?_
      refine ev_s (fun Q k => rn_sub (ls' := [(0, .inr (.inr 18)), (1, .inl x1), (2, .inl (1 : Int32))]) [1, 2, 0] rfl k) ?_
      exact e_X5_doneIn_45 l E d x1  lim (1 : Int32) D5
    · refine ev_s (fun Q k => rn_bipush (v := -5) (by decide) dX5_doneIn_29 k) ?_
      exact ev_ret (fun Q q => rn_ret q .int rfl rfl dX5_doneIn_31)

def F_X5_ifAssigned  (D : dT) : Option (Int32 × dT) := bd (F_X0_copyFrom 51 19 D) (fun (r1 : Int32) (D2 : dT) => bd (F_X0_assignJobs 51 D2) (fun (r3 : Int32) (D4 : dT) => some (r3, D4)))
set_option maxRecDepth 20000 in
theorem e_X5_ifAssigned (l : Launch) (E : eE) (d : Nat)  (D : dT) : ev l E (d + 5) yX5_ifAssigned cX5_ifAssigned 1 (some .int) 0 [(0, .inr (.inr 18))] [] D eI (F_X5_ifAssigned D) := by
  unfold F_X5_ifAssigned
  refine ev_s (fun Q k => rn_aload_n (j := 0) 0 rfl rfl (okO_0 ok_18) dX5_ifAssigned_0 k) ?_
  refine ev_s (fun Q k => rn_getr (q := 51) f_X5_16 ok_18.1 ok_18.2.1 (okO_1 ok_18) rfl rfl dX5_ifAssigned_1 k) ?_
  refine ev_s (fun Q k => rn_aload_n (j := 0) 0 rfl rfl (okO_0 ok_18) dX5_ifAssigned_4 k) ?_
  refine ev_s (fun Q k => rn_getr (q := 19) f_X5_10 ok_18.1 ok_18.2.1 (okO_1 ok_18) rfl rfl dX5_ifAssigned_5 k) ?_
  refine ev_bindU (as := [.inr (.inr 51), .inr (.inr 19)]) (fun Q Q1 => rn_callV (as := [.inr (.inr 19)]) (rest := []) (o := 51) m_X5_148 dX5_ifAssigned_8 (rcv_own (oF isF_51).1 (oF isF_51).2.1 (by decide) (okO_1 (oF isF_51))) rfl rfl (Nat.le_of_ble_eq_true rfl)) pl_X0_copyFrom (Nat.le_of_ble_eq_true rfl) rfl (e_X0_copyFrom l E (d + 3) 51 isF_51 19 isF_19 D) (fun r1 D2 => ?_)
  refine ev_s (fun Q k => rn_aload_n (j := 0) 0 rfl rfl (okO_0 ok_18) dX5_ifAssigned_11 k) ?_
  refine ev_s (fun Q k => rn_getr (q := 51) f_X5_16 ok_18.1 ok_18.2.1 (okO_1 ok_18) rfl rfl dX5_ifAssigned_12 k) ?_
  refine ev_bindI (as := [.inr (.inr 51)]) (fun Q Q1 => rn_callV (as := []) (rest := []) (o := 51) m_X5_67 dX5_ifAssigned_15 (rcv_own (oF isF_51).1 (oF isF_51).2.1 (by decide) (okO_1 (oF isF_51))) rfl rfl (Nat.le_of_ble_eq_true rfl)) pl_X0_assignJobs (Nat.le_of_ble_eq_true rfl) rfl (e_X0_assignJobs l E d 51 isF_51 D2) (fun r3 D4 => ?_)
  exact ev_ret (fun Q q => rn_ret q .int rfl rfl dX5_ifAssigned_18)

def F_X3_signOf (x1 : Int64) (x2 : Int32) (D : dT) : Option (Int32 × dT) := some (((((x1.toUInt64 >>> (((8 : Int32) * x2).toInt64.toUInt64 &&& Int64.toUInt64 63)).toInt64).toInt32) &&& (255 : Int32)), D)
set_option maxRecDepth 20000 in
theorem e_X3_signOf (l : Launch) (E : eE) (d : Nat) (x1 : Int64) (x2 : Int32) (D : dT) : ev l E d yX3_signOf cX3_signOf 3 (some .int) 0 [(0, .inr (.inl x1)), (2, .inl x2)] [] D eI (F_X3_signOf x1 x2 D) := by
  unfold F_X3_signOf
  refine ev_s (fun Q k => rn_lload_n (j := 0) 0 rfl rfl dX3_signOf_0 k) ?_
  refine ev_s (fun Q k => rn_bipush (v := 8) (by decide) dX3_signOf_1 k) ?_
  refine ev_s (fun Q k => rn_iload_n (j := 2) 1 rfl rfl dX3_signOf_3 k) ?_
  refine ev_s (fun Q k => rn_imul dX3_signOf_4 k) ?_
  refine ev_s (fun Q k => rn_lushr (v := (x1.toUInt64 >>> (((8 : Int32) * x2).toInt64.toUInt64 &&& Int64.toUInt64 63)).toInt64) rfl dX3_signOf_5 k) ?_
  refine ev_s (fun Q k => rn_l2i (v := ((x1.toUInt64 >>> (((8 : Int32) * x2).toInt64.toUInt64 &&& Int64.toUInt64 63)).toInt64).toInt32) rfl dX3_signOf_6 k) ?_
  refine ev_s (fun Q k => rn_sipush (v := 255) (by decide) dX3_signOf_7 k) ?_
  refine ev_s (fun Q k => rn_iand dX3_signOf_10 k) ?_
  exact ev_ret (fun Q q => rn_ret q .int rfl rfl dX3_signOf_11)

def F_X3_signsIn_61 (x1 : Int64)  (v2 : Int32) (s0 : Int32) (D : dT) : Option (Int32 × dT) := if s0 = 0 then some ((0 : Int32), D) else some (v2, D)
def F_X3_signsIn_56 (x1 : Int64)  (v2 : Int32) (D : dT) : Option (Int32 × dT) := F_X3_signsIn_61 x1 v2 (1 : Int32) D
def F_X3_signsIn_39 (x1 : Int64)  (v2 : Int32) (D : dT) : Option (Int32 × dT) := if v2 = (8 : Int32) then F_X3_signsIn_56 x1 v2 D else if (lg_cmp ((x1.toUInt64 >>> (((8 : Int32) * v2).toInt64.toUInt64 &&& Int64.toUInt64 63)).toInt64) (0 : Int64)) = 0 then F_X3_signsIn_56 x1 v2 D else F_X3_signsIn_61 x1 v2 (0 : Int32) D
def F_X3_signsIn_2 (fuel : Nat) (x1 : Int64)  (v2 : Int32) (D : dT) : Option (Int32 × dT) := match fuel with
  | 0 => none
  | fu + 1 => if (8 : Int32) ≤ v2 then F_X3_signsIn_39 x1 v2 D else bd (F_X3_signOf x1 v2 D) (fun (r1 : Int32) (D2 : dT) => if r1 = 0 then F_X3_signsIn_39 x1 v2 D2 else bd (F_X3_signOf x1 v2 D2) (fun (r3 : Int32) (D4 : dT) => bd (F_X5_isWithin r3 (33 : Int32) (126 : Int32) D4) (fun (r5 : Int32) (D6 : dT) => if r5 = 0 then some ((0 : Int32), D6) else F_X3_signsIn_2 fu x1 (v2 + (1 : Int32)) D6)))
def F_X3_signsIn (x1 : Int64) (D : dT) : Option (Int32 × dT) := F_X3_signsIn_2 lim x1 (0 : Int32) D
set_option maxRecDepth 20000 in
theorem e_X3_signsIn_61 (l : Launch) (E : eE) (d : Nat) (x1 : Int64)  (v2 : Int32) (s0 : Int32) (D : dT) : ev l E (d + 1) yX3_signsIn cX3_signsIn 4 (some .int) 61 [(2, .inl v2)] [.inl s0] D eI (F_X3_signsIn_61 x1 v2 s0 D) := by
  unfold F_X3_signsIn_61
  refine ev_s (fun Q k => rn_istore_n (j := 3) (ls' := [(3, .inl s0), (2, .inl v2)]) rfl (by decide) rfl dX3_signsIn_61 k) ?_
  refine ev_s (fun Q k => rn_iload_n (j := 3) 0 rfl rfl dX3_signsIn_62 k) ?_
  refine ev_if (fun Q => rn_if_eq (tgt := 70) dX3_signsIn_63 (by decide)) (fun c1 => ?_) (fun c2 => ?_)
  · refine ev_s (fun Q k => rn_iconst (v := 0) (by decide) dX3_signsIn_70 k) ?_
    exact ev_ret (fun Q q => rn_ret q .int rfl rfl dX3_signsIn_71)
  · refine ev_s (fun Q k => rn_iload_n (j := 2) 1 rfl rfl dX3_signsIn_66 k) ?_
    refine ev_s (fun Q k => rn_goto (tgt := 71) dX3_signsIn_67 (by decide) k) ?_
    exact ev_ret (fun Q q => rn_ret q .int rfl rfl dX3_signsIn_71)

set_option maxRecDepth 20000 in
theorem e_X3_signsIn_56 (l : Launch) (E : eE) (d : Nat) (x1 : Int64)  (v2 : Int32) (D : dT) : ev l E (d + 1) yX3_signsIn cX3_signsIn 4 (some .int) 56 [(2, .inl v2)] [] D eI (F_X3_signsIn_56 x1 v2 D) := by
  unfold F_X3_signsIn_56
  refine ev_s (fun Q k => rn_iconst (v := 1) (by decide) dX3_signsIn_56 k) ?_
  refine ev_s (fun Q k => rn_goto (tgt := 61) dX3_signsIn_57 (by decide) k) ?_
  exact e_X3_signsIn_61 l E d x1   v2 (1 : Int32) D

set_option maxRecDepth 20000 in
theorem e_X3_signsIn_39 (l : Launch) (E : eE) (d : Nat) (x1 : Int64)  (v2 : Int32) (D : dT) : ev l E (d + 1) yX3_signsIn cX3_signsIn 4 (some .int) 39 [(0, .inr (.inl x1)), (2, .inl v2)] [] D eI (F_X3_signsIn_39 x1 v2 D) := by
  unfold F_X3_signsIn_39
  refine ev_s (fun Q k => rn_iload_n (j := 2) 1 rfl rfl dX3_signsIn_39 k) ?_
  refine ev_s (fun Q k => rn_bipush (v := 8) (by decide) dX3_signsIn_40 k) ?_
  refine ev_if (fun Q => rn_icmp_eq (tgt := 56) dX3_signsIn_42 (by decide)) (fun c3 => ?_) (fun c4 => ?_)
  · refine ev_s (fun Q k => rn_sub (ls' := [(2, .inl v2)]) [1] rfl k) ?_
    exact e_X3_signsIn_56 l E d x1   v2 D
  · refine ev_s (fun Q k => rn_lload_n (j := 0) 0 rfl rfl dX3_signsIn_45 k) ?_
    refine ev_s (fun Q k => rn_bipush (v := 8) (by decide) dX3_signsIn_46 k) ?_
    refine ev_s (fun Q k => rn_iload_n (j := 2) 1 rfl rfl dX3_signsIn_48 k) ?_
    refine ev_s (fun Q k => rn_imul dX3_signsIn_49 k) ?_
    refine ev_s (fun Q k => rn_lushr (v := (x1.toUInt64 >>> (((8 : Int32) * v2).toInt64.toUInt64 &&& Int64.toUInt64 63)).toInt64) rfl dX3_signsIn_50 k) ?_
    refine ev_s (fun Q k => rn_lconst (v := 0) (by decide) dX3_signsIn_51 k) ?_
    refine ev_s (fun Q k => rn_lcmp (v := (lg_cmp ((x1.toUInt64 >>> (((8 : Int32) * v2).toInt64.toUInt64 &&& Int64.toUInt64 63)).toInt64) (0 : Int64))) rfl dX3_signsIn_52 k) ?_
    refine ev_if (fun Q => rn_if_ne (tgt := 60) dX3_signsIn_53 (by decide)) (fun c1 => ?_) (fun c2 => ?_)
    · refine ev_s (fun Q k => rn_sub (ls' := [(2, .inl v2)]) [1] rfl k) ?_
      exact e_X3_signsIn_56 l E d x1   v2 D
    · refine ev_s (fun Q k => rn_iconst (v := 0) (by decide) dX3_signsIn_60 k) ?_
      refine ev_s (fun Q k => rn_sub (ls' := [(2, .inl v2)]) [1] rfl k) ?_
      exact e_X3_signsIn_61 l E d x1   v2 (0 : Int32) D

set_option maxRecDepth 20000 in
theorem e_X3_signsIn_2 (l : Launch) (E : eE) (d : Nat) (x1 : Int64)  (fuel : Nat) : ∀ (v2 : Int32) (D : dT), ev l E (d + 1) yX3_signsIn cX3_signsIn 4 (some .int) 2 [(0, .inr (.inl x1)), (2, .inl v2)] [] D eI (F_X3_signsIn_2 fuel x1 v2 D) := by
  induction fuel with
  | zero =>
    intro v2 D
    exact ev_none
  | succ fu ih =>
    intro v2 D
    rw [F_X3_signsIn_2]
    refine ev_s (fun Q k => rn_iload_n (j := 2) 1 rfl rfl dX3_signsIn_2 k) ?_
    refine ev_s (fun Q k => rn_bipush (v := 8) (by decide) dX3_signsIn_3 k) ?_
    refine ev_if (fun Q => rn_icmp_ge (tgt := 39) dX3_signsIn_5 (by decide)) (fun c11 => ?_) (fun c12 => ?_)
    · exact e_X3_signsIn_39 l E d x1   v2 D
    · refine ev_s (fun Q k => rn_lload_n (j := 0) 0 rfl rfl dX3_signsIn_8 k) ?_
      refine ev_s (fun Q k => rn_iload_n (j := 2) 1 rfl rfl dX3_signsIn_9 k) ?_
      refine ev_bindI (as := [.inr (.inl x1), .inl v2]) (fun Q Q1 => rn_callS (as := [.inr (.inl x1), .inl v2]) (rest := []) m_X3_26 dX3_signsIn_10 rfl rfl (Nat.le_of_ble_eq_true rfl)) pl_X3_signOf (Nat.le_of_ble_eq_true rfl) rfl (e_X3_signOf l E d x1 v2 D) (fun r1 D2 => ?_)
      refine ev_if (fun Q => rn_if_eq (tgt := 39) dX3_signsIn_13 (by decide)) (fun c9 => ?_) (fun c10 => ?_)
      · exact e_X3_signsIn_39 l E d x1   v2 D2
      · refine ev_s (fun Q k => rn_lload_n (j := 0) 0 rfl rfl dX3_signsIn_16 k) ?_
        refine ev_s (fun Q k => rn_iload_n (j := 2) 1 rfl rfl dX3_signsIn_17 k) ?_
        refine ev_bindI (as := [.inr (.inl x1), .inl v2]) (fun Q Q1 => rn_callS (as := [.inr (.inl x1), .inl v2]) (rest := []) m_X3_26 dX3_signsIn_18 rfl rfl (Nat.le_of_ble_eq_true rfl)) pl_X3_signOf (Nat.le_of_ble_eq_true rfl) rfl (e_X3_signOf l E d x1 v2 D2) (fun r3 D4 => ?_)
        refine ev_s (fun Q k => rn_bipush (v := 33) (by decide) dX3_signsIn_21 k) ?_
        refine ev_s (fun Q k => rn_bipush (v := 126) (by decide) dX3_signsIn_23 k) ?_
        refine ev_bindI (as := [.inl r3, .inl (33 : Int32), .inl (126 : Int32)]) (fun Q Q1 => rn_callSN (as := [.inl r3, .inl (33 : Int32), .inl (126 : Int32)]) (rest := []) m_X3_30 dX3_signsIn_25 rfl rfl (Nat.le_of_ble_eq_true rfl)) pl_X5_isWithin (Nat.le_of_ble_eq_true rfl) rfl (e_X5_isWithin l E d r3 (33 : Int32) (126 : Int32) D4) (fun r5 D6 => ?_)
        refine ev_if (fun Q => rn_if_ne (tgt := 33) dX3_signsIn_28 (by decide)) (fun c7 => ?_) (fun c8 => ?_)
        · refine ev_s (fun Q k => rn_iconst (v := 0) (by decide) dX3_signsIn_31 k) ?_
          exact ev_ret (fun Q q => rn_ret q .int rfl rfl dX3_signsIn_32)
        · refine ev_s (fun Q k => rn_iinc (v := (v2 + (1 : Int32))) (ls' := [(2, .inl (v2 + (1 : Int32))), (0, .inr (.inl x1))]) 1 rfl rfl (by decide) rfl dX3_signsIn_33 k) ?_
          refine ev_s (fun Q k => rn_goto (tgt := 2) dX3_signsIn_36 (by decide) k) ?_
          refine ev_s (fun Q k => rn_sub (ls' := [(0, .inr (.inl x1)), (2, .inl (v2 + (1 : Int32)))]) [1, 0] rfl k) ?_
          exact ih (v2 + (1 : Int32)) D6

set_option maxRecDepth 20000 in
theorem e_X3_signsIn (l : Launch) (E : eE) (d : Nat) (x1 : Int64) (D : dT) : ev l E (d + 1) yX3_signsIn cX3_signsIn 4 (some .int) 0 [(0, .inr (.inl x1))] [] D eI (F_X3_signsIn x1 D) := by
  unfold F_X3_signsIn
  refine ev_s (fun Q k => rn_iconst (v := 0) (by decide) dX3_signsIn_0 k) ?_
  refine ev_s (fun Q k => rn_istore_n (j := 2) (ls' := [(2, .inl (0 : Int32)), (0, .inr (.inl x1))]) rfl (by decide) rfl dX3_signsIn_1 k) ?_
  refine ev_s (fun Q k => rn_sub (ls' := [(0, .inr (.inl x1)), (2, .inl (0 : Int32))]) [1, 0] rfl k) ?_
  exact e_X3_signsIn_2 l E d x1  lim (0 : Int32) D

def F_X3_append_29 (fuel : Nat) (x1 : Int64)  (v3 : Int32) (v4 : Int32) (D : dT) : Option (Int32 × dT) := match fuel with
  | 0 => none
  | fu + 1 => if v3 ≤ v4 then some (((up2 D 311 4 ((D 311 4) + v3)) 311 4), (up2 D 311 4 ((D 311 4) + v3))) else bd (F_X3_signOf x1 ((v3 - (1 : Int32)) - v4) D) (fun (r1 : Int32) (D2 : dT) => if inR ((D 311 4) + v4) 80 then F_X3_append_29 fu x1 v3 (v4 + (1 : Int32)) (up2 D2 312 ((D 311 4) + v4).toNatClampNeg r1) else none)
def F_X3_append (x1 : Int64) (D : dT) : Option (Int32 × dT) := bd (F_X3_signsIn x1 D) (fun (r1 : Int32) (D2 : dT) => if 0 < r1 then if ((D2 311 4) + r1) ≤ (80 : Int32) then F_X3_append_29 lim x1 r1 (0 : Int32) D2 else some ((-4 : Int32), D2) else some ((-2 : Int32), D2))
set_option maxRecDepth 20000 in
theorem e_X3_append_29 (l : Launch) (E : eE) (d : Nat) (x1 : Int64)  (fuel : Nat) : ∀ (v3 : Int32) (v4 : Int32) (D : dT), ev l E (d + 2) yX3_append cX3_append 5 (some .int) 29 [(0, .inr (.inr 311)), (1, .inr (.inl x1)), (3, .inl v3), (4, .inl v4)] [] D eI (F_X3_append_29 fuel x1 v3 v4 D) := by
  induction fuel with
  | zero =>
    intro v3 v4 D
    exact ev_none
  | succ fu ih =>
    intro v3 v4 D
    rw [F_X3_append_29]
    refine ev_s (fun Q k => rn_iload (j := 4) 3 rfl dX3_append_29 k) ?_
    refine ev_s (fun Q k => rn_iload_n (j := 3) 2 rfl rfl dX3_append_31 k) ?_
    refine ev_if (fun Q => rn_icmp_ge (tgt := 63) dX3_append_32 (by decide)) (fun c4 => ?_) (fun c5 => ?_)
    · refine ev_s (fun Q k => rn_aload_n (j := 0) 0 rfl rfl (okO_0 ok_311) dX3_append_63 k) ?_
      refine ev_s (fun Q k => rn_dup rfl dX3_append_64 k) ?_
      refine ev_s (fun Q k => rn_geti f_X3_22 ok_311.1 ok_311.2.1 (okO_1 ok_311) rfl dX3_append_65 k) ?_
      refine ev_s (fun Q k => rn_iload_n (j := 3) 2 rfl rfl dX3_append_68 k) ?_
      refine ev_s (fun Q k => rn_iadd dX3_append_69 k) ?_
      refine ev_s (fun Q k => rn_puti f_X3_22 ok_311.1 ok_311.2.1 (okO_1 ok_311) rfl rfl rfl rfl dX3_append_70 k) ?_
      refine ev_s (fun Q k => rn_aload_n (j := 0) 0 rfl rfl (okO_0 ok_311) dX3_append_73 k) ?_
      refine ev_s (fun Q k => rn_geti f_X3_22 ok_311.1 ok_311.2.1 (okO_1 ok_311) rfl dX3_append_74 k) ?_
      exact ev_ret (fun Q q => rn_ret q .int rfl rfl dX3_append_77)
    · refine ev_s (fun Q k => rn_aload_n (j := 0) 0 rfl rfl (okO_0 ok_311) dX3_append_35 k) ?_
      refine ev_s (fun Q k => rn_getr (q := 312) f_X3_9 ok_311.1 ok_311.2.1 (okO_1 ok_311) rfl rfl dX3_append_36 k) ?_
      refine ev_s (fun Q k => rn_aload_n (j := 0) 0 rfl rfl (okO_0 ok_311) dX3_append_39 k) ?_
      refine ev_s (fun Q k => rn_geti f_X3_22 ok_311.1 ok_311.2.1 (okO_1 ok_311) rfl dX3_append_40 k) ?_
      refine ev_s (fun Q k => rn_iload (j := 4) 3 rfl dX3_append_43 k) ?_
      refine ev_s (fun Q k => rn_iadd dX3_append_45 k) ?_
      refine ev_s (fun Q k => rn_lload_n (j := 1) 1 rfl rfl dX3_append_46 k) ?_
      refine ev_s (fun Q k => rn_iload_n (j := 3) 2 rfl rfl dX3_append_47 k) ?_
      refine ev_s (fun Q k => rn_iconst (v := 1) (by decide) dX3_append_48 k) ?_
      refine ev_s (fun Q k => rn_isub dX3_append_49 k) ?_
      refine ev_s (fun Q k => rn_iload (j := 4) 3 rfl dX3_append_50 k) ?_
      refine ev_s (fun Q k => rn_isub dX3_append_52 k) ?_
      refine ev_bindI (as := [.inr (.inl x1), .inl ((v3 - (1 : Int32)) - v4)]) (fun Q Q1 => rn_callS (as := [.inr (.inl x1), .inl ((v3 - (1 : Int32)) - v4)]) (rest := [.inl ((D 311 4) + v4), .inr (.inr 312)]) m_X3_26 dX3_append_53 rfl rfl (Nat.le_of_ble_eq_true rfl)) pl_X3_signOf (Nat.le_of_ble_eq_true rfl) rfl (e_X3_signOf l E (d + 1) x1 ((v3 - (1 : Int32)) - v4) D) (fun r1 D2 => ?_)
      refine ev_gd (fun g3 => ?_)
      refine ev_s (fun Q k => rn_iast ok_312.1 ok_312.2.1 ok_312.2.2 (inR_vp g3) dX3_append_56 k) ?_
      refine ev_s (fun Q k => rn_iinc (v := (v4 + (1 : Int32))) (ls' := [(4, .inl (v4 + (1 : Int32))), (0, .inr (.inr 311)), (1, .inr (.inl x1)), (3, .inl v3)]) 3 rfl rfl (by decide) rfl dX3_append_57 k) ?_
      refine ev_s (fun Q k => rn_goto (tgt := 29) dX3_append_60 (by decide) k) ?_
      refine ev_s (fun Q k => rn_sub (ls' := [(0, .inr (.inr 311)), (1, .inr (.inl x1)), (3, .inl v3), (4, .inl (v4 + (1 : Int32)))]) [1, 2, 3, 0] rfl k) ?_
      exact ih v3 (v4 + (1 : Int32)) (up2 D2 312 ((D 311 4) + v4).toNatClampNeg r1)

set_option maxRecDepth 20000 in
theorem e_X3_append (l : Launch) (E : eE) (d : Nat) (x1 : Int64) (D : dT) : ev l E (d + 2) yX3_append cX3_append 5 (some .int) 0 [(0, .inr (.inr 311)), (1, .inr (.inl x1))] [] D eI (F_X3_append x1 D) := by
  unfold F_X3_append
  refine ev_s (fun Q k => rn_lload_n (j := 1) 1 rfl rfl dX3_append_0 k) ?_
  refine ev_bindI (as := [.inr (.inl x1)]) (fun Q Q1 => rn_callS (as := [.inr (.inl x1)]) (rest := []) m_X3_18 dX3_append_1 rfl rfl (Nat.le_of_ble_eq_true rfl)) pl_X3_signsIn (Nat.le_of_ble_eq_true rfl) rfl (e_X3_signsIn l E d x1 D) (fun r1 D2 => ?_)
  refine ev_s (fun Q k => rn_istore_n (j := 3) (ls' := [(3, .inl r1), (0, .inr (.inr 311)), (1, .inr (.inl x1))]) rfl (by decide) rfl dX3_append_4 k) ?_
  refine ev_s (fun Q k => rn_iload_n (j := 3) 0 rfl rfl dX3_append_5 k) ?_
  refine ev_if (fun Q => rn_if_gt (tgt := 12) dX3_append_6 (by decide)) (fun c5 => ?_) (fun c6 => ?_)
  · refine ev_s (fun Q k => rn_aload_n (j := 0) 1 rfl rfl (okO_0 ok_311) dX3_append_12 k) ?_
    refine ev_s (fun Q k => rn_geti f_X3_22 ok_311.1 ok_311.2.1 (okO_1 ok_311) rfl dX3_append_13 k) ?_
    refine ev_s (fun Q k => rn_iload_n (j := 3) 0 rfl rfl dX3_append_16 k) ?_
    refine ev_s (fun Q k => rn_iadd dX3_append_17 k) ?_
    refine ev_s (fun Q k => rn_bipush (v := 80) (by decide) dX3_append_18 k) ?_
    refine ev_if (fun Q => rn_icmp_le (tgt := 26) dX3_append_20 (by decide)) (fun c3 => ?_) (fun c4 => ?_)
    · refine ev_s (fun Q k => rn_iconst (v := 0) (by decide) dX3_append_26 k) ?_
      refine ev_s (fun Q k => rn_istore (j := 4) (ls' := [(4, .inl (0 : Int32)), (3, .inl r1), (0, .inr (.inr 311)), (1, .inr (.inl x1))]) (by decide) rfl dX3_append_27 k) ?_
      refine ev_s (fun Q k => rn_sub (ls' := [(0, .inr (.inr 311)), (1, .inr (.inl x1)), (3, .inl r1), (4, .inl (0 : Int32))]) [2, 3, 1, 0] rfl k) ?_
      exact e_X3_append_29 l E d x1  lim r1 (0 : Int32) D2
    · refine ev_s (fun Q k => rn_bipush (v := -4) (by decide) dX3_append_23 k) ?_
      exact ev_ret (fun Q q => rn_ret q .int rfl rfl dX3_append_25)
  · refine ev_s (fun Q k => rn_bipush (v := -2) (by decide) dX3_append_9 k) ?_
    exact ev_ret (fun Q q => rn_ret q .int rfl rfl dX3_append_11)

def F_X5_put (x1 : Int64) (D : dT) : Option (Int32 × dT) := bd (F_X3_append x1 D) (fun (r1 : Int32) (D2 : dT) => some (r1, D2))
set_option maxRecDepth 20000 in
theorem e_X5_put (l : Launch) (E : eE) (d : Nat) (x1 : Int64) (D : dT) : ev l E (d + 3) yX5_put cX5_put 3 (some .int) 0 [(0, .inr (.inr 18)), (1, .inr (.inl x1))] [] D eI (F_X5_put x1 D) := by
  unfold F_X5_put
  refine ev_s (fun Q k => rn_aload_n (j := 0) 0 rfl rfl (okO_0 ok_18) dX5_put_0 k) ?_
  refine ev_s (fun Q k => rn_getr (q := 311) f_X5_37 ok_18.1 ok_18.2.1 (okO_1 ok_18) rfl rfl dX5_put_1 k) ?_
  refine ev_s (fun Q k => rn_lload_n (j := 1) 1 rfl rfl dX5_put_4 k) ?_
  refine ev_bindI (as := [.inr (.inr 311), .inr (.inl x1)]) (fun Q Q1 => rn_callV (as := [.inr (.inl x1)]) (rest := []) (o := 311) m_X5_155 dX5_put_5 (rcv_own ok_311.1 ok_311.2.1 (by decide) (okO_1 ok_311)) rfl rfl (Nat.le_of_ble_eq_true rfl)) pl_X3_append (Nat.le_of_ble_eq_true rfl) rfl (e_X3_append l E d x1 D) (fun r1 D2 => ?_)
  exact ev_ret (fun Q q => rn_ret q .int rfl rfl dX5_put_8)

def F_X3_empty  (D : dT) : Option (Int32 × dT) := some ((D 311 4), (up2 D 311 4 (0 : Int32)))
set_option maxRecDepth 20000 in
theorem e_X3_empty (l : Launch) (E : eE) (d : Nat)  (D : dT) : ev l E d yX3_empty cX3_empty 2 (some .int) 0 [(0, .inr (.inr 311))] [] D eI (F_X3_empty D) := by
  unfold F_X3_empty
  refine ev_s (fun Q k => rn_aload_n (j := 0) 0 rfl rfl (okO_0 ok_311) dX3_empty_0 k) ?_
  refine ev_s (fun Q k => rn_geti f_X3_22 ok_311.1 ok_311.2.1 (okO_1 ok_311) rfl dX3_empty_1 k) ?_
  refine ev_s (fun Q k => rn_istore_n (j := 1) (ls' := [(1, .inl (D 311 4)), (0, .inr (.inr 311))]) rfl (by decide) rfl dX3_empty_4 k) ?_
  refine ev_s (fun Q k => rn_aload_n (j := 0) 1 rfl rfl (okO_0 ok_311) dX3_empty_5 k) ?_
  refine ev_s (fun Q k => rn_iconst (v := 0) (by decide) dX3_empty_6 k) ?_
  refine ev_s (fun Q k => rn_puti f_X3_22 ok_311.1 ok_311.2.1 (okO_1 ok_311) rfl rfl rfl rfl dX3_empty_7 k) ?_
  refine ev_s (fun Q k => rn_iload_n (j := 1) 0 rfl rfl dX3_empty_10 k) ?_
  exact ev_ret (fun Q q => rn_ret q .int rfl rfl dX3_empty_11)

def F_X5_wipe  (D : dT) : Option (Int32 × dT) := bd (F_X3_empty  D) (fun (r1 : Int32) (D2 : dT) => some (r1, D2))
set_option maxRecDepth 20000 in
theorem e_X5_wipe (l : Launch) (E : eE) (d : Nat)  (D : dT) : ev l E (d + 1) yX5_wipe cX5_wipe 1 (some .int) 0 [(0, .inr (.inr 18))] [] D eI (F_X5_wipe D) := by
  unfold F_X5_wipe
  refine ev_s (fun Q k => rn_aload_n (j := 0) 0 rfl rfl (okO_0 ok_18) dX5_wipe_0 k) ?_
  refine ev_s (fun Q k => rn_getr (q := 311) f_X5_37 ok_18.1 ok_18.2.1 (okO_1 ok_18) rfl rfl dX5_wipe_1 k) ?_
  refine ev_bindI (as := [.inr (.inr 311)]) (fun Q Q1 => rn_callV (as := []) (rest := []) (o := 311) m_X5_159 dX5_wipe_4 (rcv_own ok_311.1 ok_311.2.1 (by decide) (okO_1 ok_311)) rfl rfl (Nat.le_of_ble_eq_true rfl)) pl_X3_empty (Nat.le_of_ble_eq_true rfl) rfl (e_X3_empty l E d  D) (fun r1 D2 => ?_)
  exact ev_ret (fun Q q => rn_ret q .int rfl rfl dX5_wipe_7)

def F_X3_startReading  (D : dT) : Option (Int32 × dT) := some ((0 : Int32), (up2 D 311 3 (0 : Int32)))
set_option maxRecDepth 20000 in
theorem e_X3_startReading (l : Launch) (E : eE) (d : Nat)  (D : dT) : ev l E d yX3_startReading cX3_startReading 1 none 0 [(0, .inr (.inr 311))] [] D eU (F_X3_startReading D) := by
  unfold F_X3_startReading
  refine ev_s (fun Q k => rn_aload_n (j := 0) 0 rfl rfl (okO_0 ok_311) dX3_startReading_0 k) ?_
  refine ev_s (fun Q k => rn_iconst (v := 0) (by decide) dX3_startReading_1 k) ?_
  refine ev_s (fun Q k => rn_puti f_X3_34 ok_311.1 ok_311.2.1 (okO_1 ok_311) rfl rfl rfl rfl dX3_startReading_2 k) ?_
  exact ev_ret (fun Q q => rn_retv q rfl dX3_startReading_5)

def F_X3_signHere  (D : dT) : Option (Int32 × dT) := if (D 311 3) < 0 then some ((0 : Int32), D) else if (D 311 4) ≤ (D 311 3) then some ((0 : Int32), D) else if inR (D 311 3) 80 then some ((D 312 (D 311 3).toNatClampNeg), D) else none
set_option maxRecDepth 20000 in
theorem e_X3_signHere (l : Launch) (E : eE) (d : Nat)  (D : dT) : ev l E d yX3_signHere cX3_signHere 1 (some .int) 0 [(0, .inr (.inr 311))] [] D eI (F_X3_signHere D) := by
  unfold F_X3_signHere
  refine ev_s (fun Q k => rn_aload_n (j := 0) 0 rfl rfl (okO_0 ok_311) dX3_signHere_0 k) ?_
  refine ev_s (fun Q k => rn_geti f_X3_34 ok_311.1 ok_311.2.1 (okO_1 ok_311) rfl dX3_signHere_1 k) ?_
  refine ev_if (fun Q => rn_if_lt (tgt := 30) dX3_signHere_4 (by decide)) (fun c4 => ?_) (fun c5 => ?_)
  · refine ev_s (fun Q k => rn_iconst (v := 0) (by decide) dX3_signHere_30 k) ?_
    exact ev_ret (fun Q q => rn_ret q .int rfl rfl dX3_signHere_31)
  · refine ev_s (fun Q k => rn_aload_n (j := 0) 0 rfl rfl (okO_0 ok_311) dX3_signHere_7 k) ?_
    refine ev_s (fun Q k => rn_geti f_X3_34 ok_311.1 ok_311.2.1 (okO_1 ok_311) rfl dX3_signHere_8 k) ?_
    refine ev_s (fun Q k => rn_aload_n (j := 0) 0 rfl rfl (okO_0 ok_311) dX3_signHere_11 k) ?_
    refine ev_s (fun Q k => rn_geti f_X3_22 ok_311.1 ok_311.2.1 (okO_1 ok_311) rfl dX3_signHere_12 k) ?_
    refine ev_if (fun Q => rn_icmp_ge (tgt := 30) dX3_signHere_15 (by decide)) (fun c2 => ?_) (fun c3 => ?_)
    · refine ev_s (fun Q k => rn_iconst (v := 0) (by decide) dX3_signHere_30 k) ?_
      exact ev_ret (fun Q q => rn_ret q .int rfl rfl dX3_signHere_31)
    · refine ev_s (fun Q k => rn_aload_n (j := 0) 0 rfl rfl (okO_0 ok_311) dX3_signHere_18 k) ?_
      refine ev_s (fun Q k => rn_getr (q := 312) f_X3_9 ok_311.1 ok_311.2.1 (okO_1 ok_311) rfl rfl dX3_signHere_19 k) ?_
      refine ev_s (fun Q k => rn_aload_n (j := 0) 0 rfl rfl (okO_0 ok_311) dX3_signHere_22 k) ?_
      refine ev_s (fun Q k => rn_geti f_X3_34 ok_311.1 ok_311.2.1 (okO_1 ok_311) rfl dX3_signHere_23 k) ?_
      refine ev_gd (fun g1 => ?_)
      refine ev_s (fun Q k => rn_iald ok_312.1 ok_312.2.1 ok_312.2.2 (inR_vp g1) dX3_signHere_26 k) ?_
      refine ev_s (fun Q k => rn_goto (tgt := 31) dX3_signHere_27 (by decide) k) ?_
      exact ev_ret (fun Q q => rn_ret q .int rfl rfl dX3_signHere_31)

def F_J0_isLatin1_aae02 (kS : Nat) (D : dT) : Option (Int32 × dT) := if (1 : Int32) = 0 then some ((0 : Int32), D) else if (0 : Int32) = 0 then some ((1 : Int32), D) else some ((0 : Int32), D)
set_option maxRecDepth 20000 in
theorem e_J0_isLatin1_aae02 (l : Launch) (E : eE) (d : Nat) (kS : Nat) (hkS : 4 ≤ kS ∧ kS < 10) (D : dT) : ev l E d yJ0_isLatin1_aae02 cJ0_isLatin1_aae02 1 (some .boolean) 0 [(0, .inr (.inr kS))] [] D eI (F_J0_isLatin1_aae02 kS D) := by
  unfold F_J0_isLatin1_aae02
  refine ev_s (fun Q k => rn_getsC g_J0_38 dJ0_isLatin1_aae02_0 k) ?_
  refine ev_if (fun Q => rn_if_eq (tgt := 17) dJ0_isLatin1_aae02_3 (by decide)) (fun c3 => ?_) (fun c4 => ?_)
  · refine ev_s (fun Q k => rn_iconst (v := 0) (by decide) dJ0_isLatin1_aae02_17 k) ?_
    exact ev_ret (fun Q q => rn_ret q .boolean rfl rfl dJ0_isLatin1_aae02_18)
  · refine ev_s (fun Q k => rn_aload_n (j := 0) 0 rfl rfl (str_0 hkS.1) dJ0_isLatin1_aae02_6 k) ?_
    refine ev_s (fun Q k => rn_strC hkS.1 hkS.2 g_J0_15 dJ0_isLatin1_aae02_7 k) ?_
    refine ev_if (fun Q => rn_if_ne (tgt := 17) dJ0_isLatin1_aae02_10 (by decide)) (fun c1 => ?_) (fun c2 => ?_)
    · refine ev_s (fun Q k => rn_iconst (v := 1) (by decide) dJ0_isLatin1_aae02_13 k) ?_
      refine ev_s (fun Q k => rn_goto (tgt := 18) dJ0_isLatin1_aae02_14 (by decide) k) ?_
      exact ev_ret (fun Q q => rn_ret q .boolean rfl rfl dJ0_isLatin1_aae02_18)
    · refine ev_s (fun Q k => rn_iconst (v := 0) (by decide) dJ0_isLatin1_aae02_17 k) ?_
      exact ev_ret (fun Q q => rn_ret q .boolean rfl rfl dJ0_isLatin1_aae02_18)

def F_J0_coder_7d493 (kS : Nat) (D : dT) : Option (Int32 × dT) := if (1 : Int32) = 0 then if (1 : Int32).toInt8.toInt32 = (1 : Int32) then some ((1 : Int32), D) else none else if (0 : Int32).toInt8.toInt32 = (0 : Int32) then some ((0 : Int32), D) else none
set_option maxRecDepth 20000 in
theorem e_J0_coder_7d493 (l : Launch) (E : eE) (d : Nat) (kS : Nat) (hkS : 4 ≤ kS ∧ kS < 10) (D : dT) : ev l E d yJ0_coder_7d493 cJ0_coder_7d493 1 (some .byte) 0 [(0, .inr (.inr kS))] [] D eI (F_J0_coder_7d493 kS D) := by
  unfold F_J0_coder_7d493
  refine ev_s (fun Q k => rn_getsC g_J0_38 dJ0_coder_7d493_0 k) ?_
  refine ev_if (fun Q => rn_if_eq (tgt := 13) dJ0_coder_7d493_3 (by decide)) (fun c3 => ?_) (fun c4 => ?_)
  · refine ev_s (fun Q k => rn_iconst (v := 1) (by decide) dJ0_coder_7d493_13 k) ?_
    refine ev_gd (fun g1 => ?_)
    exact ev_ret (fun Q q => rn_ret q .byte rfl (nz_y g1) dJ0_coder_7d493_14)
  · refine ev_s (fun Q k => rn_aload_n (j := 0) 0 rfl rfl (str_0 hkS.1) dJ0_coder_7d493_6 k) ?_
    refine ev_s (fun Q k => rn_strC hkS.1 hkS.2 g_J0_15 dJ0_coder_7d493_7 k) ?_
    refine ev_s (fun Q k => rn_goto (tgt := 14) dJ0_coder_7d493_10 (by decide) k) ?_
    refine ev_gd (fun g2 => ?_)
    exact ev_ret (fun Q q => rn_ret q .byte rfl (nz_y g2) dJ0_coder_7d493_14)

def F_J0_length_8abf5 (kS : Nat) (D : dT) : Option (Int32 × dT) := bd (F_J0_coder_7d493 kS D) (fun (r1 : Int32) (D2 : dT) => some (((Int32.ofNat (tLen.getD (kS - 4) 0)) >>> (r1 &&& 31)), D2))
set_option maxRecDepth 20000 in
theorem e_J0_length_8abf5 (l : Launch) (E : eE) (d : Nat) (kS : Nat) (hkS : 4 ≤ kS ∧ kS < 10) (D : dT) : ev l E (d + 1) yJ0_length_8abf5 cJ0_length_8abf5 1 (some .int) 0 [(0, .inr (.inr kS))] [] D eI (F_J0_length_8abf5 kS D) := by
  unfold F_J0_length_8abf5
  refine ev_s (fun Q k => rn_aload_n (j := 0) 0 rfl rfl (str_0 hkS.1) dJ0_length_8abf5_0 k) ?_
  refine ev_s (fun Q k => rn_strV hkS.1 hkS.2 g_J0_9 dJ0_length_8abf5_1 k) ?_
  refine ev_s (fun Q k => rn_sblen (v := (Int32.ofNat (tLen.getD (kS - 4) 0))) (sb_1 hkS) (sb_2 hkS) (sb_4 _) dJ0_length_8abf5_4 k) ?_
  refine ev_s (fun Q k => rn_aload_n (j := 0) 0 rfl rfl (str_0 hkS.1) dJ0_length_8abf5_5 k) ?_
  refine ev_bindI (as := [.inr (.inr kS)]) (fun Q Q1 => rn_callV (as := []) (rest := [.inl (Int32.ofNat (tLen.getD (kS - 4) 0))]) (o := kS) m_J0_335 dJ0_length_8abf5_6 (rcv_str hkS.1 hkS.2) rfl rfl (Nat.le_of_ble_eq_true rfl)) pl_J0_coder_7d493 (Nat.le_of_ble_eq_true rfl) rfl (e_J0_coder_7d493 l E d kS hkS D) (fun r1 D2 => ?_)
  refine ev_s (fun Q k => rn_ishr dJ0_length_8abf5_9 k) ?_
  exact ev_ret (fun Q q => rn_ret q .int rfl rfl dJ0_length_8abf5_10)

def F_J1_canEncode_9a6ad (x1 : Int32) (D : dT) : Option (Int32 × dT) := if x1 < 0 then some ((0 : Int32), D) else if (255 : Int32) < x1 then some ((0 : Int32), D) else some ((1 : Int32), D)
set_option maxRecDepth 20000 in
theorem e_J1_canEncode_9a6ad (l : Launch) (E : eE) (d : Nat) (x1 : Int32) (D : dT) : ev l E d yJ1_canEncode_9a6ad cJ1_canEncode_9a6ad 1 (some .boolean) 0 [(0, .inl x1)] [] D eI (F_J1_canEncode_9a6ad x1 D) := by
  unfold F_J1_canEncode_9a6ad
  refine ev_s (fun Q k => rn_iload_n (j := 0) 0 rfl rfl dJ1_canEncode_9a6ad_0 k) ?_
  refine ev_if (fun Q => rn_if_lt (tgt := 15) dJ1_canEncode_9a6ad_1 (by decide)) (fun c3 => ?_) (fun c4 => ?_)
  · refine ev_s (fun Q k => rn_iconst (v := 0) (by decide) dJ1_canEncode_9a6ad_15 k) ?_
    exact ev_ret (fun Q q => rn_ret q .boolean rfl rfl dJ1_canEncode_9a6ad_16)
  · refine ev_s (fun Q k => rn_iload_n (j := 0) 0 rfl rfl dJ1_canEncode_9a6ad_4 k) ?_
    refine ev_s (fun Q k => rn_sipush (v := 255) (by decide) dJ1_canEncode_9a6ad_5 k) ?_
    refine ev_if (fun Q => rn_icmp_gt (tgt := 15) dJ1_canEncode_9a6ad_8 (by decide)) (fun c1 => ?_) (fun c2 => ?_)
    · refine ev_s (fun Q k => rn_iconst (v := 0) (by decide) dJ1_canEncode_9a6ad_15 k) ?_
      exact ev_ret (fun Q q => rn_ret q .boolean rfl rfl dJ1_canEncode_9a6ad_16)
    · refine ev_s (fun Q k => rn_iconst (v := 1) (by decide) dJ1_canEncode_9a6ad_11 k) ?_
      refine ev_s (fun Q k => rn_goto (tgt := 16) dJ1_canEncode_9a6ad_12 (by decide) k) ?_
      exact ev_ret (fun Q q => rn_ret q .boolean rfl rfl dJ1_canEncode_9a6ad_16)

def F_J1_indexOfChar_4cfef_7 (fuel : Nat) (b1 : Nat) (x2 : Int32) (x3 : Int32) (x4 : Int32)  (v4 : Int32) (v5 : Int32) (D : dT) : Option (Int32 × dT) := match fuel with
  | 0 => none
  | fu + 1 => if x4 ≤ v5 then some ((-1 : Int32), D) else if inR v5 (tLen.getD (b1 - 4) 0) then if ((tByt.getD (b1 + 6 - 10) []).getD v5.toNatClampNeg 0) = v4 then some (v5, D) else F_J1_indexOfChar_4cfef_7 fu b1 x2 x3 x4 v4 (v5 + (1 : Int32)) D else none
def F_J1_indexOfChar_4cfef (b1 : Nat) (x2 : Int32) (x3 : Int32) (x4 : Int32) (D : dT) : Option (Int32 × dT) := F_J1_indexOfChar_4cfef_7 lim b1 x2 x3 x4 (x2.toInt8.toInt32) x3 D
set_option maxRecDepth 20000 in
theorem e_J1_indexOfChar_4cfef_7 (l : Launch) (E : eE) (d : Nat) (b1 : Nat) (hb1 : 4 ≤ b1 ∧ b1 < 10) (x2 : Int32) (x3 : Int32) (x4 : Int32)  (fuel : Nat) : ∀ (v4 : Int32) (v5 : Int32) (D : dT), ev l E d yJ1_indexOfChar_4cfef cJ1_indexOfChar_4cfef 6 (some .int) 7 [(0, .inr (.inr (b1 + 6))), (3, .inl x4), (4, .inl v4), (5, .inl v5)] [] D eI (F_J1_indexOfChar_4cfef_7 fuel b1 x2 x3 x4 v4 v5 D) := by
  induction fuel with
  | zero =>
    intro v4 v5 D
    exact ev_none
  | succ fu ih =>
    intro v4 v5 D
    rw [F_J1_indexOfChar_4cfef_7]
    refine ev_s (fun Q k => rn_iload (j := 5) 3 rfl dJ1_indexOfChar_4cfef_7 k) ?_
    refine ev_s (fun Q k => rn_iload_n (j := 3) 1 rfl rfl dJ1_indexOfChar_4cfef_9 k) ?_
    refine ev_if (fun Q => rn_icmp_ge (tgt := 31) dJ1_indexOfChar_4cfef_10 (by decide)) (fun c4 => ?_) (fun c5 => ?_)
    · refine ev_s (fun Q k => rn_iconst (v := -1) (by decide) dJ1_indexOfChar_4cfef_31 k) ?_
      exact ev_ret (fun Q q => rn_ret q .int rfl rfl dJ1_indexOfChar_4cfef_32)
    · refine ev_s (fun Q k => rn_aload_n (j := 0) 0 rfl rfl (Nat.succ_ne_zero _) dJ1_indexOfChar_4cfef_13 k) ?_
      refine ev_s (fun Q k => rn_iload (j := 5) 3 rfl dJ1_indexOfChar_4cfef_14 k) ?_
      refine ev_gd (fun g1 => ?_)
      refine ev_s (fun Q k => rn_sbald (sb_1 hb1) (sb_2 hb1) (inR_vp (sb_3 g1)) dJ1_indexOfChar_4cfef_16 k) ?_
      refine ev_s (fun Q k => rn_iload (j := 4) 2 rfl dJ1_indexOfChar_4cfef_17 k) ?_
      refine ev_if (fun Q => rn_icmp_ne (tgt := 25) dJ1_indexOfChar_4cfef_19 (by decide)) (fun c2 => ?_) (fun c3 => ?_)
      · refine ev_s (fun Q k => rn_iload (j := 5) 3 rfl dJ1_indexOfChar_4cfef_22 k) ?_
        exact ev_ret (fun Q q => rn_ret q .int rfl rfl dJ1_indexOfChar_4cfef_24)
      · refine ev_s (fun Q k => rn_iinc (v := (v5 + (1 : Int32))) (ls' := [(5, .inl (v5 + (1 : Int32))), (0, .inr (.inr (b1 + 6))), (3, .inl x4), (4, .inl v4)]) 3 rfl rfl (by decide) rfl dJ1_indexOfChar_4cfef_25 k) ?_
        refine ev_s (fun Q k => rn_goto (tgt := 7) dJ1_indexOfChar_4cfef_28 (by decide) k) ?_
        refine ev_s (fun Q k => rn_sub (ls' := [(0, .inr (.inr (b1 + 6))), (3, .inl x4), (4, .inl v4), (5, .inl (v5 + (1 : Int32)))]) [1, 2, 3, 0] rfl k) ?_
        exact ih v4 (v5 + (1 : Int32)) D

set_option maxRecDepth 20000 in
theorem e_J1_indexOfChar_4cfef (l : Launch) (E : eE) (d : Nat) (b1 : Nat) (hb1 : 4 ≤ b1 ∧ b1 < 10) (x2 : Int32) (x3 : Int32) (x4 : Int32) (D : dT) : ev l E d yJ1_indexOfChar_4cfef cJ1_indexOfChar_4cfef 6 (some .int) 0 [(0, .inr (.inr (b1 + 6))), (1, .inl x2), (2, .inl x3), (3, .inl x4)] [] D eI (F_J1_indexOfChar_4cfef b1 x2 x3 x4 D) := by
  unfold F_J1_indexOfChar_4cfef
  refine ev_s (fun Q k => rn_iload_n (j := 1) 1 rfl rfl dJ1_indexOfChar_4cfef_0 k) ?_
  refine ev_s (fun Q k => rn_i2b (v := x2.toInt8.toInt32) rfl dJ1_indexOfChar_4cfef_1 k) ?_
  refine ev_s (fun Q k => rn_istore (j := 4) (ls' := [(4, .inl (x2.toInt8.toInt32)), (0, .inr (.inr (b1 + 6))), (1, .inl x2), (2, .inl x3), (3, .inl x4)]) (by decide) rfl dJ1_indexOfChar_4cfef_2 k) ?_
  refine ev_s (fun Q k => rn_iload_n (j := 2) 3 rfl rfl dJ1_indexOfChar_4cfef_4 k) ?_
  refine ev_s (fun Q k => rn_istore (j := 5) (ls' := [(5, .inl x3), (4, .inl (x2.toInt8.toInt32)), (0, .inr (.inr (b1 + 6))), (1, .inl x2), (2, .inl x3), (3, .inl x4)]) (by decide) rfl dJ1_indexOfChar_4cfef_5 k) ?_
  refine ev_s (fun Q k => rn_sub (ls' := [(0, .inr (.inr (b1 + 6))), (3, .inl x4), (4, .inl (x2.toInt8.toInt32)), (5, .inl x3)]) [2, 5, 1, 0] rfl k) ?_
  exact e_J1_indexOfChar_4cfef_7 l E d b1 hb1 x2 x3 x4  lim (x2.toInt8.toInt32) x3 D

def F_J1_indexOf_4cfef (b1 : Nat) (x2 : Int32) (x3 : Int32) (x4 : Int32) (D : dT) : Option (Int32 × dT) := bd (F_J1_canEncode_9a6ad x2 D) (fun (r1 : Int32) (D2 : dT) => if r1 = 0 then some ((-1 : Int32), D2) else if (if x3 < (0 : Int32) then (0 : Int32) else x3) < (if (Int32.ofNat (tLen.getD (b1 - 4) 0)) < x4 then (Int32.ofNat (tLen.getD (b1 - 4) 0)) else x4) then bd (F_J1_indexOfChar_4cfef b1 x2 (if x3 < (0 : Int32) then (0 : Int32) else x3) (if (Int32.ofNat (tLen.getD (b1 - 4) 0)) < x4 then (Int32.ofNat (tLen.getD (b1 - 4) 0)) else x4) D2) (fun (r3 : Int32) (D4 : dT) => some (r3, D4)) else some ((-1 : Int32), D2))
set_option maxRecDepth 20000 in
theorem e_J1_indexOf_4cfef (l : Launch) (E : eE) (d : Nat) (b1 : Nat) (hb1 : 4 ≤ b1 ∧ b1 < 10) (x2 : Int32) (x3 : Int32) (x4 : Int32) (D : dT) : ev l E (d + 1) yJ1_indexOf_4cfef cJ1_indexOf_4cfef 4 (some .int) 0 [(0, .inr (.inr (b1 + 6))), (1, .inl x2), (2, .inl x3), (3, .inl x4)] [] D eI (F_J1_indexOf_4cfef b1 x2 x3 x4 D) := by
  unfold F_J1_indexOf_4cfef
  refine ev_s (fun Q k => rn_iload_n (j := 1) 1 rfl rfl dJ1_indexOf_4cfef_0 k) ?_
  refine ev_bindI (as := [.inl x2]) (fun Q Q1 => rn_callS (as := [.inl x2]) (rest := []) m_J1_88 dJ1_indexOf_4cfef_1 rfl rfl (Nat.le_of_ble_eq_true rfl)) pl_J1_canEncode_9a6ad (Nat.le_of_ble_eq_true rfl) rfl (e_J1_canEncode_9a6ad l E d x2 D) (fun r1 D2 => ?_)
  refine ev_if (fun Q => rn_if_ne (tgt := 9) dJ1_indexOf_4cfef_4 (by decide)) (fun c7 => ?_) (fun c8 => ?_)
  · refine ev_s (fun Q k => rn_iconst (v := -1) (by decide) dJ1_indexOf_4cfef_7 k) ?_
    exact ev_ret (fun Q q => rn_ret q .int rfl rfl dJ1_indexOf_4cfef_8)
  · refine ev_s (fun Q k => rn_iload_n (j := 2) 2 rfl rfl dJ1_indexOf_4cfef_9 k) ?_
    refine ev_s (fun Q k => rn_iconst (v := 0) (by decide) dJ1_indexOf_4cfef_10 k) ?_
    refine ev_s (fun Q k => rn_mmax mth_J1_92 (Nat.le_of_ble_eq_true rfl) dJ1_indexOf_4cfef_11 k) ?_
    refine ev_s (fun Q k => rn_istore_n (j := 2) (ls' := [(2, .inl (if x3 < (0 : Int32) then (0 : Int32) else x3)), (0, .inr (.inr (b1 + 6))), (1, .inl x2), (3, .inl x4)]) rfl (by decide) rfl dJ1_indexOf_4cfef_14 k) ?_
    refine ev_s (fun Q k => rn_iload_n (j := 3) 3 rfl rfl dJ1_indexOf_4cfef_15 k) ?_
    refine ev_s (fun Q k => rn_aload_n (j := 0) 1 rfl rfl (Nat.succ_ne_zero _) dJ1_indexOf_4cfef_16 k) ?_
    refine ev_s (fun Q k => rn_sblen (v := (Int32.ofNat (tLen.getD (b1 - 4) 0))) (sb_1 hb1) (sb_2 hb1) (sb_4 _) dJ1_indexOf_4cfef_17 k) ?_
    refine ev_s (fun Q k => rn_mmin mth_J1_38 (Nat.le_of_ble_eq_true rfl) dJ1_indexOf_4cfef_18 k) ?_
    refine ev_s (fun Q k => rn_istore_n (j := 3) (ls' := [(3, .inl (if (Int32.ofNat (tLen.getD (b1 - 4) 0)) < x4 then (Int32.ofNat (tLen.getD (b1 - 4) 0)) else x4)), (2, .inl (if x3 < (0 : Int32) then (0 : Int32) else x3)), (0, .inr (.inr (b1 + 6))), (1, .inl x2)]) rfl (by decide) rfl dJ1_indexOf_4cfef_21 k) ?_
    refine ev_s (fun Q k => rn_iload_n (j := 2) 1 rfl rfl dJ1_indexOf_4cfef_22 k) ?_
    refine ev_s (fun Q k => rn_iload_n (j := 3) 0 rfl rfl dJ1_indexOf_4cfef_23 k) ?_
    refine ev_if (fun Q => rn_icmp_lt (tgt := 29) dJ1_indexOf_4cfef_24 (by decide)) (fun c5 => ?_) (fun c6 => ?_)
    · refine ev_s (fun Q k => rn_aload_n (j := 0) 2 rfl rfl (Nat.succ_ne_zero _) dJ1_indexOf_4cfef_29 k) ?_
      refine ev_s (fun Q k => rn_iload_n (j := 1) 3 rfl rfl dJ1_indexOf_4cfef_30 k) ?_
      refine ev_s (fun Q k => rn_iload_n (j := 2) 1 rfl rfl dJ1_indexOf_4cfef_31 k) ?_
      refine ev_s (fun Q k => rn_iload_n (j := 3) 0 rfl rfl dJ1_indexOf_4cfef_32 k) ?_
      refine ev_bindI (as := [.inr (.inr (b1 + 6)), .inl x2, .inl (if x3 < (0 : Int32) then (0 : Int32) else x3), .inl (if (Int32.ofNat (tLen.getD (b1 - 4) 0)) < x4 then (Int32.ofNat (tLen.getD (b1 - 4) 0)) else x4)]) (fun Q Q1 => rn_callS (as := [.inr (.inr (b1 + 6)), .inl x2, .inl (if x3 < (0 : Int32) then (0 : Int32) else x3), .inl (if (Int32.ofNat (tLen.getD (b1 - 4) 0)) < x4 then (Int32.ofNat (tLen.getD (b1 - 4) 0)) else x4)]) (rest := []) m_J1_95 dJ1_indexOf_4cfef_33 rfl rfl (Nat.le_of_ble_eq_true rfl)) pl_J1_indexOfChar_4cfef (Nat.le_of_ble_eq_true rfl) rfl (e_J1_indexOfChar_4cfef l E d b1 hb1 x2 (if x3 < (0 : Int32) then (0 : Int32) else x3) (if (Int32.ofNat (tLen.getD (b1 - 4) 0)) < x4 then (Int32.ofNat (tLen.getD (b1 - 4) 0)) else x4) D2) (fun r3 D4 => ?_)
      exact ev_ret (fun Q q => rn_ret q .int rfl rfl dJ1_indexOf_4cfef_36)
    · refine ev_s (fun Q k => rn_iconst (v := -1) (by decide) dJ1_indexOf_4cfef_27 k) ?_
      exact ev_ret (fun Q q => rn_ret q .int rfl rfl dJ1_indexOf_4cfef_28)

def F_J0_indexOf_7cf53 (kS : Nat) (x1 : Int32) (x2 : Int32) (D : dT) : Option (Int32 × dT) := bd (F_J0_isLatin1_aae02 kS D) (fun (r1 : Int32) (D2 : dT) => if r1 = 0 then bd (F_J0_length_8abf5 kS D2) (fun (r3 : Int32) (D4 : dT) => none) else bd (F_J0_length_8abf5 kS D2) (fun (r5 : Int32) (D6 : dT) => bd (F_J1_indexOf_4cfef kS x1 x2 r5 D6) (fun (r7 : Int32) (D8 : dT) => some (r7, D8))))
set_option maxRecDepth 20000 in
theorem e_J0_indexOf_7cf53 (l : Launch) (E : eE) (d : Nat) (kS : Nat) (hkS : 4 ≤ kS ∧ kS < 10) (x1 : Int32) (x2 : Int32) (D : dT) : ev l E (d + 2) yJ0_indexOf_7cf53 cJ0_indexOf_7cf53 3 (some .int) 0 [(0, .inr (.inr kS)), (1, .inl x1), (2, .inl x2)] [] D eI (F_J0_indexOf_7cf53 kS x1 x2 D) := by
  unfold F_J0_indexOf_7cf53
  refine ev_s (fun Q k => rn_aload_n (j := 0) 0 rfl rfl (str_0 hkS.1) dJ0_indexOf_7cf53_0 k) ?_
  refine ev_bindI (as := [.inr (.inr kS)]) (fun Q Q1 => rn_callV (as := []) (rest := []) (o := kS) m_J0_492 dJ0_indexOf_7cf53_1 (rcv_str hkS.1 hkS.2) rfl rfl (Nat.le_of_ble_eq_true rfl)) pl_J0_isLatin1_aae02 (Nat.le_of_ble_eq_true rfl) rfl (e_J0_isLatin1_aae02 l E (d + 1) kS hkS D) (fun r1 D2 => ?_)
  refine ev_if (fun Q => rn_if_eq (tgt := 23) dJ0_indexOf_7cf53_4 (by decide)) (fun c9 => ?_) (fun c10 => ?_)
  · refine ev_s (fun Q k => rn_aload_n (j := 0) 0 rfl rfl (str_0 hkS.1) dJ0_indexOf_7cf53_23 k) ?_
    refine ev_s (fun Q k => rn_strV hkS.1 hkS.2 g_J0_9 dJ0_indexOf_7cf53_24 k) ?_
    refine ev_s (fun Q k => rn_iload_n (j := 1) 1 rfl rfl dJ0_indexOf_7cf53_27 k) ?_
    refine ev_s (fun Q k => rn_iload_n (j := 2) 2 rfl rfl dJ0_indexOf_7cf53_28 k) ?_
    refine ev_s (fun Q k => rn_aload_n (j := 0) 0 rfl rfl (str_0 hkS.1) dJ0_indexOf_7cf53_29 k) ?_
    refine ev_bindI (as := [.inr (.inr kS)]) (fun Q Q1 => rn_callV (as := []) (rest := [.inl x2, .inl x1, .inr (.inr (kS + 6))]) (o := kS) m_J0_505 dJ0_indexOf_7cf53_30 (rcv_str hkS.1 hkS.2) rfl rfl (Nat.le_of_ble_eq_true rfl)) pl_J0_length_8abf5 (Nat.le_of_ble_eq_true rfl) rfl (e_J0_length_8abf5 l E d kS hkS D2) (fun r3 D4 => ?_)
    exact ev_none
  · refine ev_s (fun Q k => rn_aload_n (j := 0) 0 rfl rfl (str_0 hkS.1) dJ0_indexOf_7cf53_7 k) ?_
    refine ev_s (fun Q k => rn_strV hkS.1 hkS.2 g_J0_9 dJ0_indexOf_7cf53_8 k) ?_
    refine ev_s (fun Q k => rn_iload_n (j := 1) 1 rfl rfl dJ0_indexOf_7cf53_11 k) ?_
    refine ev_s (fun Q k => rn_iload_n (j := 2) 2 rfl rfl dJ0_indexOf_7cf53_12 k) ?_
    refine ev_s (fun Q k => rn_aload_n (j := 0) 0 rfl rfl (str_0 hkS.1) dJ0_indexOf_7cf53_13 k) ?_
    refine ev_bindI (as := [.inr (.inr kS)]) (fun Q Q1 => rn_callV (as := []) (rest := [.inl x2, .inl x1, .inr (.inr (kS + 6))]) (o := kS) m_J0_505 dJ0_indexOf_7cf53_14 (rcv_str hkS.1 hkS.2) rfl rfl (Nat.le_of_ble_eq_true rfl)) pl_J0_length_8abf5 (Nat.le_of_ble_eq_true rfl) rfl (e_J0_length_8abf5 l E d kS hkS D2) (fun r5 D6 => ?_)
    refine ev_bindI (as := [.inr (.inr (kS + 6)), .inl x1, .inl x2, .inl r5]) (fun Q Q1 => rn_callS (as := [.inr (.inr (kS + 6)), .inl x1, .inl x2, .inl r5]) (rest := []) m_J0_637 dJ0_indexOf_7cf53_17 rfl rfl (Nat.le_of_ble_eq_true rfl)) pl_J1_indexOf_4cfef (Nat.le_of_ble_eq_true rfl) rfl (e_J1_indexOf_4cfef l E d kS hkS x1 x2 r5 D6) (fun r7 D8 => ?_)
    refine ev_s (fun Q k => rn_goto (tgt := 36) dJ0_indexOf_7cf53_20 (by decide) k) ?_
    exact ev_ret (fun Q q => rn_ret q .int rfl rfl dJ0_indexOf_7cf53_36)

def F_J0_indexOf_0f7a4 (kS : Nat) (x1 : Int32) (D : dT) : Option (Int32 × dT) := bd (F_J0_indexOf_7cf53 kS x1 (0 : Int32) D) (fun (r1 : Int32) (D2 : dT) => some (r1, D2))
set_option maxRecDepth 20000 in
theorem e_J0_indexOf_0f7a4 (l : Launch) (E : eE) (d : Nat) (kS : Nat) (hkS : 4 ≤ kS ∧ kS < 10) (x1 : Int32) (D : dT) : ev l E (d + 3) yJ0_indexOf_0f7a4 cJ0_indexOf_0f7a4 2 (some .int) 0 [(0, .inr (.inr kS)), (1, .inl x1)] [] D eI (F_J0_indexOf_0f7a4 kS x1 D) := by
  unfold F_J0_indexOf_0f7a4
  refine ev_s (fun Q k => rn_aload_n (j := 0) 0 rfl rfl (str_0 hkS.1) dJ0_indexOf_0f7a4_0 k) ?_
  refine ev_s (fun Q k => rn_iload_n (j := 1) 1 rfl rfl dJ0_indexOf_0f7a4_1 k) ?_
  refine ev_s (fun Q k => rn_iconst (v := 0) (by decide) dJ0_indexOf_0f7a4_2 k) ?_
  refine ev_bindI (as := [.inr (.inr kS), .inl x1, .inl (0 : Int32)]) (fun Q Q1 => rn_callV (as := [.inl x1, .inl (0 : Int32)]) (rest := []) (o := kS) m_J0_633 dJ0_indexOf_0f7a4_3 (rcv_str hkS.1 hkS.2) rfl rfl (Nat.le_of_ble_eq_true rfl)) pl_J0_indexOf_7cf53 (Nat.le_of_ble_eq_true rfl) rfl (e_J0_indexOf_7cf53 l E d kS hkS x1 (0 : Int32) D) (fun r1 D2 => ?_)
  exact ev_ret (fun Q q => rn_ret q .int rfl rfl dJ0_indexOf_0f7a4_6)

def F_X3_formOf (x1 : Int32) (D : dT) : Option (Nat × dT) := if x1 = (97 : Int32) then some (5, D) else if x1 = (100 : Int32) then some (6, D) else if x1 = (103 : Int32) then some (7, D) else if x1 = (106 : Int32) then some (8, D) else some (9, D)
set_option maxRecDepth 20000 in
theorem e_X3_formOf (l : Launch) (E : eE) (d : Nat) (x1 : Int32) (D : dT) : ev l E d yX3_formOf cX3_formOf 1 (some (.object "java/lang/String")) 0 [(0, .inl x1)] [] D eN (F_X3_formOf x1 D) := by
  unfold F_X3_formOf
  refine ev_s (fun Q k => rn_iload_n (j := 0) 0 rfl rfl dX3_formOf_0 k) ?_
  refine ev_ite (fun c1 => ?_) (fun c2 => ?_)
  · refine ev_s (fun Q k => rn_tswI (off := 55) (tgt := 56) dX3_formOf_1 (by rw [c1]; decide) (by rw [c1]; decide) (by rw [c1]; rfl) (by decide) k) ?_
    refine ev_s (fun Q k => rn_ldcS (k := 5) (tx := tx_5) (by decide) (by decide) (fun s h => tR_5 h) dX3_formOf_56 k) ?_
    exact ev_ret (ε := eN) (fun Q q => rn_retr q "java/lang/String" rfl dX3_formOf_58)
  · refine ev_ite (fun c3 => ?_) (fun c4 => ?_)
    · refine ev_s (fun Q k => rn_tswI (off := 58) (tgt := 59) dX3_formOf_1 (by rw [c3]; decide) (by rw [c3]; decide) (by rw [c3]; rfl) (by decide) k) ?_
      refine ev_s (fun Q k => rn_ldcS (k := 6) (tx := tx_6) (by decide) (by decide) (fun s h => tR_6 h) dX3_formOf_59 k) ?_
      exact ev_ret (ε := eN) (fun Q q => rn_retr q "java/lang/String" rfl dX3_formOf_61)
    · refine ev_ite (fun c5 => ?_) (fun c6 => ?_)
      · refine ev_s (fun Q k => rn_tswI (off := 61) (tgt := 62) dX3_formOf_1 (by rw [c5]; decide) (by rw [c5]; decide) (by rw [c5]; rfl) (by decide) k) ?_
        refine ev_s (fun Q k => rn_ldcS (k := 7) (tx := tx_7) (by decide) (by decide) (fun s h => tR_7 h) dX3_formOf_62 k) ?_
        exact ev_ret (ε := eN) (fun Q q => rn_retr q "java/lang/String" rfl dX3_formOf_64)
      · refine ev_ite (fun c7 => ?_) (fun c8 => ?_)
        · refine ev_s (fun Q k => rn_tswI (off := 64) (tgt := 65) dX3_formOf_1 (by rw [c7]; decide) (by rw [c7]; decide) (by rw [c7]; rfl) (by decide) k) ?_
          refine ev_s (fun Q k => rn_ldcS (k := 8) (tx := tx_8) (by decide) (by decide) (fun s h => tR_8 h) dX3_formOf_65 k) ?_
          exact ev_ret (ε := eN) (fun Q q => rn_retr q "java/lang/String" rfl dX3_formOf_67)
        · by_cases cg9 : x1 = (98 : Int32)
          · refine ev_s (fun Q k => rn_tswI (off := 67) (tgt := 68) dX3_formOf_1 (by rw [cg9]; decide) (by rw [cg9]; decide) (by rw [cg9]; rfl) (by decide) k) ?_
            refine ev_s (fun Q k => rn_ldcS (k := 9) (tx := tx_9) (by decide) (by decide) (fun s h => tR_9 h) dX3_formOf_68 k) ?_
            exact ev_ret (ε := eN) (fun Q q => rn_retr q "java/lang/String" rfl dX3_formOf_70)
          · by_cases cg10 : x1 = (99 : Int32)
            · refine ev_s (fun Q k => rn_tswI (off := 67) (tgt := 68) dX3_formOf_1 (by rw [cg10]; decide) (by rw [cg10]; decide) (by rw [cg10]; rfl) (by decide) k) ?_
              refine ev_s (fun Q k => rn_ldcS (k := 9) (tx := tx_9) (by decide) (by decide) (fun s h => tR_9 h) dX3_formOf_68 k) ?_
              exact ev_ret (ε := eN) (fun Q q => rn_retr q "java/lang/String" rfl dX3_formOf_70)
            · by_cases cg11 : x1 = (101 : Int32)
              · refine ev_s (fun Q k => rn_tswI (off := 67) (tgt := 68) dX3_formOf_1 (by rw [cg11]; decide) (by rw [cg11]; decide) (by rw [cg11]; rfl) (by decide) k) ?_
                refine ev_s (fun Q k => rn_ldcS (k := 9) (tx := tx_9) (by decide) (by decide) (fun s h => tR_9 h) dX3_formOf_68 k) ?_
                exact ev_ret (ε := eN) (fun Q q => rn_retr q "java/lang/String" rfl dX3_formOf_70)
              · by_cases cg12 : x1 = (102 : Int32)
                · refine ev_s (fun Q k => rn_tswI (off := 67) (tgt := 68) dX3_formOf_1 (by rw [cg12]; decide) (by rw [cg12]; decide) (by rw [cg12]; rfl) (by decide) k) ?_
                  refine ev_s (fun Q k => rn_ldcS (k := 9) (tx := tx_9) (by decide) (by decide) (fun s h => tR_9 h) dX3_formOf_68 k) ?_
                  exact ev_ret (ε := eN) (fun Q q => rn_retr q "java/lang/String" rfl dX3_formOf_70)
                · by_cases cg13 : x1 = (104 : Int32)
                  · refine ev_s (fun Q k => rn_tswI (off := 67) (tgt := 68) dX3_formOf_1 (by rw [cg13]; decide) (by rw [cg13]; decide) (by rw [cg13]; rfl) (by decide) k) ?_
                    refine ev_s (fun Q k => rn_ldcS (k := 9) (tx := tx_9) (by decide) (by decide) (fun s h => tR_9 h) dX3_formOf_68 k) ?_
                    exact ev_ret (ε := eN) (fun Q q => rn_retr q "java/lang/String" rfl dX3_formOf_70)
                  · by_cases cg14 : x1 = (105 : Int32)
                    · refine ev_s (fun Q k => rn_tswI (off := 67) (tgt := 68) dX3_formOf_1 (by rw [cg14]; decide) (by rw [cg14]; decide) (by rw [cg14]; rfl) (by decide) k) ?_
                      refine ev_s (fun Q k => rn_ldcS (k := 9) (tx := tx_9) (by decide) (by decide) (fun s h => tR_9 h) dX3_formOf_68 k) ?_
                      exact ev_ret (ε := eN) (fun Q q => rn_retr q "java/lang/String" rfl dX3_formOf_70)
                    · have z0 := lv_neT (k := 97) (a := 97) c2 (by decide)
                      have z1 := lv_neT (k := 100) (a := 100) c4 (by decide)
                      have z2 := lv_neT (k := 103) (a := 103) c6 (by decide)
                      have z3 := lv_neT (k := 106) (a := 106) c8 (by decide)
                      have z4 := lv_neT (k := 98) (a := 98) cg9 (by decide)
                      have z5 := lv_neT (k := 99) (a := 99) cg10 (by decide)
                      have z6 := lv_neT (k := 101) (a := 101) cg11 (by decide)
                      have z7 := lv_neT (k := 102) (a := 102) cg12 (by decide)
                      have z8 := lv_neT (k := 104) (a := 104) cg13 (by decide)
                      have z9 := lv_neT (k := 105) (a := 105) cg14 (by decide)
                      refine ev_s (fun Q k => rn_tswO (tgt := 68) dX3_formOf_1 (by omega) (by decide) k) ?_
                      refine ev_s (fun Q k => rn_ldcS (k := 9) (tx := tx_9) (by decide) (by decide) (fun s h => tR_9 h) dX3_formOf_68 k) ?_
                      exact ev_ret (ε := eN) (fun Q q => rn_retr q "java/lang/String" rfl dX3_formOf_70)

