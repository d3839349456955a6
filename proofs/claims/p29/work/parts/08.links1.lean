theorem mth_i : Cond.initialized "java/lang/Math" ∈ allw := aw (List.mem_append_right _ (List.mem_of_getElem? (i := 7) (by decide +kernel))) rfl
theorem mth_min_s : Cond.static Lib.Math.min.name ∈ allw := aw (List.mem_append_right _ (List.mem_of_getElem? (i := 520) (by decide +kernel))) rfl
theorem mth_min_c : Cond.code Lib.Math.min.name Lib.Math.min.code 2 (some .int) ∈ allw := aw (List.mem_append_right _ (List.mem_of_getElem? (i := 521) (by decide +kernel))) rfl
theorem mth_max_s : Cond.static Lib.Math.max.name ∈ allw := aw (List.mem_append_right _ (List.mem_of_getElem? (i := 312) (by decide +kernel))) rfl
theorem mth_max_c : Cond.code Lib.Math.max.name Lib.Math.max.code 2 (some .int) ∈ allw := aw (List.mem_append_right _ (List.mem_of_getElem? (i := 313) (by decide +kernel))) rfl
theorem oi_1 : Cond.instanceMethod objectInit ∈ allw := aw (by decide +kernel) rfl
theorem oi_2 : Cond.code objectInit ⟨#[0xb1]⟩ 1 none ∈ allw := aw (by decide +kernel) rfl
theorem ac_1 : Cond.native arraycopyName ∈ allw := aw (by decide +kernel) rfl
theorem ac_2 : Cond.static arraycopyName ∈ allw := aw (by decide +kernel) rfl
theorem ac_3 : Cond.initialized "java/lang/System" ∈ allw := aw (by decide +kernel) rfl
theorem na_i : Cond.arrayClass .int ∈ allw := aw (by decide +kernel) rfl
theorem na_z : Cond.arrayClass .boolean ∈ allw := aw (by decide +kernel) rfl
theorem nw_0 : Cond.instantiable (clC 0) (clN 0) ∈ allw := aw (by decide +kernel) rfl
theorem ni_0 : Cond.initialized (clC 0) ∈ allw := aw (by decide +kernel) rfl
theorem nw_1 : Cond.instantiable (clC 1) (clN 1) ∈ allw := aw (by decide +kernel) rfl
theorem ni_1 : Cond.initialized (clC 1) ∈ allw := aw (by decide +kernel) rfl
theorem nw_2 : Cond.instantiable (clC 2) (clN 2) ∈ allw := aw (by decide +kernel) rfl
theorem ni_2 : Cond.initialized (clC 2) ∈ allw := aw (by decide +kernel) rfl
theorem nw_3 : Cond.instantiable (clC 3) (clN 3) ∈ allw := aw (by decide +kernel) rfl
theorem ni_3 : Cond.initialized (clC 3) ∈ allw := aw (by decide +kernel) rfl
theorem nw_4 : Cond.instantiable (clC 4) (clN 4) ∈ allw := aw (by decide +kernel) rfl
theorem ni_4 : Cond.initialized (clC 4) ∈ allw := aw (by decide +kernel) rfl
theorem nw_5 : Cond.instantiable (clC 5) (clN 5) ∈ allw := aw (by decide +kernel) rfl
theorem ni_5 : Cond.initialized (clC 5) ∈ allw := aw (by decide +kernel) rfl
theorem nw_6 : Cond.instantiable (clC 6) (clN 6) ∈ allw := aw (by decide +kernel) rfl
theorem ni_6 : Cond.initialized (clC 6) ∈ allw := aw (by decide +kernel) rfl
theorem m_L_66 : lkI RL 66 yX5_init cX5_init 2 0 := ⟨mm_X5_init, aw (List.mem_append_right _ (List.mem_of_getElem? (i := 12) (by decide +kernel))) rfl, mi_X5_init, rfl⟩
theorem oi_X5_1 : Cond.methodLink RX5 1 objectInit ∈ allw := aw (by decide +kernel) rfl
theorem m_X5_9 : lkI RX5 9 yX0_init cX0_init 2 0 := ⟨mm_X0_init, aw (List.mem_append_right _ (List.mem_of_getElem? (i := 20) (by decide +kernel))) rfl, mi_X0_init, rfl⟩
theorem oi_X0_3 : Cond.methodLink RX0 3 objectInit ∈ allw := aw (by decide +kernel) rfl
theorem oi_X4_3 : Cond.methodLink RX4 3 objectInit ∈ allw := aw (by decide +kernel) rfl
theorem oi_X2_3 : Cond.methodLink RX2 3 objectInit ∈ allw := aw (by decide +kernel) rfl
theorem m_X5_29 : lkI RX5 29 yX1_init cX1_init 2 0 := ⟨mm_X1_init, aw (List.mem_append_right _ (List.mem_of_getElem? (i := 147) (by decide +kernel))) rfl, mi_X1_init, rfl⟩
theorem oi_X1_3 : Cond.methodLink RX1 3 objectInit ∈ allw := aw (by decide +kernel) rfl
theorem m_X1_17 : lkI RX1 17 yX0_init cX0_init 2 0 := ⟨mm_X0_init, aw (List.mem_append_right _ (List.mem_of_getElem? (i := 152) (by decide +kernel))) rfl, mi_X0_init, rfl⟩
theorem oi_X3_3 : Cond.methodLink RX3 3 objectInit ∈ allw := aw (by decide +kernel) rfl
theorem m_L_12 : lkV RL 12 yX5_count cX5_count 2 (some .int) 1 := ⟨mm_X5_count, aw (List.mem_append_right _ (List.mem_of_getElem? (i := 210) (by decide +kernel))) rfl, mi_X5_count, ml_X5_count⟩
theorem m_X5_127 : lkV RX5 127 yX0_tellCount cX0_tellCount 2 (some .int) 1 := ⟨mm_X0_tellCount, aw (List.mem_append_right _ (List.mem_of_getElem? (i := 214) (by decide +kernel))) rfl, mi_X0_tellCount, ml_X0_tellCount⟩
theorem m_X0_126 : lkV RX0 126 yX0_busyPeople cX0_busyPeople 3 (some .int) 0 := ⟨mm_X0_busyPeople, aw (List.mem_append_right _ (List.mem_of_getElem? (i := 218) (by decide +kernel))) rfl, mi_X0_busyPeople, ml_X0_busyPeople⟩
theorem m_X0_232 : lkV RX0 232 yX0_jobsInState cX0_jobsInState 4 (some .int) 1 := ⟨mm_X0_jobsInState, aw (List.mem_append_right _ (List.mem_of_getElem? (i := 222) (by decide +kernel))) rfl, mi_X0_jobsInState, ml_X0_jobsInState⟩
theorem m_X0_235 : lkV RX0 235 yX0_lateJobs cX0_lateJobs 3 (some .int) 0 := ⟨mm_X0_lateJobs, aw (List.mem_append_right _ (List.mem_of_getElem? (i := 226) (by decide +kernel))) rfl, mi_X0_lateJobs, ml_X0_lateJobs⟩
theorem m_X0_229 : lkV RX0 229 yX2_isLate cX2_isLate 2 (some .boolean) 1 := ⟨mm_X2_isLate, aw (List.mem_append_right _ (List.mem_of_getElem? (i := 230) (by decide +kernel))) rfl, mi_X2_isLate, ml_X2_isLate⟩
theorem m_L_63 : lkV RL 63 yX5_undo cX5_undo 1 (some .int) 0 := ⟨mm_X5_undo, aw (List.mem_append_right _ (List.mem_of_getElem? (i := 234) (by decide +kernel))) rfl, mi_X5_undo, ml_X5_undo⟩
theorem m_X5_190 : lkV RX5 190 yX1_takeBack cX1_takeBack 2 (some .int) 1 := ⟨mm_X1_takeBack, aw (List.mem_append_right _ (List.mem_of_getElem? (i := 238) (by decide +kernel))) rfl, mi_X1_takeBack, ml_X1_takeBack⟩
theorem m_X1_22 : lkV RX1 22 yX1_row cX1_row 2 (some .int) 1 := ⟨mm_X1_row, aw (List.mem_append_right _ (List.mem_of_getElem? (i := 242) (by decide +kernel))) rfl, mi_X1_row, ml_X1_row⟩
theorem m_X1_33 : lkS RX1 33 yJ9_floorMod_7cf53 cJ9_floorMod_7cf53 3 (some .int) 2 := ⟨mm_J9_floorMod_7cf53, aw (List.mem_append_right _ (List.mem_of_getElem? (i := 246) (by decide +kernel))) rfl, ms_J9_floorMod_7cf53⟩
theorem m_X1_26 : lkV RX1 26 yX0_copyFrom cX0_copyFrom 3 none 1 := ⟨mm_X0_copyFrom, aw (List.mem_append_right _ (List.mem_of_getElem? (i := 249) (by decide +kernel))) rfl, mi_X0_copyFrom, ml_X0_copyFrom⟩
theorem ac_X0_35 : Cond.methodLink RX0 35 arraycopyName ∈ allw := aw (by decide +kernel) rfl
theorem m_X0_57 : lkV RX0 57 yX4_copyFrom cX4_copyFrom 2 none 1 := ⟨mm_X4_copyFrom, aw (List.mem_append_right _ (List.mem_of_getElem? (i := 256) (by decide +kernel))) rfl, mi_X4_copyFrom, ml_X4_copyFrom⟩
theorem m_X0_61 : lkV RX0 61 yX2_copyFrom cX2_copyFrom 2 none 1 := ⟨mm_X2_copyFrom, aw (List.mem_append_right _ (List.mem_of_getElem? (i := 260) (by decide +kernel))) rfl, mi_X2_copyFrom, ml_X2_copyFrom⟩
theorem m_L_70 : lkV RL 70 yX5_save cX5_save 2 (some .int) 1 := ⟨mm_X5_save, aw (List.mem_append_right _ (List.mem_of_getElem? (i := 264) (by decide +kernel))) rfl, mi_X5_save, ml_X5_save⟩
theorem m_X5_194 : lkS RX5 194 yX5_isSlot cX5_isSlot 1 (some .boolean) 1 := ⟨mm_X5_isSlot, aw (List.mem_append_right _ (List.mem_of_getElem? (i := 268) (by decide +kernel))) rfl, ms_X5_isSlot⟩
theorem m_X5_200 : lkS RX5 200 yX5_isWithin cX5_isWithin 3 (some .boolean) 3 := ⟨mm_X5_isWithin, aw (List.mem_append_right _ (List.mem_of_getElem? (i := 271) (by decide +kernel))) rfl, ms_X5_isWithin⟩
theorem m_X5_148 : lkV RX5 148 yX0_copyFrom cX0_copyFrom 3 none 1 := ⟨mm_X0_copyFrom, aw (List.mem_append_right _ (List.mem_of_getElem? (i := 274) (by decide +kernel))) rfl, mi_X0_copyFrom, ml_X0_copyFrom⟩
theorem m_L_67 : lkV RL 67 yX5_restore cX5_restore 2 (some .int) 1 := ⟨mm_X5_restore, aw (List.mem_append_right _ (List.mem_of_getElem? (i := 275) (by decide +kernel))) rfl, mi_X5_restore, ml_X5_restore⟩
theorem m_X5_41 : lkV RX5 41 yX1_note cX1_note 2 none 1 := ⟨mm_X1_note, aw (List.mem_append_right _ (List.mem_of_getElem? (i := 279) (by decide +kernel))) rfl, mi_X1_note, ml_X1_note⟩
theorem m_X5_49 : lkV RX5 49 yX1_keepUnlessError cX1_keepUnlessError 2 (some .int) 1 := ⟨mm_X1_keepUnlessError, aw (List.mem_append_right _ (List.mem_of_getElem? (i := 283) (by decide +kernel))) rfl, mi_X1_keepUnlessError, ml_X1_keepUnlessError⟩
theorem m_L_73 : lkS RL 73 yL_cell cL_cell 2 (some .int) 2 := ⟨mm_L_cell, aw (List.mem_append_right _ (List.mem_of_getElem? (i := 287) (by decide +kernel))) rfl, ms_L_cell⟩
theorem m_L_77 : lkS RL 77 yL_told cL_told 5 (some .long) 1 := ⟨mm_L_told, aw (List.mem_append_right _ (List.mem_of_getElem? (i := 290) (by decide +kernel))) rfl, ms_L_told⟩
theorem m_L_18 : lkV RL 18 yX5_of cX5_of 3 (some .int) 2 := ⟨mm_X5_of, aw (List.mem_append_right _ (List.mem_of_getElem? (i := 295) (by decide +kernel))) rfl, mi_X5_of, ml_X5_of⟩
theorem m_X5_80 : lkV RX5 80 yX0_hasPerson cX0_hasPerson 2 (some .boolean) 1 := ⟨mm_X0_hasPerson, aw (List.mem_append_right _ (List.mem_of_getElem? (i := 299) (by decide +kernel))) rfl, mi_X0_hasPerson, ml_X0_hasPerson⟩
theorem m_X5_92 : lkV RX5 92 yX4_tell cX4_tell 3 (some .int) 2 := ⟨mm_X4_tell, aw (List.mem_append_right _ (List.mem_of_getElem? (i := 303) (by decide +kernel))) rfl, mi_X4_tell, ml_X4_tell⟩
theorem m_X4_36 : lkV RX4 36 yX4_hoursOfRest cX4_hoursOfRest 3 (some .int) 1 := ⟨mm_X4_hoursOfRest, aw (List.mem_append_right _ (List.mem_of_getElem? (i := 307) (by decide +kernel))) rfl, mi_X4_hoursOfRest, ml_X4_hoursOfRest⟩
theorem mth_X4_33 : Cond.methodLink RX4 33 Lib.Math.max.name ∈ allw := aw (List.mem_append_right _ (List.mem_of_getElem? (i := 311) (by decide +kernel))) rfl
theorem m_L_22 : lkV RL 22 yX5_ofJob cX5_ofJob 3 (some .int) 2 := ⟨mm_X5_ofJob, aw (List.mem_append_right _ (List.mem_of_getElem? (i := 314) (by decide +kernel))) rfl, mi_X5_ofJob, ml_X5_ofJob⟩
theorem m_X5_97 : lkV RX5 97 yX0_hasJob cX0_hasJob 2 (some .boolean) 1 := ⟨mm_X0_hasJob, aw (List.mem_append_right _ (List.mem_of_getElem? (i := 318) (by decide +kernel))) rfl, mi_X0_hasJob, ml_X0_hasJob⟩
theorem m_X5_104 : lkV RX5 104 yX0_tellOfJob cX0_tellOfJob 3 (some .int) 2 := ⟨mm_X0_tellOfJob, aw (List.mem_append_right _ (List.mem_of_getElem? (i := 322) (by decide +kernel))) rfl, mi_X0_tellOfJob, ml_X0_tellOfJob⟩
theorem m_X0_225 : lkV RX0 225 yX2_wasBegun cX2_wasBegun 1 (some .boolean) 0 := ⟨mm_X2_wasBegun, aw (List.mem_append_right _ (List.mem_of_getElem? (i := 326) (by decide +kernel))) rfl, mi_X2_wasBegun, ml_X2_wasBegun⟩
theorem m_X0_94 : lkV RX0 94 yX0_loadNow cX0_loadNow 2 (some .int) 1 := ⟨mm_X0_loadNow, aw (List.mem_append_right _ (List.mem_of_getElem? (i := 330) (by decide +kernel))) rfl, mi_X0_loadNow, ml_X0_loadNow⟩
theorem m_L_25 : lkV RL 25 yX5_straps cX5_straps 3 (some .int) 2 := ⟨mm_X5_straps, aw (List.mem_append_right _ (List.mem_of_getElem? (i := 334) (by decide +kernel))) rfl, mi_X5_straps, ml_X5_straps⟩
theorem m_X5_111 : lkS RX5 111 yX5_isKind cX5_isKind 1 (some .boolean) 1 := ⟨mm_X5_isKind, aw (List.mem_append_right _ (List.mem_of_getElem? (i := 338) (by decide +kernel))) rfl, ms_X5_isKind⟩
theorem m_L_81 : lkS RL 81 yL_act cL_act 4 (some .int) 3 := ⟨mm_L_act, aw (List.mem_append_right _ (List.mem_of_getElem? (i := 341) (by decide +kernel))) rfl, ms_L_act⟩
theorem m_L_28 : lkS RL 28 yL_low cL_low 2 (some .int) 2 := ⟨mm_L_low, aw (List.mem_append_right _ (List.mem_of_getElem? (i := 344) (by decide +kernel))) rfl, ms_L_low⟩
theorem m_L_33 : lkV RL 33 yX5_set cX5_set 3 (some .int) 2 := ⟨mm_X5_set, aw (List.mem_append_right _ (List.mem_of_getElem? (i := 348) (by decide +kernel))) rfl, mi_X5_set, ml_X5_set⟩
theorem m_X5_45 : lkV RX5 45 yX0_changeSetting cX0_changeSetting 4 (some .int) 2 := ⟨mm_X0_changeSetting, aw (List.mem_append_right _ (List.mem_of_getElem? (i := 352) (by decide +kernel))) rfl, mi_X0_changeSetting, ml_X0_changeSetting⟩
theorem m_L_36 : lkV RL 36 yX5_person cX5_person 2 (some .int) 1 := ⟨mm_X5_person, aw (List.mem_append_right _ (List.mem_of_getElem? (i := 361) (by decide +kernel))) rfl, mi_X5_person, ml_X5_person⟩
theorem m_X5_53 : lkV RX5 53 yX0_addPerson cX0_addPerson 2 (some .int) 1 := ⟨mm_X0_addPerson, aw (List.mem_append_right _ (List.mem_of_getElem? (i := 365) (by decide +kernel))) rfl, mi_X0_addPerson, ml_X0_addPerson⟩
theorem m_X0_74 : lkV RX0 74 yX4_come cX4_come 2 none 1 := ⟨mm_X4_come, aw (List.mem_append_right _ (List.mem_of_getElem? (i := 369) (by decide +kernel))) rfl, mi_X4_come, ml_X4_come⟩
theorem m_L_39 : lkV RL 39 yX5_job cX5_job 6 (some .int) 5 := ⟨mm_X5_job, aw (List.mem_append_right _ (List.mem_of_getElem? (i := 373) (by decide +kernel))) rfl, mi_X5_job, ml_X5_job⟩
theorem m_X5_59 : lkV RX5 59 yX0_addJob cX0_addJob 6 (some .int) 5 := ⟨mm_X0_addJob, aw (List.mem_append_right _ (List.mem_of_getElem? (i := 377) (by decide +kernel))) rfl, mi_X0_addJob, ml_X0_addJob⟩
theorem m_X0_82 : lkV RX0 82 yX2_come cX2_come 6 none 5 := ⟨mm_X2_come, aw (List.mem_append_right _ (List.mem_of_getElem? (i := 381) (by decide +kernel))) rfl, mi_X2_come, ml_X2_come⟩
theorem m_L_43 : lkV RL 43 yX5_buy cX5_buy 2 (some .int) 1 := ⟨mm_X5_buy, aw (List.mem_append_right _ (List.mem_of_getElem? (i := 385) (by decide +kernel))) rfl, mi_X5_buy, ml_X5_buy⟩
theorem m_X5_56 : lkV RX5 56 yX0_addStraps cX0_addStraps 2 (some .int) 1 := ⟨mm_X0_addStraps, aw (List.mem_append_right _ (List.mem_of_getElem? (i := 389) (by decide +kernel))) rfl, mi_X0_addStraps, ml_X0_addStraps⟩
theorem m_L_46 : lkV RL 46 yX5_begin cX5_begin 4 (some .int) 3 := ⟨mm_X5_begin, aw (List.mem_append_right _ (List.mem_of_getElem? (i := 394) (by decide +kernel))) rfl, mi_X5_begin, ml_X5_begin⟩
theorem m_X5_63 : lkV RX5 63 yX0_beginJob cX0_beginJob 6 (some .int) 3 := ⟨mm_X0_beginJob, aw (List.mem_append_right _ (List.mem_of_getElem? (i := 398) (by decide +kernel))) rfl, mi_X0_beginJob, ml_X0_beginJob⟩
theorem m_X0_150 : lkV RX0 150 yX0_whyNot cX0_whyNot 4 (some .int) 3 := ⟨mm_X0_whyNot, aw (List.mem_append_right _ (List.mem_of_getElem? (i := 402) (by decide +kernel))) rfl, mi_X0_whyNot, ml_X0_whyNot⟩
theorem m_X0_114 : lkV RX0 114 yX0_hasJob cX0_hasJob 2 (some .boolean) 1 := ⟨mm_X0_hasJob, aw (List.mem_append_right _ (List.mem_of_getElem? (i := 406) (by decide +kernel))) rfl, mi_X0_hasJob, ml_X0_hasJob⟩
theorem m_X0_123 : lkV RX0 123 yX0_isCrew cX0_isCrew 3 (some .boolean) 1 := ⟨mm_X0_isCrew, aw (List.mem_append_right _ (List.mem_of_getElem? (i := 410) (by decide +kernel))) rfl, mi_X0_isCrew, ml_X0_isCrew⟩
theorem m_X0_108 : lkS RX0 108 yJ6_bitCount_0f7a4 cJ6_bitCount_0f7a4 1 (some .int) 1 := ⟨mm_J6_bitCount_0f7a4, aw (List.mem_append_right _ (List.mem_of_getElem? (i := 414) (by decide +kernel))) rfl, ms_J6_bitCount_0f7a4⟩
theorem m_X0_130 : lkV RX0 130 yX0_canHaveStraps cX0_canHaveStraps 3 (some .boolean) 2 := ⟨mm_X0_canHaveStraps, aw (List.mem_append_right _ (List.mem_of_getElem? (i := 420) (by decide +kernel))) rfl, mi_X0_canHaveStraps, ml_X0_canHaveStraps⟩
theorem m_X0_134 : lkV RX0 134 yX0_strengthOf cX0_strengthOf 4 (some .int) 1 := ⟨mm_X0_strengthOf, aw (List.mem_append_right _ (List.mem_of_getElem? (i := 424) (by decide +kernel))) rfl, mi_X0_strengthOf, ml_X0_strengthOf⟩
theorem m_X0_137 : lkV RX0 137 yX0_loadWith cX0_loadWith 4 (some .int) 2 := ⟨mm_X0_loadWith, aw (List.mem_append_right _ (List.mem_of_getElem? (i := 431) (by decide +kernel))) rfl, mi_X0_loadWith, ml_X0_loadWith⟩
theorem m_X0_163 : lkV RX0 163 yX0_placeCrew cX0_placeCrew 4 none 2 := ⟨mm_X0_placeCrew, aw (List.mem_append_right _ (List.mem_of_getElem? (i := 437) (by decide +kernel))) rfl, mi_X0_placeCrew, ml_X0_placeCrew⟩
theorem m_L_50 : lkV RL 50 yX5_assign cX5_assign 1 (some .int) 0 := ⟨mm_X5_assign, aw (List.mem_append_right _ (List.mem_of_getElem? (i := 441) (by decide +kernel))) rfl, mi_X5_assign, ml_X5_assign⟩
theorem m_X5_67 : lkV RX5 67 yX0_assignJobs cX0_assignJobs 6 (some .int) 0 := ⟨mm_X0_assignJobs, aw (List.mem_append_right _ (List.mem_of_getElem? (i := 445) (by decide +kernel))) rfl, mi_X0_assignJobs, ml_X0_assignJobs⟩
theorem m_X0_167 : lkV RX0 167 yX0_nextWaiting cX0_nextWaiting 5 (some .int) 1 := ⟨mm_X0_nextWaiting, aw (List.mem_append_right _ (List.mem_of_getElem? (i := 449) (by decide +kernel))) rfl, mi_X0_nextWaiting, ml_X0_nextWaiting⟩
theorem m_X0_180 : lkV RX0 180 yX0_isAhead cX0_isAhead 3 (some .boolean) 2 := ⟨mm_X0_isAhead, aw (List.mem_append_right _ (List.mem_of_getElem? (i := 453) (by decide +kernel))) rfl, mi_X0_isAhead, ml_X0_isAhead⟩
theorem m_X0_176 : lkV RX0 176 yX2_isAheadOfLater cX2_isAheadOfLater 2 (some .boolean) 1 := ⟨mm_X2_isAheadOfLater, aw (List.mem_append_right _ (List.mem_of_getElem? (i := 457) (by decide +kernel))) rfl, mi_X2_isAheadOfLater, ml_X2_isAheadOfLater⟩
theorem m_X0_170 : lkV RX0 170 yX0_fewestPeopleStraps cX0_fewestPeopleStraps 6 (some .int) 1 := ⟨mm_X0_fewestPeopleStraps, aw (List.mem_append_right _ (List.mem_of_getElem? (i := 461) (by decide +kernel))) rfl, mi_X0_fewestPeopleStraps, ml_X0_fewestPeopleStraps⟩
theorem m_X0_147 : lkV RX0 147 yX0_crewByItself cX0_crewByItself 9 (some .int) 2 := ⟨mm_X0_crewByItself, aw (List.mem_append_right _ (List.mem_of_getElem? (i := 465) (by decide +kernel))) rfl, mi_X0_crewByItself, ml_X0_crewByItself⟩
theorem m_X0_141 : lkV RX0 141 yX0_strongestOutside cX0_strongestOutside 5 (some .int) 1 := ⟨mm_X0_strongestOutside, aw (List.mem_append_right _ (List.mem_of_getElem? (i := 469) (by decide +kernel))) rfl, mi_X0_strongestOutside, ml_X0_strongestOutside⟩
theorem m_X0_144 : lkV RX0 144 yX0_hasPerson cX0_hasPerson 2 (some .boolean) 1 := ⟨mm_X0_hasPerson, aw (List.mem_append_right _ (List.mem_of_getElem? (i := 473) (by decide +kernel))) rfl, mi_X0_hasPerson, ml_X0_hasPerson⟩
theorem m_X0_173 : lkV RX0 173 yX0_beginJob cX0_beginJob 6 (some .int) 3 := ⟨mm_X0_beginJob, aw (List.mem_append_right _ (List.mem_of_getElem? (i := 474) (by decide +kernel))) rfl, mi_X0_beginJob, ml_X0_beginJob⟩
theorem m_L_54 : lkV RL 54 yX5_delay cX5_delay 3 (some .int) 2 := ⟨mm_X5_delay, aw (List.mem_append_right _ (List.mem_of_getElem? (i := 475) (by decide +kernel))) rfl, mi_X5_delay, ml_X5_delay⟩
theorem m_X5_71 : lkV RX5 71 yX0_delayJob cX0_delayJob 3 (some .int) 2 := ⟨mm_X0_delayJob, aw (List.mem_append_right _ (List.mem_of_getElem? (i := 479) (by decide +kernel))) rfl, mi_X0_delayJob, ml_X0_delayJob⟩
theorem m_L_57 : lkV RL 57 yX5_callOff cX5_callOff 2 (some .int) 1 := ⟨mm_X5_callOff, aw (List.mem_append_right _ (List.mem_of_getElem? (i := 483) (by decide +kernel))) rfl, mi_X5_callOff, ml_X5_callOff⟩
theorem m_X5_74 : lkV RX5 74 yX0_callOffJob cX0_callOffJob 3 (some .int) 1 := ⟨mm_X0_callOffJob, aw (List.mem_append_right _ (List.mem_of_getElem? (i := 487) (by decide +kernel))) rfl, mi_X0_callOffJob, ml_X0_callOffJob⟩
theorem m_X0_186 : lkV RX0 186 yX0_endJob cX0_endJob 3 none 2 := ⟨mm_X0_endJob, aw (List.mem_append_right _ (List.mem_of_getElem? (i := 491) (by decide +kernel))) rfl, mi_X0_endJob, ml_X0_endJob⟩
theorem m_L_60 : lkV RL 60 yX5_pass cX5_pass 2 (some .int) 1 := ⟨mm_X5_pass, aw (List.mem_append_right _ (List.mem_of_getElem? (i := 495) (by decide +kernel))) rfl, mi_X5_pass, ml_X5_pass⟩
theorem m_X5_77 : lkV RX5 77 yX0_passHours cX0_passHours 4 (some .int) 1 := ⟨mm_X0_passHours, aw (List.mem_append_right _ (List.mem_of_getElem? (i := 499) (by decide +kernel))) rfl, mi_X0_passHours, ml_X0_passHours⟩
theorem m_X0_190 : lkV RX0 190 yX0_passOneHour cX0_passOneHour 4 (some .int) 0 := ⟨mm_X0_passOneHour, aw (List.mem_append_right _ (List.mem_of_getElem? (i := 503) (by decide +kernel))) rfl, mi_X0_passOneHour, ml_X0_passOneHour⟩
theorem m_X0_193 : lkV RX0 193 yX0_workOneHour cX0_workOneHour 3 (some .boolean) 1 := ⟨mm_X0_workOneHour, aw (List.mem_append_right _ (List.mem_of_getElem? (i := 507) (by decide +kernel))) rfl, mi_X0_workOneHour, ml_X0_workOneHour⟩
theorem m_X0_196 : lkV RX0 196 yX0_restPeople cX0_restPeople 3 none 1 := ⟨mm_X0_restPeople, aw (List.mem_append_right _ (List.mem_of_getElem? (i := 511) (by decide +kernel))) rfl, mi_X0_restPeople, ml_X0_restPeople⟩
theorem m_X0_210 : lkV RX0 210 yX4_rest cX4_rest 2 none 1 := ⟨mm_X4_rest, aw (List.mem_append_right _ (List.mem_of_getElem? (i := 515) (by decide +kernel))) rfl, mi_X4_rest, ml_X4_rest⟩
theorem mth_X4_27 : Cond.methodLink RX4 27 Lib.Math.min.name ∈ allw := aw (List.mem_append_right _ (List.mem_of_getElem? (i := 519) (by decide +kernel))) rfl
theorem m_X0_203 : lkV RX0 203 yX0_carryHour cX0_carryHour 4 none 2 := ⟨mm_X0_carryHour, aw (List.mem_append_right _ (List.mem_of_getElem? (i := 522) (by decide +kernel))) rfl, mi_X0_carryHour, ml_X0_carryHour⟩
theorem m_X0_213 : lkV RX0 213 yX4_carry cX4_carry 2 none 1 := ⟨mm_X4_carry, aw (List.mem_append_right _ (List.mem_of_getElem? (i := 526) (by decide +kernel))) rfl, mi_X4_carry, ml_X4_carry⟩
theorem m_L_85 : lkS RL 85 yL_holds cL_holds 8 (some .boolean) 1 := ⟨mm_L_holds, aw (List.mem_append_right _ (List.mem_of_getElem? (i := 530) (by decide +kernel))) rfl, ms_L_holds⟩
theorem m_L_89 : lkS RL 89 yL_isLifted cL_isLifted 8 (some .boolean) 1 := ⟨mm_L_isLifted, aw (List.mem_append_right _ (List.mem_of_getElem? (i := 533) (by decide +kernel))) rfl, ms_L_isLifted⟩
theorem m_X0_33 : lkIN RX0 33 yX4_init cX4_init 1 0 := ⟨mm_X4_init, (by decide +kernel), mi_X4_init, rfl⟩
theorem m_X0_34 : lkIN RX0 34 yX2_init cX2_init 1 0 := ⟨mm_X2_init, (by decide +kernel), mi_X2_init, rfl⟩
theorem m_X5_36 : lkIN RX5 36 yX3_init cX3_init 1 0 := ⟨mm_X3_init, (by decide +kernel), mi_X3_init, rfl⟩
theorem m_X0_64 : lkSN RX0 64 yX5_isWithin cX5_isWithin 3 (some .boolean) 3 := ⟨mm_X5_isWithin, (by decide +kernel), ms_X5_isWithin⟩
theorem m_X0_78 : lkSN RX0 78 yX5_isKind cX5_isKind 1 (some .boolean) 1 := ⟨mm_X5_isKind, (by decide +kernel), ms_X5_isKind⟩
theorem m_X0_117 : lkSN RX0 117 yX5_isKindOrNone cX5_isKindOrNone 1 (some .boolean) 1 := ⟨mm_X5_isKindOrNone, (by decide +kernel), ms_X5_isKindOrNone⟩
theorem m_X0_101 : lkSN RX0 101 yX5_isIn cX5_isIn 2 (some .boolean) 2 := ⟨mm_X5_isIn, (by decide +kernel), ms_X5_isIn⟩
theorem f_X4_9 : lk RX4 9 4 0 := ⟨by decide, by decide, aw (List.mem_append_right _ (List.mem_of_getElem? (i := 33) (by decide +kernel))) rfl⟩
theorem f_X4_15 : lk RX4 15 4 1 := ⟨by decide, by decide, aw (List.mem_append_right _ (List.mem_of_getElem? (i := 34) (by decide +kernel))) rfl⟩
theorem f_X0_105 : lk RX0 105 4 1 := ⟨by decide, by decide, aw (List.mem_append_right _ (List.mem_of_getElem? (i := 35) (by decide +kernel))) rfl⟩
theorem f_X4_18 : lk RX4 18 4 2 := ⟨by decide, by decide, aw (List.mem_append_right _ (List.mem_of_getElem? (i := 36) (by decide +kernel))) rfl⟩
theorem f_X0_98 : lk RX0 98 4 2 := ⟨by decide, by decide, aw (List.mem_append_right _ (List.mem_of_getElem? (i := 37) (by decide +kernel))) rfl⟩
theorem f_X4_21 : lk RX4 21 4 3 := ⟨by decide, by decide, aw (List.mem_append_right _ (List.mem_of_getElem? (i := 38) (by decide +kernel))) rfl⟩
theorem f_X4_24 : lk RX4 24 4 4 := ⟨by decide, by decide, aw (List.mem_append_right _ (List.mem_of_getElem? (i := 39) (by decide +kernel))) rfl⟩
theorem f_X0_216 : lk RX0 216 4 4 := ⟨by decide, by decide, aw (List.mem_append_right _ (List.mem_of_getElem? (i := 40) (by decide +kernel))) rfl⟩
theorem f_X2_9 : lk RX2 9 2 0 := ⟨by decide, by decide, aw (List.mem_append_right _ (List.mem_of_getElem? (i := 58) (by decide +kernel))) rfl⟩
theorem f_X0_85 : lk RX0 85 2 0 := ⟨by decide, by decide, aw (List.mem_append_right _ (List.mem_of_getElem? (i := 59) (by decide +kernel))) rfl⟩
theorem f_X2_15 : lk RX2 15 2 1 := ⟨by decide, by decide, aw (List.mem_append_right _ (List.mem_of_getElem? (i := 60) (by decide +kernel))) rfl⟩
theorem f_X0_88 : lk RX0 88 2 1 := ⟨by decide, by decide, aw (List.mem_append_right _ (List.mem_of_getElem? (i := 61) (by decide +kernel))) rfl⟩
theorem f_X2_18 : lk RX2 18 2 2 := ⟨by decide, by decide, aw (List.mem_append_right _ (List.mem_of_getElem? (i := 62) (by decide +kernel))) rfl⟩
theorem f_X0_200 : lk RX0 200 2 2 := ⟨by decide, by decide, aw (List.mem_append_right _ (List.mem_of_getElem? (i := 63) (by decide +kernel))) rfl⟩
theorem f_X2_21 : lk RX2 21 2 3 := ⟨by decide, by decide, aw (List.mem_append_right _ (List.mem_of_getElem? (i := 64) (by decide +kernel))) rfl⟩
theorem f_X0_219 : lk RX0 219 2 3 := ⟨by decide, by decide, aw (List.mem_append_right _ (List.mem_of_getElem? (i := 65) (by decide +kernel))) rfl⟩
theorem f_X2_24 : lk RX2 24 2 4 := ⟨by decide, by decide, aw (List.mem_append_right _ (List.mem_of_getElem? (i := 66) (by decide +kernel))) rfl⟩
theorem f_X0_222 : lk RX0 222 2 4 := ⟨by decide, by decide, aw (List.mem_append_right _ (List.mem_of_getElem? (i := 67) (by decide +kernel))) rfl⟩
theorem f_X2_27 : lk RX2 27 2 5 := ⟨by decide, by decide, aw (List.mem_append_right _ (List.mem_of_getElem? (i := 68) (by decide +kernel))) rfl⟩
theorem f_X0_120 : lk RX0 120 2 5 := ⟨by decide, by decide, aw (List.mem_append_right _ (List.mem_of_getElem? (i := 69) (by decide +kernel))) rfl⟩
theorem f_X2_30 : lk RX2 30 2 6 := ⟨by decide, by decide, aw (List.mem_append_right _ (List.mem_of_getElem? (i := 70) (by decide +kernel))) rfl⟩
theorem f_X0_154 : lk RX0 154 2 6 := ⟨by decide, by decide, aw (List.mem_append_right _ (List.mem_of_getElem? (i := 71) (by decide +kernel))) rfl⟩
theorem f_X2_33 : lk RX2 33 2 7 := ⟨by decide, by decide, aw (List.mem_append_right _ (List.mem_of_getElem? (i := 72) (by decide +kernel))) rfl⟩
theorem f_X0_157 : lk RX0 157 2 7 := ⟨by decide, by decide, aw (List.mem_append_right _ (List.mem_of_getElem? (i := 73) (by decide +kernel))) rfl⟩
theorem f_X2_36 : lk RX2 36 2 8 := ⟨by decide, by decide, aw (List.mem_append_right _ (List.mem_of_getElem? (i := 74) (by decide +kernel))) rfl⟩
theorem f_X0_160 : lk RX0 160 2 8 := ⟨by decide, by decide, aw (List.mem_append_right _ (List.mem_of_getElem? (i := 75) (by decide +kernel))) rfl⟩
theorem f_X2_39 : lk RX2 39 2 9 := ⟨by decide, by decide, aw (List.mem_append_right _ (List.mem_of_getElem? (i := 76) (by decide +kernel))) rfl⟩
theorem f_X0_183 : lk RX0 183 2 9 := ⟨by decide, by decide, aw (List.mem_append_right _ (List.mem_of_getElem? (i := 77) (by decide +kernel))) rfl⟩
theorem f_X2_42 : lk RX2 42 2 10 := ⟨by decide, by decide, aw (List.mem_append_right _ (List.mem_of_getElem? (i := 78) (by decide +kernel))) rfl⟩
theorem f_X0_199 : lk RX0 199 2 10 := ⟨by decide, by decide, aw (List.mem_append_right _ (List.mem_of_getElem? (i := 79) (by decide +kernel))) rfl⟩
theorem f_X2_45 : lk RX2 45 2 11 := ⟨by decide, by decide, aw (List.mem_append_right _ (List.mem_of_getElem? (i := 80) (by decide +kernel))) rfl⟩
theorem f_X0_207 : lk RX0 207 2 11 := ⟨by decide, by decide, aw (List.mem_append_right _ (List.mem_of_getElem? (i := 81) (by decide +kernel))) rfl⟩
theorem f_X0_9 : lk RX0 9 0 0 := ⟨by decide, by decide, aw (List.mem_append_right _ (List.mem_of_getElem? (i := 107) (by decide +kernel))) rfl⟩
theorem f_X5_88 : lk RX5 88 0 0 := ⟨by decide, by decide, aw (List.mem_append_right _ (List.mem_of_getElem? (i := 108) (by decide +kernel))) rfl⟩
theorem f_X0_15 : lk RX0 15 0 1 := ⟨by decide, by decide, aw (List.mem_append_right _ (List.mem_of_getElem? (i := 109) (by decide +kernel))) rfl⟩
theorem f_X5_114 : lk RX5 114 0 1 := ⟨by decide, by decide, aw (List.mem_append_right _ (List.mem_of_getElem? (i := 110) (by decide +kernel))) rfl⟩
theorem f_X0_18 : lk RX0 18 0 2 := ⟨by decide, by decide, aw (List.mem_append_right _ (List.mem_of_getElem? (i := 111) (by decide +kernel))) rfl⟩
theorem f_X5_117 : lk RX5 117 0 2 := ⟨by decide, by decide, aw (List.mem_append_right _ (List.mem_of_getElem? (i := 112) (by decide +kernel))) rfl⟩
theorem f_X0_23 : lk RX0 23 0 3 := ⟨by decide, by decide, aw (List.mem_append_right _ (List.mem_of_getElem? (i := 113) (by decide +kernel))) rfl⟩
theorem f_X5_84 : lk RX5 84 0 3 := ⟨by decide, by decide, aw (List.mem_append_right _ (List.mem_of_getElem? (i := 114) (by decide +kernel))) rfl⟩
theorem f_X0_29 : lk RX0 29 0 4 := ⟨by decide, by decide, aw (List.mem_append_right _ (List.mem_of_getElem? (i := 115) (by decide +kernel))) rfl⟩
theorem f_X5_100 : lk RX5 100 0 4 := ⟨by decide, by decide, aw (List.mem_append_right _ (List.mem_of_getElem? (i := 116) (by decide +kernel))) rfl⟩
theorem f_X0_41 : lk RX0 41 0 5 := ⟨by decide, by decide, aw (List.mem_append_right _ (List.mem_of_getElem? (i := 117) (by decide +kernel))) rfl⟩
theorem f_X0_45 : lk RX0 45 0 6 := ⟨by decide, by decide, aw (List.mem_append_right _ (List.mem_of_getElem? (i := 118) (by decide +kernel))) rfl⟩
theorem f_X5_197 : lk RX5 197 0 6 := ⟨by decide, by decide, aw (List.mem_append_right _ (List.mem_of_getElem? (i := 119) (by decide +kernel))) rfl⟩
theorem f_X0_48 : lk RX0 48 0 7 := ⟨by decide, by decide, aw (List.mem_append_right _ (List.mem_of_getElem? (i := 120) (by decide +kernel))) rfl⟩
theorem f_X0_51 : lk RX0 51 0 8 := ⟨by decide, by decide, aw (List.mem_append_right _ (List.mem_of_getElem? (i := 121) (by decide +kernel))) rfl⟩
theorem f_X0_54 : lk RX0 54 0 9 := ⟨by decide, by decide, aw (List.mem_append_right _ (List.mem_of_getElem? (i := 122) (by decide +kernel))) rfl⟩
theorem f_X1_13 : lk RX1 13 1 0 := ⟨by decide, by decide, aw (List.mem_append_right _ (List.mem_of_getElem? (i := 153) (by decide +kernel))) rfl⟩
theorem f_X1_30 : lk RX1 30 1 1 := ⟨by decide, by decide, aw (List.mem_append_right _ (List.mem_of_getElem? (i := 154) (by decide +kernel))) rfl⟩
theorem f_X1_18 : lk RX1 18 1 2 := ⟨by decide, by decide, aw (List.mem_append_right _ (List.mem_of_getElem? (i := 155) (by decide +kernel))) rfl⟩
theorem f_X5_124 : lk RX5 124 1 2 := ⟨by decide, by decide, aw (List.mem_append_right _ (List.mem_of_getElem? (i := 156) (by decide +kernel))) rfl⟩
theorem f_X3_9 : lk RX3 9 3 0 := ⟨by decide, by decide, aw (List.mem_append_right _ (List.mem_of_getElem? (i := 171) (by decide +kernel))) rfl⟩
theorem f_X3_15 : lk RX3 15 3 1 := ⟨by decide, by decide, aw (List.mem_append_right _ (List.mem_of_getElem? (i := 172) (by decide +kernel))) rfl⟩
theorem f_X5_120 : lk RX5 120 3 4 := ⟨by decide, by decide, aw (List.mem_append_right _ (List.mem_of_getElem? (i := 173) (by decide +kernel))) rfl⟩
theorem f_X5_10 : lk RX5 10 5 0 := ⟨by decide, by decide, aw (List.mem_append_right _ (List.mem_of_getElem? (i := 191) (by decide +kernel))) rfl⟩
theorem f_X5_16 : lk RX5 16 5 1 := ⟨by decide, by decide, aw (List.mem_append_right _ (List.mem_of_getElem? (i := 192) (by decide +kernel))) rfl⟩
theorem f_X5_19 : lk RX5 19 5 2 := ⟨by decide, by decide, aw (List.mem_append_right _ (List.mem_of_getElem? (i := 193) (by decide +kernel))) rfl⟩
theorem f_X5_23 : lk RX5 23 5 3 := ⟨by decide, by decide, aw (List.mem_append_right _ (List.mem_of_getElem? (i := 194) (by decide +kernel))) rfl⟩
theorem f_X5_30 : lk RX5 30 5 4 := ⟨by decide, by decide, aw (List.mem_append_right _ (List.mem_of_getElem? (i := 195) (by decide +kernel))) rfl⟩
theorem f_X5_37 : lk RX5 37 5 5 := ⟨by decide, by decide, aw (List.mem_append_right _ (List.mem_of_getElem? (i := 196) (by decide +kernel))) rfl⟩
theorem k_L_13 : Cond.classLink RL 13 (clC 5) ∈ allw := aw (List.mem_append_right _ (List.mem_of_getElem? (i := 10) (by decide +kernel))) rfl
theorem k_X5_7 : Cond.classLink RX5 7 (clC 0) ∈ allw := aw (List.mem_append_right _ (List.mem_of_getElem? (i := 18) (by decide +kernel))) rfl
theorem k_X0_21 : Cond.classLink RX0 21 (clC 4) ∈ allw := aw (List.mem_append_right _ (List.mem_of_getElem? (i := 24) (by decide +kernel))) rfl
theorem k_X0_27 : Cond.classLink RX0 27 (clC 2) ∈ allw := aw (List.mem_append_right _ (List.mem_of_getElem? (i := 26) (by decide +kernel))) rfl
theorem k_X5_27 : Cond.classLink RX5 27 (clC 1) ∈ allw := aw (List.mem_append_right _ (List.mem_of_getElem? (i := 145) (by decide +kernel))) rfl
theorem k_X1_11 : Cond.classLink RX1 11 (clC 0) ∈ allw := aw (List.mem_append_right _ (List.mem_of_getElem? (i := 151) (by decide +kernel))) rfl
theorem k_X5_34 : Cond.classLink RX5 34 (clC 3) ∈ allw := aw (List.mem_append_right _ (List.mem_of_getElem? (i := 165) (by decide +kernel))) rfl
