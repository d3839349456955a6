theorem mth_i : Cond.initialized "java/lang/Math" ∈ allw := aw (List.mem_append_right _ (List.mem_of_getElem? (i := 8) (by decide +kernel))) rfl
theorem mth_min_s : Cond.static Lib.Math.min.name ∈ allw := aw (List.mem_append_right _ (List.mem_of_getElem? (i := 447) (by decide +kernel))) rfl
theorem mth_min_c : Cond.code Lib.Math.min.name Lib.Math.min.code 2 (some .int) ∈ allw := aw (List.mem_append_right _ (List.mem_of_getElem? (i := 448) (by decide +kernel))) rfl
theorem mth_max_s : Cond.static Lib.Math.max.name ∈ allw := aw (List.mem_append_right _ (List.mem_of_getElem? (i := 458) (by decide +kernel))) rfl
theorem mth_max_c : Cond.code Lib.Math.max.name Lib.Math.max.code 2 (some .int) ∈ allw := aw (List.mem_append_right _ (List.mem_of_getElem? (i := 459) (by decide +kernel))) rfl
theorem oi_1 : Cond.instanceMethod objectInit ∈ allw := aw (by decide +kernel) rfl
theorem oi_2 : Cond.code objectInit ⟨#[0xb1]⟩ 1 none ∈ allw := aw (by decide +kernel) rfl
theorem ac_1 : Cond.native arraycopyName ∈ allw := aw (by decide +kernel) rfl
theorem ac_2 : Cond.static arraycopyName ∈ allw := aw (by decide +kernel) rfl
theorem ac_3 : Cond.initialized "java/lang/System" ∈ allw := aw (by decide +kernel) rfl
theorem na_i : Cond.arrayClass .int ∈ allw := aw (by decide +kernel) rfl
theorem na_z : Cond.arrayClass .boolean ∈ allw := aw (by decide +kernel) rfl
theorem nw_0 : Cond.instantiable (clC 0) (clN 0) ∈ allw := aw (by decide +kernel) rfl
theorem ni_0 : Cond.initialized (clC 0) ∈ allw := aw (by decide +kernel) rfl
theorem nw_1 : Cond.instantiable (clC 1) (clN 1) ∈ allw := aw (by decide +kernel) rfl
theorem ni_1 : Cond.initialized (clC 1) ∈ allw := aw (by decide +kernel) rfl
theorem nw_2 : Cond.instantiable (clC 2) (clN 2) ∈ allw := aw (by decide +kernel) rfl
theorem ni_2 : Cond.initialized (clC 2) ∈ allw := aw (by decide +kernel) rfl
theorem nw_3 : Cond.instantiable (clC 3) (clN 3) ∈ allw := aw (by decide +kernel) rfl
theorem ni_3 : Cond.initialized (clC 3) ∈ allw := aw (by decide +kernel) rfl
theorem nw_4 : Cond.instantiable (clC 4) (clN 4) ∈ allw := aw (by decide +kernel) rfl
theorem ni_4 : Cond.initialized (clC 4) ∈ allw := aw (by decide +kernel) rfl
theorem nw_5 : Cond.instantiable (clC 5) (clN 5) ∈ allw := aw (by decide +kernel) rfl
theorem ni_5 : Cond.initialized (clC 5) ∈ allw := aw (by decide +kernel) rfl
theorem nw_6 : Cond.instantiable (clC 6) (clN 6) ∈ allw := aw (by decide +kernel) rfl
theorem ni_6 : Cond.initialized (clC 6) ∈ allw := aw (by decide +kernel) rfl
theorem m_L_9 : lkI RL 9 yX5_init cX5_init 2 0 := ⟨mm_X5_init, aw (List.mem_append_right _ (List.mem_of_getElem? (i := 18) (by decide +kernel))) rfl, mi_X5_init, rfl⟩
theorem oi_X5_1 : Cond.methodLink RX5 1 objectInit ∈ allw := aw (by decide +kernel) rfl
theorem m_X5_9 : lkI RX5 9 yX0_init cX0_init 2 0 := ⟨mm_X0_init, aw (List.mem_append_right _ (List.mem_of_getElem? (i := 26) (by decide +kernel))) rfl, mi_X0_init, rfl⟩
theorem oi_X0_3 : Cond.methodLink RX0 3 objectInit ∈ allw := aw (by decide +kernel) rfl
theorem oi_X4_3 : Cond.methodLink RX4 3 objectInit ∈ allw := aw (by decide +kernel) rfl
theorem oi_X2_3 : Cond.methodLink RX2 3 objectInit ∈ allw := aw (by decide +kernel) rfl
theorem m_X5_29 : lkI RX5 29 yX1_init cX1_init 2 0 := ⟨mm_X1_init, aw (List.mem_append_right _ (List.mem_of_getElem? (i := 154) (by decide +kernel))) rfl, mi_X1_init, rfl⟩
theorem oi_X1_3 : Cond.methodLink RX1 3 objectInit ∈ allw := aw (by decide +kernel) rfl
theorem m_X1_17 : lkI RX1 17 yX0_init cX0_init 2 0 := ⟨mm_X0_init, aw (List.mem_append_right _ (List.mem_of_getElem? (i := 159) (by decide +kernel))) rfl, mi_X0_init, rfl⟩
theorem oi_X3_3 : Cond.methodLink RX3 3 objectInit ∈ allw := aw (by decide +kernel) rfl
theorem m_L_13 : lkV RL 13 yX5_set cX5_set 3 (some .int) 2 := ⟨mm_X5_set, aw (List.mem_append_right _ (List.mem_of_getElem? (i := 226) (by decide +kernel))) rfl, mi_X5_set, ml_X5_set⟩
theorem m_X5_41 : lkV RX5 41 yX1_note cX1_note 2 none 1 := ⟨mm_X1_note, aw (List.mem_append_right _ (List.mem_of_getElem? (i := 230) (by decide +kernel))) rfl, mi_X1_note, ml_X1_note⟩
theorem m_X1_22 : lkV RX1 22 yX1_row cX1_row 2 (some .int) 1 := ⟨mm_X1_row, aw (List.mem_append_right _ (List.mem_of_getElem? (i := 234) (by decide +kernel))) rfl, mi_X1_row, ml_X1_row⟩
theorem m_X1_33 : lkS RX1 33 yJ9_floorMod_7cf53 cJ9_floorMod_7cf53 3 (some .int) 2 := ⟨mm_J9_floorMod_7cf53, aw (List.mem_append_right _ (List.mem_of_getElem? (i := 238) (by decide +kernel))) rfl, ms_J9_floorMod_7cf53⟩
theorem m_X1_26 : lkV RX1 26 yX0_copyFrom cX0_copyFrom 3 none 1 := ⟨mm_X0_copyFrom, aw (List.mem_append_right _ (List.mem_of_getElem? (i := 241) (by decide +kernel))) rfl, mi_X0_copyFrom, ml_X0_copyFrom⟩
theorem ac_X0_35 : Cond.methodLink RX0 35 arraycopyName ∈ allw := aw (by decide +kernel) rfl
theorem m_X0_57 : lkV RX0 57 yX4_copyFrom cX4_copyFrom 2 none 1 := ⟨mm_X4_copyFrom, aw (List.mem_append_right _ (List.mem_of_getElem? (i := 248) (by decide +kernel))) rfl, mi_X4_copyFrom, ml_X4_copyFrom⟩
theorem m_X0_61 : lkV RX0 61 yX2_copyFrom cX2_copyFrom 2 none 1 := ⟨mm_X2_copyFrom, aw (List.mem_append_right _ (List.mem_of_getElem? (i := 252) (by decide +kernel))) rfl, mi_X2_copyFrom, ml_X2_copyFrom⟩
theorem m_X5_45 : lkV RX5 45 yX0_changeSetting cX0_changeSetting 4 (some .int) 2 := ⟨mm_X0_changeSetting, aw (List.mem_append_right _ (List.mem_of_getElem? (i := 256) (by decide +kernel))) rfl, mi_X0_changeSetting, ml_X0_changeSetting⟩
theorem m_X5_49 : lkV RX5 49 yX1_keepUnlessError cX1_keepUnlessError 2 (some .int) 1 := ⟨mm_X1_keepUnlessError, aw (List.mem_append_right _ (List.mem_of_getElem? (i := 267) (by decide +kernel))) rfl, mi_X1_keepUnlessError, ml_X1_keepUnlessError⟩
theorem m_L_18 : lkV RL 18 yX5_person cX5_person 2 (some .int) 1 := ⟨mm_X5_person, aw (List.mem_append_right _ (List.mem_of_getElem? (i := 271) (by decide +kernel))) rfl, mi_X5_person, ml_X5_person⟩
theorem m_X5_53 : lkV RX5 53 yX0_addPerson cX0_addPerson 2 (some .int) 1 := ⟨mm_X0_addPerson, aw (List.mem_append_right _ (List.mem_of_getElem? (i := 275) (by decide +kernel))) rfl, mi_X0_addPerson, ml_X0_addPerson⟩
theorem m_X0_74 : lkV RX0 74 yX4_come cX4_come 2 none 1 := ⟨mm_X4_come, aw (List.mem_append_right _ (List.mem_of_getElem? (i := 279) (by decide +kernel))) rfl, mi_X4_come, ml_X4_come⟩
theorem m_L_23 : lkV RL 23 yX5_buy cX5_buy 2 (some .int) 1 := ⟨mm_X5_buy, aw (List.mem_append_right _ (List.mem_of_getElem? (i := 283) (by decide +kernel))) rfl, mi_X5_buy, ml_X5_buy⟩
theorem m_X5_56 : lkV RX5 56 yX0_addStraps cX0_addStraps 2 (some .int) 1 := ⟨mm_X0_addStraps, aw (List.mem_append_right _ (List.mem_of_getElem? (i := 287) (by decide +kernel))) rfl, mi_X0_addStraps, ml_X0_addStraps⟩
theorem m_L_27 : lkV RL 27 yX5_job cX5_job 6 (some .int) 5 := ⟨mm_X5_job, aw (List.mem_append_right _ (List.mem_of_getElem? (i := 294) (by decide +kernel))) rfl, mi_X5_job, ml_X5_job⟩
theorem m_X5_59 : lkV RX5 59 yX0_addJob cX0_addJob 6 (some .int) 5 := ⟨mm_X0_addJob, aw (List.mem_append_right _ (List.mem_of_getElem? (i := 298) (by decide +kernel))) rfl, mi_X0_addJob, ml_X0_addJob⟩
theorem m_X0_82 : lkV RX0 82 yX2_come cX2_come 6 none 5 := ⟨mm_X2_come, aw (List.mem_append_right _ (List.mem_of_getElem? (i := 302) (by decide +kernel))) rfl, mi_X2_come, ml_X2_come⟩
theorem m_L_32 : lkV RL 32 yX5_begin cX5_begin 4 (some .int) 3 := ⟨mm_X5_begin, aw (List.mem_append_right _ (List.mem_of_getElem? (i := 306) (by decide +kernel))) rfl, mi_X5_begin, ml_X5_begin⟩
theorem m_X5_63 : lkV RX5 63 yX0_beginJob cX0_beginJob 6 (some .int) 3 := ⟨mm_X0_beginJob, aw (List.mem_append_right _ (List.mem_of_getElem? (i := 310) (by decide +kernel))) rfl, mi_X0_beginJob, ml_X0_beginJob⟩
theorem m_X0_150 : lkV RX0 150 yX0_whyNot cX0_whyNot 4 (some .int) 3 := ⟨mm_X0_whyNot, aw (List.mem_append_right _ (List.mem_of_getElem? (i := 314) (by decide +kernel))) rfl, mi_X0_whyNot, ml_X0_whyNot⟩
theorem m_X0_114 : lkV RX0 114 yX0_hasJob cX0_hasJob 2 (some .boolean) 1 := ⟨mm_X0_hasJob, aw (List.mem_append_right _ (List.mem_of_getElem? (i := 318) (by decide +kernel))) rfl, mi_X0_hasJob, ml_X0_hasJob⟩
theorem m_X5_111 : lkS RX5 111 yX5_isKind cX5_isKind 1 (some .boolean) 1 := ⟨mm_X5_isKind, aw (List.mem_append_right _ (List.mem_of_getElem? (i := 325) (by decide +kernel))) rfl, ms_X5_isKind⟩
theorem m_X0_123 : lkV RX0 123 yX0_isCrew cX0_isCrew 3 (some .boolean) 1 := ⟨mm_X0_isCrew, aw (List.mem_append_right _ (List.mem_of_getElem? (i := 326) (by decide +kernel))) rfl, mi_X0_isCrew, ml_X0_isCrew⟩
theorem m_X0_108 : lkS RX0 108 yJ6_bitCount_0f7a4 cJ6_bitCount_0f7a4 1 (some .int) 1 := ⟨mm_J6_bitCount_0f7a4, aw (List.mem_append_right _ (List.mem_of_getElem? (i := 330) (by decide +kernel))) rfl, ms_J6_bitCount_0f7a4⟩
theorem m_X0_126 : lkV RX0 126 yX0_busyPeople cX0_busyPeople 3 (some .int) 0 := ⟨mm_X0_busyPeople, aw (List.mem_append_right _ (List.mem_of_getElem? (i := 336) (by decide +kernel))) rfl, mi_X0_busyPeople, ml_X0_busyPeople⟩
theorem m_X0_130 : lkV RX0 130 yX0_canHaveStraps cX0_canHaveStraps 3 (some .boolean) 2 := ⟨mm_X0_canHaveStraps, aw (List.mem_append_right _ (List.mem_of_getElem? (i := 340) (by decide +kernel))) rfl, mi_X0_canHaveStraps, ml_X0_canHaveStraps⟩
theorem m_X0_134 : lkV RX0 134 yX0_strengthOf cX0_strengthOf 4 (some .int) 1 := ⟨mm_X0_strengthOf, aw (List.mem_append_right _ (List.mem_of_getElem? (i := 344) (by decide +kernel))) rfl, mi_X0_strengthOf, ml_X0_strengthOf⟩
theorem m_X0_137 : lkV RX0 137 yX0_loadWith cX0_loadWith 4 (some .int) 2 := ⟨mm_X0_loadWith, aw (List.mem_append_right _ (List.mem_of_getElem? (i := 351) (by decide +kernel))) rfl, mi_X0_loadWith, ml_X0_loadWith⟩
theorem m_X0_94 : lkV RX0 94 yX0_loadNow cX0_loadNow 2 (some .int) 1 := ⟨mm_X0_loadNow, aw (List.mem_append_right _ (List.mem_of_getElem? (i := 357) (by decide +kernel))) rfl, mi_X0_loadNow, ml_X0_loadNow⟩
theorem m_X0_163 : lkV RX0 163 yX0_placeCrew cX0_placeCrew 4 none 2 := ⟨mm_X0_placeCrew, aw (List.mem_append_right _ (List.mem_of_getElem? (i := 361) (by decide +kernel))) rfl, mi_X0_placeCrew, ml_X0_placeCrew⟩
theorem m_L_37 : lkV RL 37 yX5_assign cX5_assign 1 (some .int) 0 := ⟨mm_X5_assign, aw (List.mem_append_right _ (List.mem_of_getElem? (i := 365) (by decide +kernel))) rfl, mi_X5_assign, ml_X5_assign⟩
theorem m_X5_67 : lkV RX5 67 yX0_assignJobs cX0_assignJobs 6 (some .int) 0 := ⟨mm_X0_assignJobs, aw (List.mem_append_right _ (List.mem_of_getElem? (i := 369) (by decide +kernel))) rfl, mi_X0_assignJobs, ml_X0_assignJobs⟩
theorem m_X0_167 : lkV RX0 167 yX0_nextWaiting cX0_nextWaiting 5 (some .int) 1 := ⟨mm_X0_nextWaiting, aw (List.mem_append_right _ (List.mem_of_getElem? (i := 373) (by decide +kernel))) rfl, mi_X0_nextWaiting, ml_X0_nextWaiting⟩
theorem m_X0_180 : lkV RX0 180 yX0_isAhead cX0_isAhead 3 (some .boolean) 2 := ⟨mm_X0_isAhead, aw (List.mem_append_right _ (List.mem_of_getElem? (i := 377) (by decide +kernel))) rfl, mi_X0_isAhead, ml_X0_isAhead⟩
theorem m_X0_176 : lkV RX0 176 yX2_isAheadOfLater cX2_isAheadOfLater 2 (some .boolean) 1 := ⟨mm_X2_isAheadOfLater, aw (List.mem_append_right _ (List.mem_of_getElem? (i := 381) (by decide +kernel))) rfl, mi_X2_isAheadOfLater, ml_X2_isAheadOfLater⟩
theorem m_X0_170 : lkV RX0 170 yX0_fewestPeopleStraps cX0_fewestPeopleStraps 6 (some .int) 1 := ⟨mm_X0_fewestPeopleStraps, aw (List.mem_append_right _ (List.mem_of_getElem? (i := 385) (by decide +kernel))) rfl, mi_X0_fewestPeopleStraps, ml_X0_fewestPeopleStraps⟩
theorem m_X0_147 : lkV RX0 147 yX0_crewByItself cX0_crewByItself 9 (some .int) 2 := ⟨mm_X0_crewByItself, aw (List.mem_append_right _ (List.mem_of_getElem? (i := 389) (by decide +kernel))) rfl, mi_X0_crewByItself, ml_X0_crewByItself⟩
theorem m_X0_141 : lkV RX0 141 yX0_strongestOutside cX0_strongestOutside 5 (some .int) 1 := ⟨mm_X0_strongestOutside, aw (List.mem_append_right _ (List.mem_of_getElem? (i := 393) (by decide +kernel))) rfl, mi_X0_strongestOutside, ml_X0_strongestOutside⟩
theorem m_X0_144 : lkV RX0 144 yX0_hasPerson cX0_hasPerson 2 (some .boolean) 1 := ⟨mm_X0_hasPerson, aw (List.mem_append_right _ (List.mem_of_getElem? (i := 397) (by decide +kernel))) rfl, mi_X0_hasPerson, ml_X0_hasPerson⟩
theorem m_X0_173 : lkV RX0 173 yX0_beginJob cX0_beginJob 6 (some .int) 3 := ⟨mm_X0_beginJob, aw (List.mem_append_right _ (List.mem_of_getElem? (i := 401) (by decide +kernel))) rfl, mi_X0_beginJob, ml_X0_beginJob⟩
theorem m_L_42 : lkV RL 42 yX5_delay cX5_delay 3 (some .int) 2 := ⟨mm_X5_delay, aw (List.mem_append_right _ (List.mem_of_getElem? (i := 402) (by decide +kernel))) rfl, mi_X5_delay, ml_X5_delay⟩
theorem m_X5_71 : lkV RX5 71 yX0_delayJob cX0_delayJob 3 (some .int) 2 := ⟨mm_X0_delayJob, aw (List.mem_append_right _ (List.mem_of_getElem? (i := 406) (by decide +kernel))) rfl, mi_X0_delayJob, ml_X0_delayJob⟩
theorem m_L_46 : lkV RL 46 yX5_callOff cX5_callOff 2 (some .int) 1 := ⟨mm_X5_callOff, aw (List.mem_append_right _ (List.mem_of_getElem? (i := 410) (by decide +kernel))) rfl, mi_X5_callOff, ml_X5_callOff⟩
theorem m_X5_74 : lkV RX5 74 yX0_callOffJob cX0_callOffJob 3 (some .int) 1 := ⟨mm_X0_callOffJob, aw (List.mem_append_right _ (List.mem_of_getElem? (i := 414) (by decide +kernel))) rfl, mi_X0_callOffJob, ml_X0_callOffJob⟩
theorem m_X0_186 : lkV RX0 186 yX0_endJob cX0_endJob 3 none 2 := ⟨mm_X0_endJob, aw (List.mem_append_right _ (List.mem_of_getElem? (i := 418) (by decide +kernel))) rfl, mi_X0_endJob, ml_X0_endJob⟩
theorem m_L_50 : lkV RL 50 yX5_pass cX5_pass 2 (some .int) 1 := ⟨mm_X5_pass, aw (List.mem_append_right _ (List.mem_of_getElem? (i := 422) (by decide +kernel))) rfl, mi_X5_pass, ml_X5_pass⟩
theorem m_X5_77 : lkV RX5 77 yX0_passHours cX0_passHours 4 (some .int) 1 := ⟨mm_X0_passHours, aw (List.mem_append_right _ (List.mem_of_getElem? (i := 426) (by decide +kernel))) rfl, mi_X0_passHours, ml_X0_passHours⟩
theorem m_X0_190 : lkV RX0 190 yX0_passOneHour cX0_passOneHour 4 (some .int) 0 := ⟨mm_X0_passOneHour, aw (List.mem_append_right _ (List.mem_of_getElem? (i := 430) (by decide +kernel))) rfl, mi_X0_passOneHour, ml_X0_passOneHour⟩
theorem m_X0_193 : lkV RX0 193 yX0_workOneHour cX0_workOneHour 3 (some .boolean) 1 := ⟨mm_X0_workOneHour, aw (List.mem_append_right _ (List.mem_of_getElem? (i := 434) (by decide +kernel))) rfl, mi_X0_workOneHour, ml_X0_workOneHour⟩
theorem m_X0_196 : lkV RX0 196 yX0_restPeople cX0_restPeople 3 none 1 := ⟨mm_X0_restPeople, aw (List.mem_append_right _ (List.mem_of_getElem? (i := 438) (by decide +kernel))) rfl, mi_X0_restPeople, ml_X0_restPeople⟩
theorem m_X0_210 : lkV RX0 210 yX4_rest cX4_rest 2 none 1 := ⟨mm_X4_rest, aw (List.mem_append_right _ (List.mem_of_getElem? (i := 442) (by decide +kernel))) rfl, mi_X4_rest, ml_X4_rest⟩
theorem mth_X4_27 : Cond.methodLink RX4 27 Lib.Math.min.name ∈ allw := aw (List.mem_append_right _ (List.mem_of_getElem? (i := 446) (by decide +kernel))) rfl
theorem m_X0_203 : lkV RX0 203 yX0_carryHour cX0_carryHour 4 none 2 := ⟨mm_X0_carryHour, aw (List.mem_append_right _ (List.mem_of_getElem? (i := 449) (by decide +kernel))) rfl, mi_X0_carryHour, ml_X0_carryHour⟩
theorem m_X0_213 : lkV RX0 213 yX4_carry cX4_carry 2 none 1 := ⟨mm_X4_carry, aw (List.mem_append_right _ (List.mem_of_getElem? (i := 453) (by decide +kernel))) rfl, mi_X4_carry, ml_X4_carry⟩
theorem mth_X4_33 : Cond.methodLink RX4 33 Lib.Math.max.name ∈ allw := aw (List.mem_append_right _ (List.mem_of_getElem? (i := 457) (by decide +kernel))) rfl
theorem m_L_54 : lkV RL 54 yX5_of cX5_of 3 (some .int) 2 := ⟨mm_X5_of, aw (List.mem_append_right _ (List.mem_of_getElem? (i := 460) (by decide +kernel))) rfl, mi_X5_of, ml_X5_of⟩
theorem m_X5_80 : lkV RX5 80 yX0_hasPerson cX0_hasPerson 2 (some .boolean) 1 := ⟨mm_X0_hasPerson, aw (List.mem_append_right _ (List.mem_of_getElem? (i := 464) (by decide +kernel))) rfl, mi_X0_hasPerson, ml_X0_hasPerson⟩
theorem m_X5_92 : lkV RX5 92 yX4_tell cX4_tell 3 (some .int) 2 := ⟨mm_X4_tell, aw (List.mem_append_right _ (List.mem_of_getElem? (i := 465) (by decide +kernel))) rfl, mi_X4_tell, ml_X4_tell⟩
theorem m_X4_36 : lkV RX4 36 yX4_hoursOfRest cX4_hoursOfRest 3 (some .int) 1 := ⟨mm_X4_hoursOfRest, aw (List.mem_append_right _ (List.mem_of_getElem? (i := 469) (by decide +kernel))) rfl, mi_X4_hoursOfRest, ml_X4_hoursOfRest⟩
theorem m_L_58 : lkV RL 58 yX5_ofJob cX5_ofJob 3 (some .int) 2 := ⟨mm_X5_ofJob, aw (List.mem_append_right _ (List.mem_of_getElem? (i := 473) (by decide +kernel))) rfl, mi_X5_ofJob, ml_X5_ofJob⟩
theorem m_X5_97 : lkV RX5 97 yX0_hasJob cX0_hasJob 2 (some .boolean) 1 := ⟨mm_X0_hasJob, aw (List.mem_append_right _ (List.mem_of_getElem? (i := 477) (by decide +kernel))) rfl, mi_X0_hasJob, ml_X0_hasJob⟩
theorem m_X5_104 : lkV RX5 104 yX0_tellOfJob cX0_tellOfJob 3 (some .int) 2 := ⟨mm_X0_tellOfJob, aw (List.mem_append_right _ (List.mem_of_getElem? (i := 478) (by decide +kernel))) rfl, mi_X0_tellOfJob, ml_X0_tellOfJob⟩
theorem m_X0_225 : lkV RX0 225 yX2_wasBegun cX2_wasBegun 1 (some .boolean) 0 := ⟨mm_X2_wasBegun, aw (List.mem_append_right _ (List.mem_of_getElem? (i := 482) (by decide +kernel))) rfl, mi_X2_wasBegun, ml_X2_wasBegun⟩
theorem m_X0_229 : lkV RX0 229 yX2_isLate cX2_isLate 2 (some .boolean) 1 := ⟨mm_X2_isLate, aw (List.mem_append_right _ (List.mem_of_getElem? (i := 486) (by decide +kernel))) rfl, mi_X2_isLate, ml_X2_isLate⟩
theorem m_L_62 : lkV RL 62 yX5_waiting cX5_waiting 2 (some .int) 1 := ⟨mm_X5_waiting, aw (List.mem_append_right _ (List.mem_of_getElem? (i := 490) (by decide +kernel))) rfl, mi_X5_waiting, ml_X5_waiting⟩
theorem m_X5_108 : lkV RX5 108 yX0_waitingAt cX0_waitingAt 4 (some .int) 1 := ⟨mm_X0_waitingAt, aw (List.mem_append_right _ (List.mem_of_getElem? (i := 494) (by decide +kernel))) rfl, mi_X0_waitingAt, ml_X0_waitingAt⟩
theorem m_L_66 : lkV RL 66 yX5_straps cX5_straps 3 (some .int) 2 := ⟨mm_X5_straps, aw (List.mem_append_right _ (List.mem_of_getElem? (i := 498) (by decide +kernel))) rfl, mi_X5_straps, ml_X5_straps⟩
theorem m_L_70 : lkV RL 70 yX5_count cX5_count 2 (some .int) 1 := ⟨mm_X5_count, aw (List.mem_append_right _ (List.mem_of_getElem? (i := 502) (by decide +kernel))) rfl, mi_X5_count, ml_X5_count⟩
theorem m_X5_127 : lkV RX5 127 yX0_tellCount cX0_tellCount 2 (some .int) 1 := ⟨mm_X0_tellCount, aw (List.mem_append_right _ (List.mem_of_getElem? (i := 506) (by decide +kernel))) rfl, mi_X0_tellCount, ml_X0_tellCount⟩
theorem m_X0_232 : lkV RX0 232 yX0_jobsInState cX0_jobsInState 4 (some .int) 1 := ⟨mm_X0_jobsInState, aw (List.mem_append_right _ (List.mem_of_getElem? (i := 510) (by decide +kernel))) rfl, mi_X0_jobsInState, ml_X0_jobsInState⟩
theorem m_X0_235 : lkV RX0 235 yX0_lateJobs cX0_lateJobs 3 (some .int) 0 := ⟨mm_X0_lateJobs, aw (List.mem_append_right _ (List.mem_of_getElem? (i := 514) (by decide +kernel))) rfl, mi_X0_lateJobs, ml_X0_lateJobs⟩
theorem m_L_74 : lkV RL 74 yX5_why cX5_why 4 (some .int) 3 := ⟨mm_X5_why, aw (List.mem_append_right _ (List.mem_of_getElem? (i := 518) (by decide +kernel))) rfl, mi_X5_why, ml_X5_why⟩
theorem m_X5_130 : lkV RX5 130 yX0_whyNot cX0_whyNot 4 (some .int) 3 := ⟨mm_X0_whyNot, aw (List.mem_append_right _ (List.mem_of_getElem? (i := 522) (by decide +kernel))) rfl, mi_X0_whyNot, ml_X0_whyNot⟩
theorem m_L_78 : lkV RL 78 yX5_crew cX5_crew 3 (some .int) 2 := ⟨mm_X5_crew, aw (List.mem_append_right _ (List.mem_of_getElem? (i := 523) (by decide +kernel))) rfl, mi_X5_crew, ml_X5_crew⟩
theorem m_X5_133 : lkS RX5 133 yX5_isKindOrNone cX5_isKindOrNone 1 (some .boolean) 1 := ⟨mm_X5_isKindOrNone, aw (List.mem_append_right _ (List.mem_of_getElem? (i := 527) (by decide +kernel))) rfl, ms_X5_isKindOrNone⟩
theorem m_X5_141 : lkV RX5 141 yX0_crewByItself cX0_crewByItself 9 (some .int) 2 := ⟨mm_X0_crewByItself, aw (List.mem_append_right _ (List.mem_of_getElem? (i := 528) (by decide +kernel))) rfl, mi_X0_crewByItself, ml_X0_crewByItself⟩
theorem m_L_82 : lkV RL 82 yX5_bestStraps cX5_bestStraps 2 (some .int) 1 := ⟨mm_X5_bestStraps, aw (List.mem_append_right _ (List.mem_of_getElem? (i := 529) (by decide +kernel))) rfl, mi_X5_bestStraps, ml_X5_bestStraps⟩
theorem m_X5_144 : lkV RX5 144 yX0_fewestPeopleStraps cX0_fewestPeopleStraps 6 (some .int) 1 := ⟨mm_X0_fewestPeopleStraps, aw (List.mem_append_right _ (List.mem_of_getElem? (i := 533) (by decide +kernel))) rfl, mi_X0_fewestPeopleStraps, ml_X0_fewestPeopleStraps⟩
theorem m_L_86 : lkV RL 86 yX5_doneIn cX5_doneIn 3 (some .int) 1 := ⟨mm_X5_doneIn, aw (List.mem_append_right _ (List.mem_of_getElem? (i := 534) (by decide +kernel))) rfl, mi_X5_doneIn, ml_X5_doneIn⟩
theorem m_X5_148 : lkV RX5 148 yX0_copyFrom cX0_copyFrom 3 none 1 := ⟨mm_X0_copyFrom, aw (List.mem_append_right _ (List.mem_of_getElem? (i := 538) (by decide +kernel))) rfl, mi_X0_copyFrom, ml_X0_copyFrom⟩
theorem m_X5_151 : lkV RX5 151 yX0_workOneHour cX0_workOneHour 3 (some .boolean) 1 := ⟨mm_X0_workOneHour, aw (List.mem_append_right _ (List.mem_of_getElem? (i := 539) (by decide +kernel))) rfl, mi_X0_workOneHour, ml_X0_workOneHour⟩
theorem m_L_90 : lkV RL 90 yX5_ifAssigned cX5_ifAssigned 1 (some .int) 0 := ⟨mm_X5_ifAssigned, aw (List.mem_append_right _ (List.mem_of_getElem? (i := 540) (by decide +kernel))) rfl, mi_X5_ifAssigned, ml_X5_ifAssigned⟩
theorem m_L_96 : lkV RL 96 yX5_put cX5_put 3 (some .int) 1 := ⟨mm_X5_put, aw (List.mem_append_right _ (List.mem_of_getElem? (i := 544) (by decide +kernel))) rfl, mi_X5_put, ml_X5_put⟩
theorem m_X5_155 : lkV RX5 155 yX3_append cX3_append 5 (some .int) 1 := ⟨mm_X3_append, aw (List.mem_append_right _ (List.mem_of_getElem? (i := 548) (by decide +kernel))) rfl, mi_X3_append, ml_X3_append⟩
theorem m_X3_18 : lkS RX3 18 yX3_signsIn cX3_signsIn 4 (some .int) 1 := ⟨mm_X3_signsIn, aw (List.mem_append_right _ (List.mem_of_getElem? (i := 552) (by decide +kernel))) rfl, ms_X3_signsIn⟩
theorem m_X3_26 : lkS RX3 26 yX3_signOf cX3_signOf 3 (some .int) 2 := ⟨mm_X3_signOf, aw (List.mem_append_right _ (List.mem_of_getElem? (i := 555) (by decide +kernel))) rfl, ms_X3_signOf⟩
theorem m_L_101 : lkV RL 101 yX5_wipe cX5_wipe 1 (some .int) 0 := ⟨mm_X5_wipe, aw (List.mem_append_right _ (List.mem_of_getElem? (i := 559) (by decide +kernel))) rfl, mi_X5_wipe, ml_X5_wipe⟩
theorem m_X5_159 : lkV RX5 159 yX3_empty cX3_empty 2 (some .int) 0 := ⟨mm_X3_empty, aw (List.mem_append_right _ (List.mem_of_getElem? (i := 563) (by decide +kernel))) rfl, mi_X3_empty, ml_X3_empty⟩
theorem m_L_105 : lkV RL 105 yX5_fault cX5_fault 1 (some .int) 0 := ⟨mm_X5_fault, aw (List.mem_append_right _ (List.mem_of_getElem? (i := 567) (by decide +kernel))) rfl, mi_X5_fault, ml_X5_fault⟩
theorem m_X5_162 : lkV RX5 162 yX3_findFault cX3_findFault 2 (some .int) 0 := ⟨mm_X3_findFault, aw (List.mem_append_right _ (List.mem_of_getElem? (i := 571) (by decide +kernel))) rfl, mi_X3_findFault, ml_X3_findFault⟩
theorem m_X3_40 : lkV RX3 40 yX3_startReading cX3_startReading 1 none 0 := ⟨mm_X3_startReading, aw (List.mem_append_right _ (List.mem_of_getElem? (i := 575) (by decide +kernel))) rfl, mi_X3_startReading, ml_X3_startReading⟩
theorem m_X3_43 : lkV RX3 43 yX3_readOrder cX3_readOrder 1 (some .boolean) 0 := ⟨mm_X3_readOrder, aw (List.mem_append_right _ (List.mem_of_getElem? (i := 579) (by decide +kernel))) rfl, mi_X3_readOrder, ml_X3_readOrder⟩
theorem m_X3_57 : lkV RX3 57 yX3_signHere cX3_signHere 1 (some .int) 0 := ⟨mm_X3_signHere, aw (List.mem_append_right _ (List.mem_of_getElem? (i := 583) (by decide +kernel))) rfl, mi_X3_signHere, ml_X3_signHere⟩
theorem m_X3_66 : lkV RX3 66 yJ0_indexOf_0f7a4 cJ0_indexOf_0f7a4 2 (some .int) 1 := ⟨mm_J0_indexOf_0f7a4, aw (List.mem_append_right _ (List.mem_of_getElem? (i := 588) (by decide +kernel))) rfl, mi_J0_indexOf_0f7a4, ml_J0_indexOf_0f7a4⟩
theorem m_J0_633 : lkV RJ0 633 yJ0_indexOf_7cf53 cJ0_indexOf_7cf53 3 (some .int) 2 := ⟨mm_J0_indexOf_7cf53, aw (List.mem_append_right _ (List.mem_of_getElem? (i := 592) (by decide +kernel))) rfl, mi_J0_indexOf_7cf53, ml_J0_indexOf_7cf53⟩
theorem m_J0_492 : lkV RJ0 492 yJ0_isLatin1_aae02 cJ0_isLatin1_aae02 1 (some .boolean) 0 := ⟨mm_J0_isLatin1_aae02, aw (List.mem_append_right _ (List.mem_of_getElem? (i := 596) (by decide +kernel))) rfl, mi_J0_isLatin1_aae02, ml_J0_isLatin1_aae02⟩
theorem m_J0_505 : lkV RJ0 505 yJ0_length_8abf5 cJ0_length_8abf5 1 (some .int) 0 := ⟨mm_J0_length_8abf5, aw (List.mem_append_right _ (List.mem_of_getElem? (i := 602) (by decide +kernel))) rfl, mi_J0_length_8abf5, ml_J0_length_8abf5⟩
theorem m_J0_335 : lkV RJ0 335 yJ0_coder_7d493 cJ0_coder_7d493 1 (some .byte) 0 := ⟨mm_J0_coder_7d493, aw (List.mem_append_right _ (List.mem_of_getElem? (i := 606) (by decide +kernel))) rfl, mi_J0_coder_7d493, ml_J0_coder_7d493⟩
theorem m_J0_637 : lkS RJ0 637 yJ1_indexOf_4cfef cJ1_indexOf_4cfef 4 (some .int) 4 := ⟨mm_J1_indexOf_4cfef, aw (List.mem_append_right _ (List.mem_of_getElem? (i := 610) (by decide +kernel))) rfl, ms_J1_indexOf_4cfef⟩
theorem m_J1_88 : lkS RJ1 88 yJ1_canEncode_9a6ad cJ1_canEncode_9a6ad 1 (some .boolean) 1 := ⟨mm_J1_canEncode_9a6ad, aw (List.mem_append_right _ (List.mem_of_getElem? (i := 613) (by decide +kernel))) rfl, ms_J1_canEncode_9a6ad⟩
theorem mth_J1_92 : Cond.methodLink RJ1 92 Lib.Math.max.name ∈ allw := aw (List.mem_append_right _ (List.mem_of_getElem? (i := 616) (by decide +kernel))) rfl
theorem mth_J1_38 : Cond.methodLink RJ1 38 Lib.Math.min.name ∈ allw := aw (List.mem_append_right _ (List.mem_of_getElem? (i := 617) (by decide +kernel))) rfl
theorem m_J1_95 : lkS RJ1 95 yJ1_indexOfChar_4cfef cJ1_indexOfChar_4cfef 6 (some .int) 4 := ⟨mm_J1_indexOfChar_4cfef, aw (List.mem_append_right _ (List.mem_of_getElem? (i := 618) (by decide +kernel))) rfl, ms_J1_indexOfChar_4cfef⟩
theorem m_X3_72 : lkS RX3 72 yX3_formOf cX3_formOf 1 (some (.object "java/lang/String")) 1 := ⟨mm_X3_formOf, aw (List.mem_append_right _ (List.mem_of_getElem? (i := 670) (by decide +kernel))) rfl, ms_X3_formOf⟩
theorem m_X3_76 : lkV RX3 76 yX3_readForm cX3_readForm 5 (some .boolean) 1 := ⟨mm_X3_readForm, aw (List.mem_append_right _ (List.mem_of_getElem? (i := 678) (by decide +kernel))) rfl, mi_X3_readForm, ml_X3_readForm⟩
theorem m_X3_93 : lkV RX3 93 yJ0_length_8abf5 cJ0_length_8abf5 1 (some .int) 0 := ⟨mm_J0_length_8abf5, aw (List.mem_append_right _ (List.mem_of_getElem? (i := 682) (by decide +kernel))) rfl, mi_J0_length_8abf5, ml_J0_length_8abf5⟩
theorem m_X3_95 : lkV RX3 95 yJ0_charAt_5068e cJ0_charAt_5068e 2 (some .char) 1 := ⟨mm_J0_charAt_5068e, aw (List.mem_append_right _ (List.mem_of_getElem? (i := 683) (by decide +kernel))) rfl, mi_J0_charAt_5068e, ml_J0_charAt_5068e⟩
theorem m_J0_495 : lkS RJ0 495 yJ1_charAt_3b067 cJ1_charAt_3b067 2 (some .char) 2 := ⟨mm_J1_charAt_3b067, aw (List.mem_append_right _ (List.mem_of_getElem? (i := 687) (by decide +kernel))) rfl, ms_J1_charAt_3b067⟩
theorem m_J1_9 : lkS RJ1 9 yJ0_checkIndex_df160 cJ0_checkIndex_df160 2 none 2 := ⟨mm_J0_checkIndex_df160, aw (List.mem_append_right _ (List.mem_of_getElem? (i := 690) (by decide +kernel))) rfl, ms_J0_checkIndex_df160⟩
theorem m_J0_1059 : lkS RJ0 1059 yJ3_checkIndex_8e157 cJ3_checkIndex_8e157 3 (some .int) 3 := ⟨mm_J3_checkIndex_8e157, aw (List.mem_append_right _ (List.mem_of_getElem? (i := 693) (by decide +kernel))) rfl, ms_J3_checkIndex_8e157⟩
theorem m_X3_99 : lkV RX3 99 yX3_readNumber cX3_readNumber 4 (some .boolean) 1 := ⟨mm_X3_readNumber, aw (List.mem_append_right _ (List.mem_of_getElem? (i := 703) (by decide +kernel))) rfl, mi_X3_readNumber, ml_X3_readNumber⟩
theorem m_X3_102 : lkV RX3 102 yX3_isDigitHere cX3_isDigitHere 1 (some .boolean) 0 := ⟨mm_X3_isDigitHere, aw (List.mem_append_right _ (List.mem_of_getElem? (i := 707) (by decide +kernel))) rfl, mi_X3_isDigitHere, ml_X3_isDigitHere⟩
theorem m_X3_105 : lkV RX3 105 yX3_takeDigit cX3_takeDigit 2 (some .int) 0 := ⟨mm_X3_takeDigit, aw (List.mem_append_right _ (List.mem_of_getElem? (i := 711) (by decide +kernel))) rfl, mi_X3_takeDigit, ml_X3_takeDigit⟩
theorem m_X3_47 : lkV RX3 47 yX3_skip cX3_skip 2 (some .boolean) 1 := ⟨mm_X3_skip, aw (List.mem_append_right _ (List.mem_of_getElem? (i := 715) (by decide +kernel))) rfl, mi_X3_skip, ml_X3_skip⟩
theorem m_X3_80 : lkV RX3 80 yX3_readCrew cX3_readCrew 2 (some .boolean) 0 := ⟨mm_X3_readCrew, aw (List.mem_append_right _ (List.mem_of_getElem? (i := 719) (by decide +kernel))) rfl, mi_X3_readCrew, ml_X3_readCrew⟩
theorem m_L_109 : lkV RL 109 yX5_carryOut cX5_carryOut 2 (some .int) 0 := ⟨mm_X5_carryOut, aw (List.mem_append_right _ (List.mem_of_getElem? (i := 724) (by decide +kernel))) rfl, mi_X5_carryOut, ml_X5_carryOut⟩
theorem m_X5_165 : lkV RX5 165 yX3_startReading cX3_startReading 1 none 0 := ⟨mm_X3_startReading, aw (List.mem_append_right _ (List.mem_of_getElem? (i := 728) (by decide +kernel))) rfl, mi_X3_startReading, ml_X3_startReading⟩
theorem m_X5_168 : lkV RX5 168 yX3_readOrder cX3_readOrder 1 (some .boolean) 0 := ⟨mm_X3_readOrder, aw (List.mem_append_right _ (List.mem_of_getElem? (i := 729) (by decide +kernel))) rfl, mi_X3_readOrder, ml_X3_readOrder⟩
theorem m_X5_172 : lkV RX5 172 yX5_obeyOrder cX5_obeyOrder 2 (some .int) 0 := ⟨mm_X5_obeyOrder, aw (List.mem_append_right _ (List.mem_of_getElem? (i := 730) (by decide +kernel))) rfl, mi_X5_obeyOrder, ml_X5_obeyOrder⟩
theorem m_X5_178 : lkV RX5 178 yX3_number cX3_number 2 (some .int) 1 := ⟨mm_X3_number, aw (List.mem_append_right _ (List.mem_of_getElem? (i := 734) (by decide +kernel))) rfl, mi_X3_number, ml_X3_number⟩
theorem m_X5_175 : lkV RX5 175 yX3_skip cX3_skip 2 (some .boolean) 1 := ⟨mm_X3_skip, aw (List.mem_append_right _ (List.mem_of_getElem? (i := 738) (by decide +kernel))) rfl, mi_X3_skip, ml_X3_skip⟩
theorem m_L_113 : lkV RL 113 yX5_undo cX5_undo 1 (some .int) 0 := ⟨mm_X5_undo, aw (List.mem_append_right _ (List.mem_of_getElem? (i := 739) (by decide +kernel))) rfl, mi_X5_undo, ml_X5_undo⟩
theorem m_X5_190 : lkV RX5 190 yX1_takeBack cX1_takeBack 2 (some .int) 1 := ⟨mm_X1_takeBack, aw (List.mem_append_right _ (List.mem_of_getElem? (i := 743) (by decide +kernel))) rfl, mi_X1_takeBack, ml_X1_takeBack⟩
theorem m_L_117 : lkV RL 117 yX5_save cX5_save 2 (some .int) 1 := ⟨mm_X5_save, aw (List.mem_append_right _ (List.mem_of_getElem? (i := 747) (by decide +kernel))) rfl, mi_X5_save, ml_X5_save⟩
theorem m_X5_194 : lkS RX5 194 yX5_isSlot cX5_isSlot 1 (some .boolean) 1 := ⟨mm_X5_isSlot, aw (List.mem_append_right _ (List.mem_of_getElem? (i := 751) (by decide +kernel))) rfl, ms_X5_isSlot⟩
theorem m_X5_200 : lkS RX5 200 yX5_isWithin cX5_isWithin 3 (some .boolean) 3 := ⟨mm_X5_isWithin, aw (List.mem_append_right _ (List.mem_of_getElem? (i := 754) (by decide +kernel))) rfl, ms_X5_isWithin⟩
theorem m_L_121 : lkV RL 121 yX5_restore cX5_restore 2 (some .int) 1 := ⟨mm_X5_restore, aw (List.mem_append_right _ (List.mem_of_getElem? (i := 755) (by decide +kernel))) rfl, mi_X5_restore, ml_X5_restore⟩
theorem m_L_12 : lkI RL 12 yX6_init cX6_init 2 0 := ⟨mm_X6_init, aw (List.mem_append_right _ (List.mem_of_getElem? (i := 761) (by decide +kernel))) rfl, mi_X6_init, rfl⟩
theorem oi_X6_1 : Cond.methodLink RX6 1 objectInit ∈ allw := aw (by decide +kernel) rfl
theorem m_L_17 : lkV RL 17 yX6_set cX6_set 4 (some .int) 2 := ⟨mm_X6_set, aw (List.mem_append_right _ (List.mem_of_getElem? (i := 805) (by decide +kernel))) rfl, mi_X6_set, ml_X6_set⟩
theorem m_X6_36 : lkS RX6 36 yX6_in cX6_in 3 (some .boolean) 3 := ⟨mm_X6_in, aw (List.mem_append_right _ (List.mem_of_getElem? (i := 809) (by decide +kernel))) rfl, ms_X6_in⟩
theorem m_X6_111 : lkS RX6 111 yX6_leastOf cX6_leastOf 1 (some .int) 1 := ⟨mm_X6_leastOf, aw (List.mem_append_right _ (List.mem_of_getElem? (i := 812) (by decide +kernel))) rfl, ms_X6_leastOf⟩
theorem m_X6_114 : lkS RX6 114 yX6_mostOf cX6_mostOf 1 (some .int) 1 := ⟨mm_X6_mostOf, aw (List.mem_append_right _ (List.mem_of_getElem? (i := 815) (by decide +kernel))) rfl, ms_X6_mostOf⟩
theorem m_X6_117 : lkV RX6 117 yX6_records cX6_records 2 none 0 := ⟨mm_X6_records, aw (List.mem_append_right _ (List.mem_of_getElem? (i := 818) (by decide +kernel))) rfl, mi_X6_records, ml_X6_records⟩
theorem m_L_22 : lkV RL 22 yX6_person cX6_person 3 (some .int) 1 := ⟨mm_X6_person, aw (List.mem_append_right _ (List.mem_of_getElem? (i := 822) (by decide +kernel))) rfl, mi_X6_person, ml_X6_person⟩
theorem m_X6_120 : lkV RX6 120 yX6_refusesPerson cX6_refusesPerson 2 (some .int) 1 := ⟨mm_X6_refusesPerson, aw (List.mem_append_right _ (List.mem_of_getElem? (i := 826) (by decide +kernel))) rfl, mi_X6_refusesPerson, ml_X6_refusesPerson⟩
theorem m_X6_123 : lkV RX6 123 yX6_addsPerson cX6_addsPerson 3 (some .int) 1 := ⟨mm_X6_addsPerson, aw (List.mem_append_right _ (List.mem_of_getElem? (i := 830) (by decide +kernel))) rfl, mi_X6_addsPerson, ml_X6_addsPerson⟩
theorem m_X6_94 : lkV RX6 94 yX6_layPerson cX6_layPerson 4 none 3 := ⟨mm_X6_layPerson, aw (List.mem_append_right _ (List.mem_of_getElem? (i := 834) (by decide +kernel))) rfl, mi_X6_layPerson, ml_X6_layPerson⟩
theorem m_L_26 : lkV RL 26 yX6_buy cX6_buy 2 (some .int) 1 := ⟨mm_X6_buy, aw (List.mem_append_right _ (List.mem_of_getElem? (i := 838) (by decide +kernel))) rfl, mi_X6_buy, ml_X6_buy⟩
theorem m_L_31 : lkV RL 31 yX6_job cX6_job 7 (some .int) 5 := ⟨mm_X6_job, aw (List.mem_append_right _ (List.mem_of_getElem? (i := 842) (by decide +kernel))) rfl, mi_X6_job, ml_X6_job⟩
theorem m_X6_126 : lkV RX6 126 yX6_refusesJob cX6_refusesJob 7 (some .int) 5 := ⟨mm_X6_refusesJob, aw (List.mem_append_right _ (List.mem_of_getElem? (i := 846) (by decide +kernel))) rfl, mi_X6_refusesJob, ml_X6_refusesJob⟩
theorem m_X6_130 : lkV RX6 130 yX6_addsJob cX6_addsJob 7 (some .int) 5 := ⟨mm_X6_addsJob, aw (List.mem_append_right _ (List.mem_of_getElem? (i := 850) (by decide +kernel))) rfl, mi_X6_addsJob, ml_X6_addsJob⟩
theorem m_X6_77 : lkV RX6 77 yX6_lay cX6_lay 4 none 3 := ⟨mm_X6_lay, aw (List.mem_append_right _ (List.mem_of_getElem? (i := 854) (by decide +kernel))) rfl, mi_X6_lay, ml_X6_lay⟩
theorem m_L_36 : lkV RL 36 yX6_begin cX6_begin 5 (some .int) 3 := ⟨mm_X6_begin, aw (List.mem_append_right _ (List.mem_of_getElem? (i := 858) (by decide +kernel))) rfl, mi_X6_begin, ml_X6_begin⟩
theorem m_X6_142 : lkV RX6 142 yX6_refusesBegin cX6_refusesBegin 4 (some .int) 3 := ⟨mm_X6_refusesBegin, aw (List.mem_append_right _ (List.mem_of_getElem? (i := 862) (by decide +kernel))) rfl, mi_X6_refusesBegin, ml_X6_refusesBegin⟩
theorem m_X6_133 : lkV RX6 133 yX6_isJob cX6_isJob 2 (some .boolean) 1 := ⟨mm_X6_isJob, aw (List.mem_append_right _ (List.mem_of_getElem? (i := 866) (by decide +kernel))) rfl, mi_X6_isJob, ml_X6_isJob⟩
theorem m_X6_136 : lkS RX6 136 yX6_isStraps cX6_isStraps 1 (some .boolean) 1 := ⟨mm_X6_isStraps, aw (List.mem_append_right _ (List.mem_of_getElem? (i := 870) (by decide +kernel))) rfl, ms_X6_isStraps⟩
theorem m_X6_139 : lkV RX6 139 yX6_reason cX6_reason 4 (some .int) 3 := ⟨mm_X6_reason, aw (List.mem_append_right _ (List.mem_of_getElem? (i := 873) (by decide +kernel))) rfl, mi_X6_reason, ml_X6_reason⟩
theorem m_X6_43 : lkV RX6 43 yX6_ofJobs cX6_ofJobs 3 (some .int) 2 := ⟨mm_X6_ofJobs, aw (List.mem_append_right _ (List.mem_of_getElem? (i := 877) (by decide +kernel))) rfl, mi_X6_ofJobs, ml_X6_ofJobs⟩
theorem m_X6_54 : lkS RX6 54 yX6_ones cX6_ones 3 (some .int) 1 := ⟨mm_X6_ones, aw (List.mem_append_right _ (List.mem_of_getElem? (i := 881) (by decide +kernel))) rfl, ms_X6_ones⟩
theorem m_X6_57 : lkV RX6 57 yX6_busy cX6_busy 3 (some .int) 0 := ⟨mm_X6_busy, aw (List.mem_append_right _ (List.mem_of_getElem? (i := 884) (by decide +kernel))) rfl, mi_X6_busy, ml_X6_busy⟩
theorem m_X6_61 : lkV RX6 61 yX6_canHave cX6_canHave 3 (some .boolean) 2 := ⟨mm_X6_canHave, aw (List.mem_append_right _ (List.mem_of_getElem? (i := 888) (by decide +kernel))) rfl, mi_X6_canHave, ml_X6_canHave⟩
theorem m_X6_50 : lkV RX6 50 yX6_freeStraps cX6_freeStraps 4 (some .int) 1 := ⟨mm_X6_freeStraps, aw (List.mem_append_right _ (List.mem_of_getElem? (i := 892) (by decide +kernel))) rfl, mi_X6_freeStraps, ml_X6_freeStraps⟩
theorem m_X6_65 : lkV RX6 65 yX6_strength cX6_strength 4 (some .int) 1 := ⟨mm_X6_strength, aw (List.mem_append_right _ (List.mem_of_getElem? (i := 896) (by decide +kernel))) rfl, mi_X6_strength, ml_X6_strength⟩
theorem m_X6_47 : lkV RX6 47 yX6_ofPerson cX6_ofPerson 3 (some .int) 2 := ⟨mm_X6_ofPerson, aw (List.mem_append_right _ (List.mem_of_getElem? (i := 900) (by decide +kernel))) rfl, mi_X6_ofPerson, ml_X6_ofPerson⟩
theorem m_X6_68 : lkV RX6 68 yX6_loadBy cX6_loadBy 5 (some .int) 2 := ⟨mm_X6_loadBy, aw (List.mem_append_right _ (List.mem_of_getElem? (i := 904) (by decide +kernel))) rfl, mi_X6_loadBy, ml_X6_loadBy⟩
theorem m_X6_90 : lkV RX6 90 yX6_begins cX6_begins 5 (some .int) 3 := ⟨mm_X6_begins, aw (List.mem_append_right _ (List.mem_of_getElem? (i := 908) (by decide +kernel))) rfl, mi_X6_begins, ml_X6_begins⟩
theorem m_L_41 : lkV RL 41 yX6_assign cX6_assign 1 (some .int) 0 := ⟨mm_X6_assign, aw (List.mem_append_right _ (List.mem_of_getElem? (i := 912) (by decide +kernel))) rfl, mi_X6_assign, ml_X6_assign⟩
theorem m_X6_145 : lkV RX6 145 yX6_assigns cX6_assigns 6 (some .int) 0 := ⟨mm_X6_assigns, aw (List.mem_append_right _ (List.mem_of_getElem? (i := 916) (by decide +kernel))) rfl, mi_X6_assigns, ml_X6_assigns⟩
theorem m_X6_84 : lkV RX6 84 yX6_waitingAt cX6_waitingAt 7 (some .int) 2 := ⟨mm_X6_waitingAt, aw (List.mem_append_right _ (List.mem_of_getElem? (i := 920) (by decide +kernel))) rfl, mi_X6_waitingAt, ml_X6_waitingAt⟩
theorem m_X6_81 : lkV RX6 81 yX6_isAhead cX6_isAhead 4 (some .boolean) 2 := ⟨mm_X6_isAhead, aw (List.mem_append_right _ (List.mem_of_getElem? (i := 924) (by decide +kernel))) rfl, mi_X6_isAhead, ml_X6_isAhead⟩
theorem m_X6_87 : lkV RX6 87 yX6_strapsFor cX6_strapsFor 7 (some .int) 1 := ⟨mm_X6_strapsFor, aw (List.mem_append_right _ (List.mem_of_getElem? (i := 928) (by decide +kernel))) rfl, mi_X6_strapsFor, ml_X6_strapsFor⟩
theorem m_X6_74 : lkV RX6 74 yX6_crewFor cX6_crewFor 7 (some .int) 2 := ⟨mm_X6_crewFor, aw (List.mem_append_right _ (List.mem_of_getElem? (i := 932) (by decide +kernel))) rfl, mi_X6_crewFor, ml_X6_crewFor⟩
theorem m_X6_71 : lkV RX6 71 yX6_strongestBut cX6_strongestBut 5 (some .int) 1 := ⟨mm_X6_strongestBut, aw (List.mem_append_right _ (List.mem_of_getElem? (i := 936) (by decide +kernel))) rfl, mi_X6_strongestBut, ml_X6_strongestBut⟩
theorem m_L_45 : lkV RL 45 yX6_delay cX6_delay 4 (some .int) 2 := ⟨mm_X6_delay, aw (List.mem_append_right _ (List.mem_of_getElem? (i := 940) (by decide +kernel))) rfl, mi_X6_delay, ml_X6_delay⟩
theorem m_X6_148 : lkV RX6 148 yX6_refusesDelay cX6_refusesDelay 3 (some .int) 2 := ⟨mm_X6_refusesDelay, aw (List.mem_append_right _ (List.mem_of_getElem? (i := 944) (by decide +kernel))) rfl, mi_X6_refusesDelay, ml_X6_refusesDelay⟩
theorem m_X6_151 : lkV RX6 151 yX6_delays cX6_delays 3 (some .int) 2 := ⟨mm_X6_delays, aw (List.mem_append_right _ (List.mem_of_getElem? (i := 948) (by decide +kernel))) rfl, mi_X6_delays, ml_X6_delays⟩
theorem m_L_49 : lkV RL 49 yX6_callOff cX6_callOff 3 (some .int) 1 := ⟨mm_X6_callOff, aw (List.mem_append_right _ (List.mem_of_getElem? (i := 952) (by decide +kernel))) rfl, mi_X6_callOff, ml_X6_callOff⟩
theorem m_X6_154 : lkV RX6 154 yX6_refusesCall cX6_refusesCall 2 (some .int) 1 := ⟨mm_X6_refusesCall, aw (List.mem_append_right _ (List.mem_of_getElem? (i := 956) (by decide +kernel))) rfl, mi_X6_refusesCall, ml_X6_refusesCall⟩
theorem m_X6_157 : lkV RX6 157 yX6_callsOff cX6_callsOff 3 (some .int) 1 := ⟨mm_X6_callsOff, aw (List.mem_append_right _ (List.mem_of_getElem? (i := 960) (by decide +kernel))) rfl, mi_X6_callsOff, ml_X6_callsOff⟩
theorem m_L_53 : lkV RL 53 yX6_pass cX6_pass 3 (some .int) 1 := ⟨mm_X6_pass, aw (List.mem_append_right _ (List.mem_of_getElem? (i := 964) (by decide +kernel))) rfl, mi_X6_pass, ml_X6_pass⟩
theorem m_X6_163 : lkV RX6 163 yX6_refusesHours cX6_refusesHours 2 (some .int) 1 := ⟨mm_X6_refusesHours, aw (List.mem_append_right _ (List.mem_of_getElem? (i := 968) (by decide +kernel))) rfl, mi_X6_refusesHours, ml_X6_refusesHours⟩
theorem m_X6_166 : lkV RX6 166 yX6_passes cX6_passes 4 (some .int) 1 := ⟨mm_X6_passes, aw (List.mem_append_right _ (List.mem_of_getElem? (i := 972) (by decide +kernel))) rfl, mi_X6_passes, ml_X6_passes⟩
theorem m_X6_160 : lkV RX6 160 yX6_goesBy cX6_goesBy 4 (some .int) 0 := ⟨mm_X6_goesBy, aw (List.mem_append_right _ (List.mem_of_getElem? (i := 976) (by decide +kernel))) rfl, mi_X6_goesBy, ml_X6_goesBy⟩
theorem m_X6_107 : lkV RX6 107 yX6_works cX6_works 3 (some .boolean) 1 := ⟨mm_X6_works, aw (List.mem_append_right _ (List.mem_of_getElem? (i := 980) (by decide +kernel))) rfl, mi_X6_works, ml_X6_works⟩
theorem m_X6_97 : lkV RX6 97 yX6_rest cX6_rest 5 none 1 := ⟨mm_X6_rest, aw (List.mem_append_right _ (List.mem_of_getElem? (i := 984) (by decide +kernel))) rfl, mi_X6_rest, ml_X6_rest⟩
theorem m_X6_101 : lkV RX6 101 yX6_carry cX6_carry 4 none 1 := ⟨mm_X6_carry, aw (List.mem_append_right _ (List.mem_of_getElem? (i := 988) (by decide +kernel))) rfl, mi_X6_carry, ml_X6_carry⟩
theorem m_X6_104 : lkV RX6 104 yX6_ends cX6_ends 3 none 1 := ⟨mm_X6_ends, aw (List.mem_append_right _ (List.mem_of_getElem? (i := 992) (by decide +kernel))) rfl, mi_X6_ends, ml_X6_ends⟩
theorem m_L_57 : lkV RL 57 yX6_of cX6_of 3 (some .int) 2 := ⟨mm_X6_of, aw (List.mem_append_right _ (List.mem_of_getElem? (i := 996) (by decide +kernel))) rfl, mi_X6_of, ml_X6_of⟩
theorem m_X6_169 : lkV RX6 169 yX6_jobOf cX6_jobOf 4 (some .int) 1 := ⟨mm_X6_jobOf, aw (List.mem_append_right _ (List.mem_of_getElem? (i := 1000) (by decide +kernel))) rfl, mi_X6_jobOf, ml_X6_jobOf⟩
theorem m_L_61 : lkV RL 61 yX6_ofJob cX6_ofJob 3 (some .int) 2 := ⟨mm_X6_ofJob, aw (List.mem_append_right _ (List.mem_of_getElem? (i := 1004) (by decide +kernel))) rfl, mi_X6_ofJob, ml_X6_ofJob⟩
theorem m_X6_172 : lkV RX6 172 yX6_isLate cX6_isLate 3 (some .boolean) 1 := ⟨mm_X6_isLate, aw (List.mem_append_right _ (List.mem_of_getElem? (i := 1008) (by decide +kernel))) rfl, mi_X6_isLate, ml_X6_isLate⟩
theorem m_L_65 : lkV RL 65 yX6_waiting cX6_waiting 3 (some .int) 1 := ⟨mm_X6_waiting, aw (List.mem_append_right _ (List.mem_of_getElem? (i := 1012) (by decide +kernel))) rfl, mi_X6_waiting, ml_X6_waiting⟩
theorem m_L_69 : lkV RL 69 yX6_straps cX6_straps 3 (some .int) 2 := ⟨mm_X6_straps, aw (List.mem_append_right _ (List.mem_of_getElem? (i := 1016) (by decide +kernel))) rfl, mi_X6_straps, ml_X6_straps⟩
theorem m_L_73 : lkV RL 73 yX6_count cX6_count 2 (some .int) 1 := ⟨mm_X6_count, aw (List.mem_append_right _ (List.mem_of_getElem? (i := 1020) (by decide +kernel))) rfl, mi_X6_count, ml_X6_count⟩
theorem m_X6_175 : lkV RX6 175 yX6_jobsThat cX6_jobsThat 5 (some .int) 1 := ⟨mm_X6_jobsThat, aw (List.mem_append_right _ (List.mem_of_getElem? (i := 1024) (by decide +kernel))) rfl, mi_X6_jobsThat, ml_X6_jobsThat⟩
theorem m_L_77 : lkV RL 77 yX6_why cX6_why 4 (some .int) 3 := ⟨mm_X6_why, aw (List.mem_append_right _ (List.mem_of_getElem? (i := 1028) (by decide +kernel))) rfl, mi_X6_why, ml_X6_why⟩
theorem m_L_81 : lkV RL 81 yX6_crew cX6_crew 3 (some .int) 2 := ⟨mm_X6_crew, aw (List.mem_append_right _ (List.mem_of_getElem? (i := 1032) (by decide +kernel))) rfl, mi_X6_crew, ml_X6_crew⟩
theorem m_L_85 : lkV RL 85 yX6_bestStraps cX6_bestStraps 2 (some .int) 1 := ⟨mm_X6_bestStraps, aw (List.mem_append_right _ (List.mem_of_getElem? (i := 1036) (by decide +kernel))) rfl, mi_X6_bestStraps, ml_X6_bestStraps⟩
theorem m_L_89 : lkV RL 89 yX6_doneIn cX6_doneIn 4 (some .int) 1 := ⟨mm_X6_doneIn, aw (List.mem_append_right _ (List.mem_of_getElem? (i := 1040) (by decide +kernel))) rfl, mi_X6_doneIn, ml_X6_doneIn⟩
theorem m_X6_181 : lkV RX6 181 yX6_putAside cX6_putAside 2 none 0 := ⟨mm_X6_putAside, aw (List.mem_append_right _ (List.mem_of_getElem? (i := 1044) (by decide +kernel))) rfl, mi_X6_putAside, ml_X6_putAside⟩
theorem m_X6_184 : lkV RX6 184 yX6_takeBack cX6_takeBack 2 none 0 := ⟨mm_X6_takeBack, aw (List.mem_append_right _ (List.mem_of_getElem? (i := 1048) (by decide +kernel))) rfl, mi_X6_takeBack, ml_X6_takeBack⟩
theorem m_L_93 : lkV RL 93 yX6_ifAssigned cX6_ifAssigned 2 (some .int) 0 := ⟨mm_X6_ifAssigned, aw (List.mem_append_right _ (List.mem_of_getElem? (i := 1052) (by decide +kernel))) rfl, mi_X6_ifAssigned, ml_X6_ifAssigned⟩
theorem m_L_100 : lkV RL 100 yX6_put cX6_put 8 (some .int) 1 := ⟨mm_X6_put, aw (List.mem_append_right _ (List.mem_of_getElem? (i := 1056) (by decide +kernel))) rfl, mi_X6_put, ml_X6_put⟩
theorem m_L_104 : lkV RL 104 yX6_wipe cX6_wipe 2 (some .int) 0 := ⟨mm_X6_wipe, aw (List.mem_append_right _ (List.mem_of_getElem? (i := 1061) (by decide +kernel))) rfl, mi_X6_wipe, ml_X6_wipe⟩
theorem m_L_108 : lkV RL 108 yX6_fault cX6_fault 1 (some .int) 0 := ⟨mm_X6_fault, aw (List.mem_append_right _ (List.mem_of_getElem? (i := 1065) (by decide +kernel))) rfl, mi_X6_fault, ml_X6_fault⟩
theorem m_X6_223 : lkV RX6 223 yX6_reads cX6_reads 1 (some .int) 0 := ⟨mm_X6_reads, aw (List.mem_append_right _ (List.mem_of_getElem? (i := 1069) (by decide +kernel))) rfl, mi_X6_reads, ml_X6_reads⟩
theorem m_X6_220 : lkV RX6 220 yX6_readsOrder cX6_readsOrder 3 none 0 := ⟨mm_X6_readsOrder, aw (List.mem_append_right _ (List.mem_of_getElem? (i := 1073) (by decide +kernel))) rfl, mi_X6_readsOrder, ml_X6_readsOrder⟩
theorem m_X6_196 : lkV RX6 196 yX6_letter cX6_letter 1 (some .int) 0 := ⟨mm_X6_letter, aw (List.mem_append_right _ (List.mem_of_getElem? (i := 1077) (by decide +kernel))) rfl, mi_X6_letter, ml_X6_letter⟩
theorem m_X6_211 : lkS RX6 211 yX6_isOrder cX6_isOrder 1 (some .boolean) 1 := ⟨mm_X6_isOrder, aw (List.mem_append_right _ (List.mem_of_getElem? (i := 1081) (by decide +kernel))) rfl, ms_X6_isOrder⟩
theorem m_X6_205 : lkV RX6 205 yX6_number cX6_number 2 (some .int) 0 := ⟨mm_X6_number, aw (List.mem_append_right _ (List.mem_of_getElem? (i := 1084) (by decide +kernel))) rfl, mi_X6_number, ml_X6_number⟩
theorem m_X6_199 : lkV RX6 199 yX6_digit cX6_digit 2 (some .int) 0 := ⟨mm_X6_digit, aw (List.mem_append_right _ (List.mem_of_getElem? (i := 1088) (by decide +kernel))) rfl, mi_X6_digit, ml_X6_digit⟩
theorem m_X6_214 : lkV RX6 214 yX6_readsJob cX6_readsJob 3 none 1 := ⟨mm_X6_readsJob, aw (List.mem_append_right _ (List.mem_of_getElem? (i := 1092) (by decide +kernel))) rfl, mi_X6_readsJob, ml_X6_readsJob⟩
theorem m_X6_202 : lkV RX6 202 yX6_wants cX6_wants 2 none 1 := ⟨mm_X6_wants, aw (List.mem_append_right _ (List.mem_of_getElem? (i := 1096) (by decide +kernel))) rfl, mi_X6_wants, ml_X6_wants⟩
theorem m_X6_217 : lkV RX6 217 yX6_readsCrew cX6_readsCrew 3 none 1 := ⟨mm_X6_readsCrew, aw (List.mem_append_right _ (List.mem_of_getElem? (i := 1100) (by decide +kernel))) rfl, mi_X6_readsCrew, ml_X6_readsCrew⟩
theorem m_L_112 : lkV RL 112 yX6_carryOut cX6_carryOut 2 (some .int) 0 := ⟨mm_X6_carryOut, aw (List.mem_append_right _ (List.mem_of_getElem? (i := 1104) (by decide +kernel))) rfl, mi_X6_carryOut, ml_X6_carryOut⟩
theorem m_X6_226 : lkV RX6 226 yX6_refuses cX6_refuses 4 (some .int) 1 := ⟨mm_X6_refuses, aw (List.mem_append_right _ (List.mem_of_getElem? (i := 1108) (by decide +kernel))) rfl, mi_X6_refuses, ml_X6_refuses⟩
theorem m_X6_229 : lkV RX6 229 yX6_does cX6_does 4 none 1 := ⟨mm_X6_does, aw (List.mem_append_right _ (List.mem_of_getElem? (i := 1112) (by decide +kernel))) rfl, mi_X6_does, ml_X6_does⟩
theorem m_L_116 : lkV RL 116 yX6_undo cX6_undo 2 (some .int) 0 := ⟨mm_X6_undo, aw (List.mem_append_right _ (List.mem_of_getElem? (i := 1116) (by decide +kernel))) rfl, mi_X6_undo, ml_X6_undo⟩
theorem m_L_120 : lkV RL 120 yX6_save cX6_save 3 (some .int) 1 := ⟨mm_X6_save, aw (List.mem_append_right _ (List.mem_of_getElem? (i := 1120) (by decide +kernel))) rfl, mi_X6_save, ml_X6_save⟩
theorem m_L_124 : lkV RL 124 yX6_restore cX6_restore 3 (some .int) 1 := ⟨mm_X6_restore, aw (List.mem_append_right _ (List.mem_of_getElem? (i := 1124) (by decide +kernel))) rfl, mi_X6_restore, ml_X6_restore⟩
theorem m_X0_33 : lkIN RX0 33 yX4_init cX4_init 1 0 := ⟨mm_X4_init, (by decide +kernel), mi_X4_init, rfl⟩
theorem m_X0_34 : lkIN RX0 34 yX2_init cX2_init 1 0 := ⟨mm_X2_init, (by decide +kernel), mi_X2_init, rfl⟩
theorem m_X5_36 : lkIN RX5 36 yX3_init cX3_init 1 0 := ⟨mm_X3_init, (by decide +kernel), mi_X3_init, rfl⟩
theorem m_X0_64 : lkSN RX0 64 yX5_isWithin cX5_isWithin 3 (some .boolean) 3 := ⟨mm_X5_isWithin, (by decide +kernel), ms_X5_isWithin⟩
theorem m_X0_78 : lkSN RX0 78 yX5_isKind cX5_isKind 1 (some .boolean) 1 := ⟨mm_X5_isKind, (by decide +kernel), ms_X5_isKind⟩
theorem m_X0_117 : lkSN RX0 117 yX5_isKindOrNone cX5_isKindOrNone 1 (some .boolean) 1 := ⟨mm_X5_isKindOrNone, (by decide +kernel), ms_X5_isKindOrNone⟩
theorem m_X0_101 : lkSN RX0 101 yX5_isIn cX5_isIn 2 (some .boolean) 2 := ⟨mm_X5_isIn, (by decide +kernel), ms_X5_isIn⟩
theorem m_X3_30 : lkSN RX3 30 yX5_isWithin cX5_isWithin 3 (some .boolean) 3 := ⟨mm_X5_isWithin, (by decide +kernel), ms_X5_isWithin⟩
theorem f_X4_9 : lk RX4 9 4 0 := ⟨by decide, by decide, aw (List.mem_append_right _ (List.mem_of_getElem? (i := 39) (by decide +kernel))) rfl⟩
theorem f_X4_15 : lk RX4 15 4 1 := ⟨by decide, by decide, aw (List.mem_append_right _ (List.mem_of_getElem? (i := 40) (by decide +kernel))) rfl⟩
theorem f_X0_105 : lk RX0 105 4 1 := ⟨by decide, by decide, aw (List.mem_append_right _ (List.mem_of_getElem? (i := 41) (by decide +kernel))) rfl⟩
theorem f_X4_18 : lk RX4 18 4 2 := ⟨by decide, by decide, aw (List.mem_append_right _ (List.mem_of_getElem? (i := 42) (by decide +kernel))) rfl⟩
theorem f_X0_98 : lk RX0 98 4 2 := ⟨by decide, by decide, aw (List.mem_append_right _ (List.mem_of_getElem? (i := 43) (by decide +kernel))) rfl⟩
theorem f_X4_21 : lk RX4 21 4 3 := ⟨by decide, by decide, aw (List.mem_append_right _ (List.mem_of_getElem? (i := 44) (by decide +kernel))) rfl⟩
theorem f_X4_24 : lk RX4 24 4 4 := ⟨by decide, by decide, aw (List.mem_append_right _ (List.mem_of_getElem? (i := 45) (by decide +kernel))) rfl⟩
theorem f_X0_216 : lk RX0 216 4 4 := ⟨by decide, by decide, aw (List.mem_append_right _ (List.mem_of_getElem? (i := 46) (by decide +kernel))) rfl⟩
theorem f_X2_9 : lk RX2 9 2 0 := ⟨by decide, by decide, aw (List.mem_append_right _ (List.mem_of_getElem? (i := 64) (by decide +kernel))) rfl⟩
theorem f_X0_85 : lk RX0 85 2 0 := ⟨by decide, by decide, aw (List.mem_append_right _ (List.mem_of_getElem? (i := 65) (by decide +kernel))) rfl⟩
theorem f_X2_15 : lk RX2 15 2 1 := ⟨by decide, by decide, aw (List.mem_append_right _ (List.mem_of_getElem? (i := 66) (by decide +kernel))) rfl⟩
theorem f_X0_88 : lk RX0 88 2 1 := ⟨by decide, by decide, aw (List.mem_append_right _ (List.mem_of_getElem? (i := 67) (by decide +kernel))) rfl⟩
theorem f_X2_18 : lk RX2 18 2 2 := ⟨by decide, by decide, aw (List.mem_append_right _ (List.mem_of_getElem? (i := 68) (by decide +kernel))) rfl⟩
theorem f_X0_200 : lk RX0 200 2 2 := ⟨by decide, by decide, aw (List.mem_append_right _ (List.mem_of_getElem? (i := 69) (by decide +kernel))) rfl⟩
theorem f_X2_21 : lk RX2 21 2 3 := ⟨by decide, by decide, aw (List.mem_append_right _ (List.mem_of_getElem? (i := 70) (by decide +kernel))) rfl⟩
theorem f_X0_219 : lk RX0 219 2 3 := ⟨by decide, by decide, aw (List.mem_append_right _ (List.mem_of_getElem? (i := 71) (by decide +kernel))) rfl⟩
theorem f_X2_24 : lk RX2 24 2 4 := ⟨by decide, by decide, aw (List.mem_append_right _ (List.mem_of_getElem? (i := 72) (by decide +kernel))) rfl⟩
theorem f_X0_222 : lk RX0 222 2 4 := ⟨by decide, by decide, aw (List.mem_append_right _ (List.mem_of_getElem? (i := 73) (by decide +kernel))) rfl⟩
theorem f_X2_27 : lk RX2 27 2 5 := ⟨by decide, by decide, aw (List.mem_append_right _ (List.mem_of_getElem? (i := 74) (by decide +kernel))) rfl⟩
theorem f_X0_120 : lk RX0 120 2 5 := ⟨by decide, by decide, aw (List.mem_append_right _ (List.mem_of_getElem? (i := 75) (by decide +kernel))) rfl⟩
theorem f_X5_136 : lk RX5 136 2 5 := ⟨by decide, by decide, aw (List.mem_append_right _ (List.mem_of_getElem? (i := 76) (by decide +kernel))) rfl⟩
theorem f_X2_30 : lk RX2 30 2 6 := ⟨by decide, by decide, aw (List.mem_append_right _ (List.mem_of_getElem? (i := 77) (by decide +kernel))) rfl⟩
theorem f_X0_154 : lk RX0 154 2 6 := ⟨by decide, by decide, aw (List.mem_append_right _ (List.mem_of_getElem? (i := 78) (by decide +kernel))) rfl⟩
theorem f_X2_33 : lk RX2 33 2 7 := ⟨by decide, by decide, aw (List.mem_append_right _ (List.mem_of_getElem? (i := 79) (by decide +kernel))) rfl⟩
theorem f_X0_157 : lk RX0 157 2 7 := ⟨by decide, by decide, aw (List.mem_append_right _ (List.mem_of_getElem? (i := 80) (by decide +kernel))) rfl⟩
theorem f_X2_36 : lk RX2 36 2 8 := ⟨by decide, by decide, aw (List.mem_append_right _ (List.mem_of_getElem? (i := 81) (by decide +kernel))) rfl⟩
theorem f_X0_160 : lk RX0 160 2 8 := ⟨by decide, by decide, aw (List.mem_append_right _ (List.mem_of_getElem? (i := 82) (by decide +kernel))) rfl⟩
theorem f_X2_39 : lk RX2 39 2 9 := ⟨by decide, by decide, aw (List.mem_append_right _ (List.mem_of_getElem? (i := 83) (by decide +kernel))) rfl⟩
theorem f_X0_183 : lk RX0 183 2 9 := ⟨by decide, by decide, aw (List.mem_append_right _ (List.mem_of_getElem? (i := 84) (by decide +kernel))) rfl⟩
theorem f_X2_42 : lk RX2 42 2 10 := ⟨by decide, by decide, aw (List.mem_append_right _ (List.mem_of_getElem? (i := 85) (by decide +kernel))) rfl⟩
theorem f_X0_199 : lk RX0 199 2 10 := ⟨by decide, by decide, aw (List.mem_append_right _ (List.mem_of_getElem? (i := 86) (by decide +kernel))) rfl⟩
theorem f_X2_45 : lk RX2 45 2 11 := ⟨by decide, by decide, aw (List.mem_append_right _ (List.mem_of_getElem? (i := 87) (by decide +kernel))) rfl⟩
theorem f_X0_207 : lk RX0 207 2 11 := ⟨by decide, by decide, aw (List.mem_append_right _ (List.mem_of_getElem? (i := 88) (by decide +kernel))) rfl⟩
theorem f_X0_9 : lk RX0 9 0 0 := ⟨by decide, by decide, aw (List.mem_append_right _ (List.mem_of_getElem? (i := 114) (by decide +kernel))) rfl⟩
theorem f_X5_88 : lk RX5 88 0 0 := ⟨by decide, by decide, aw (List.mem_append_right _ (List.mem_of_getElem? (i := 115) (by decide +kernel))) rfl⟩
theorem f_X0_15 : lk RX0 15 0 1 := ⟨by decide, by decide, aw (List.mem_append_right _ (List.mem_of_getElem? (i := 116) (by decide +kernel))) rfl⟩
theorem f_X5_114 : lk RX5 114 0 1 := ⟨by decide, by decide, aw (List.mem_append_right _ (List.mem_of_getElem? (i := 117) (by decide +kernel))) rfl⟩
theorem f_X0_18 : lk RX0 18 0 2 := ⟨by decide, by decide, aw (List.mem_append_right _ (List.mem_of_getElem? (i := 118) (by decide +kernel))) rfl⟩
theorem f_X5_117 : lk RX5 117 0 2 := ⟨by decide, by decide, aw (List.mem_append_right _ (List.mem_of_getElem? (i := 119) (by decide +kernel))) rfl⟩
theorem f_X0_23 : lk RX0 23 0 3 := ⟨by decide, by decide, aw (List.mem_append_right _ (List.mem_of_getElem? (i := 120) (by decide +kernel))) rfl⟩
theorem f_X5_84 : lk RX5 84 0 3 := ⟨by decide, by decide, aw (List.mem_append_right _ (List.mem_of_getElem? (i := 121) (by decide +kernel))) rfl⟩
theorem f_X0_29 : lk RX0 29 0 4 := ⟨by decide, by decide, aw (List.mem_append_right _ (List.mem_of_getElem? (i := 122) (by decide +kernel))) rfl⟩
theorem f_X5_100 : lk RX5 100 0 4 := ⟨by decide, by decide, aw (List.mem_append_right _ (List.mem_of_getElem? (i := 123) (by decide +kernel))) rfl⟩
theorem f_X0_41 : lk RX0 41 0 5 := ⟨by decide, by decide, aw (List.mem_append_right _ (List.mem_of_getElem? (i := 124) (by decide +kernel))) rfl⟩
theorem f_X0_45 : lk RX0 45 0 6 := ⟨by decide, by decide, aw (List.mem_append_right _ (List.mem_of_getElem? (i := 125) (by decide +kernel))) rfl⟩
theorem f_X5_197 : lk RX5 197 0 6 := ⟨by decide, by decide, aw (List.mem_append_right _ (List.mem_of_getElem? (i := 126) (by decide +kernel))) rfl⟩
theorem f_X0_48 : lk RX0 48 0 7 := ⟨by decide, by decide, aw (List.mem_append_right _ (List.mem_of_getElem? (i := 127) (by decide +kernel))) rfl⟩
theorem f_X0_51 : lk RX0 51 0 8 := ⟨by decide, by decide, aw (List.mem_append_right _ (List.mem_of_getElem? (i := 128) (by decide +kernel))) rfl⟩
theorem f_X0_54 : lk RX0 54 0 9 := ⟨by decide, by decide, aw (List.mem_append_right _ (List.mem_of_getElem? (i := 129) (by decide +kernel))) rfl⟩
theorem f_X1_13 : lk RX1 13 1 0 := ⟨by decide, by decide, aw (List.mem_append_right _ (List.mem_of_getElem? (i := 160) (by decide +kernel))) rfl⟩
theorem f_X1_30 : lk RX1 30 1 1 := ⟨by decide, by decide, aw (List.mem_append_right _ (List.mem_of_getElem? (i := 161) (by decide +kernel))) rfl⟩
theorem f_X1_18 : lk RX1 18 1 2 := ⟨by decide, by decide, aw (List.mem_append_right _ (List.mem_of_getElem? (i := 162) (by decide +kernel))) rfl⟩
theorem f_X5_124 : lk RX5 124 1 2 := ⟨by decide, by decide, aw (List.mem_append_right _ (List.mem_of_getElem? (i := 163) (by decide +kernel))) rfl⟩
theorem f_X3_9 : lk RX3 9 3 0 := ⟨by decide, by decide, aw (List.mem_append_right _ (List.mem_of_getElem? (i := 178) (by decide +kernel))) rfl⟩
theorem f_X3_15 : lk RX3 15 3 1 := ⟨by decide, by decide, aw (List.mem_append_right _ (List.mem_of_getElem? (i := 179) (by decide +kernel))) rfl⟩
theorem f_X3_37 : lk RX3 37 3 2 := ⟨by decide, by decide, aw (List.mem_append_right _ (List.mem_of_getElem? (i := 180) (by decide +kernel))) rfl⟩
theorem f_X3_34 : lk RX3 34 3 3 := ⟨by decide, by decide, aw (List.mem_append_right _ (List.mem_of_getElem? (i := 181) (by decide +kernel))) rfl⟩
theorem f_X3_22 : lk RX3 22 3 4 := ⟨by decide, by decide, aw (List.mem_append_right _ (List.mem_of_getElem? (i := 182) (by decide +kernel))) rfl⟩
theorem f_X5_120 : lk RX5 120 3 4 := ⟨by decide, by decide, aw (List.mem_append_right _ (List.mem_of_getElem? (i := 183) (by decide +kernel))) rfl⟩
theorem f_X3_61 : lk RX3 61 3 5 := ⟨by decide, by decide, aw (List.mem_append_right _ (List.mem_of_getElem? (i := 184) (by decide +kernel))) rfl⟩
theorem f_X5_181 : lk RX5 181 3 5 := ⟨by decide, by decide, aw (List.mem_append_right _ (List.mem_of_getElem? (i := 185) (by decide +kernel))) rfl⟩
theorem f_X3_51 : lk RX3 51 3 6 := ⟨by decide, by decide, aw (List.mem_append_right _ (List.mem_of_getElem? (i := 186) (by decide +kernel))) rfl⟩
theorem f_X5_184 : lk RX5 184 3 6 := ⟨by decide, by decide, aw (List.mem_append_right _ (List.mem_of_getElem? (i := 187) (by decide +kernel))) rfl⟩
theorem f_X3_54 : lk RX3 54 3 7 := ⟨by decide, by decide, aw (List.mem_append_right _ (List.mem_of_getElem? (i := 188) (by decide +kernel))) rfl⟩
theorem f_X5_187 : lk RX5 187 3 7 := ⟨by decide, by decide, aw (List.mem_append_right _ (List.mem_of_getElem? (i := 189) (by decide +kernel))) rfl⟩
theorem f_X5_10 : lk RX5 10 5 0 := ⟨by decide, by decide, aw (List.mem_append_right _ (List.mem_of_getElem? (i := 207) (by decide +kernel))) rfl⟩
theorem f_X5_16 : lk RX5 16 5 1 := ⟨by decide, by decide, aw (List.mem_append_right _ (List.mem_of_getElem? (i := 208) (by decide +kernel))) rfl⟩
theorem f_X5_19 : lk RX5 19 5 2 := ⟨by decide, by decide, aw (List.mem_append_right _ (List.mem_of_getElem? (i := 209) (by decide +kernel))) rfl⟩
theorem f_X5_23 : lk RX5 23 5 3 := ⟨by decide, by decide, aw (List.mem_append_right _ (List.mem_of_getElem? (i := 210) (by decide +kernel))) rfl⟩
theorem f_X5_30 : lk RX5 30 5 4 := ⟨by decide, by decide, aw (List.mem_append_right _ (List.mem_of_getElem? (i := 211) (by decide +kernel))) rfl⟩
theorem f_X5_37 : lk RX5 37 5 5 := ⟨by decide, by decide, aw (List.mem_append_right _ (List.mem_of_getElem? (i := 212) (by decide +kernel))) rfl⟩
theorem f_X6_32 : lk RX6 32 6 0 := ⟨by decide, by decide, aw (List.mem_append_right _ (List.mem_of_getElem? (i := 765) (by decide +kernel))) rfl⟩
theorem f_X6_7 : lk RX6 7 6 1 := ⟨by decide, by decide, aw (List.mem_append_right _ (List.mem_of_getElem? (i := 766) (by decide +kernel))) rfl⟩
theorem f_X6_13 : lk RX6 13 6 2 := ⟨by decide, by decide, aw (List.mem_append_right _ (List.mem_of_getElem? (i := 767) (by decide +kernel))) rfl⟩
theorem f_X6_16 : lk RX6 16 6 3 := ⟨by decide, by decide, aw (List.mem_append_right _ (List.mem_of_getElem? (i := 768) (by decide +kernel))) rfl⟩
theorem f_X6_40 : lk RX6 40 6 4 := ⟨by decide, by decide, aw (List.mem_append_right _ (List.mem_of_getElem? (i := 769) (by decide +kernel))) rfl⟩
theorem f_X6_19 : lk RX6 19 6 5 := ⟨by decide, by decide, aw (List.mem_append_right _ (List.mem_of_getElem? (i := 770) (by decide +kernel))) rfl⟩
theorem f_X6_22 : lk RX6 22 6 6 := ⟨by decide, by decide, aw (List.mem_append_right _ (List.mem_of_getElem? (i := 771) (by decide +kernel))) rfl⟩
theorem f_X6_26 : lk RX6 26 6 7 := ⟨by decide, by decide, aw (List.mem_append_right _ (List.mem_of_getElem? (i := 772) (by decide +kernel))) rfl⟩
theorem f_X6_178 : lk RX6 178 6 8 := ⟨by decide, by decide, aw (List.mem_append_right _ (List.mem_of_getElem? (i := 773) (by decide +kernel))) rfl⟩
theorem f_X6_189 : lk RX6 189 6 9 := ⟨by decide, by decide, aw (List.mem_append_right _ (List.mem_of_getElem? (i := 774) (by decide +kernel))) rfl⟩
theorem f_X6_192 : lk RX6 192 6 10 := ⟨by decide, by decide, aw (List.mem_append_right _ (List.mem_of_getElem? (i := 775) (by decide +kernel))) rfl⟩
theorem f_X6_29 : lk RX6 29 6 11 := ⟨by decide, by decide, aw (List.mem_append_right _ (List.mem_of_getElem? (i := 776) (by decide +kernel))) rfl⟩
theorem f_X6_208 : lk RX6 208 6 12 := ⟨by decide, by decide, aw (List.mem_append_right _ (List.mem_of_getElem? (i := 777) (by decide +kernel))) rfl⟩
theorem k_L_7 : Cond.classLink RL 7 (clC 5) ∈ allw := aw (List.mem_append_right _ (List.mem_of_getElem? (i := 16) (by decide +kernel))) rfl
theorem k_X5_7 : Cond.classLink RX5 7 (clC 0) ∈ allw := aw (List.mem_append_right _ (List.mem_of_getElem? (i := 24) (by decide +kernel))) rfl
theorem k_X0_21 : Cond.classLink RX0 21 (clC 4) ∈ allw := aw (List.mem_append_right _ (List.mem_of_getElem? (i := 30) (by decide +kernel))) rfl
theorem k_X0_27 : Cond.classLink RX0 27 (clC 2) ∈ allw := aw (List.mem_append_right _ (List.mem_of_getElem? (i := 32) (by decide +kernel))) rfl
theorem k_X5_27 : Cond.classLink RX5 27 (clC 1) ∈ allw := aw (List.mem_append_right _ (List.mem_of_getElem? (i := 152) (by decide +kernel))) rfl
theorem k_X1_11 : Cond.classLink RX1 11 (clC 0) ∈ allw := aw (List.mem_append_right _ (List.mem_of_getElem? (i := 158) (by decide +kernel))) rfl
theorem k_X5_34 : Cond.classLink RX5 34 (clC 3) ∈ allw := aw (List.mem_append_right _ (List.mem_of_getElem? (i := 172) (by decide +kernel))) rfl
theorem k_L_10 : Cond.classLink RL 10 (clC 6) ∈ allw := aw (List.mem_append_right _ (List.mem_of_getElem? (i := 759) (by decide +kernel))) rfl
