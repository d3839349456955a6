theorem w_in (w : Cond) (h : w ∈ lw_tbl) (g : goodWord w = true) : w ∈ allw := aw h g
theorem mm_X5_init : lkM yX5_init cX5_init 2 none 0 := ⟨aw (List.mem_append_right _ (List.mem_of_getElem? (i := 1) (by decide +kernel))) rfl, aw (List.mem_append_right _ (List.mem_of_getElem? (i := 20) (by decide +kernel))) rfl, ⟨by decide +kernel, by decide +kernel, by decide +kernel⟩, by decide⟩
theorem pl_X5_init : plainFor yX5_init = true := by decide +kernel
theorem mi_X5_init : Cond.instanceMethod yX5_init ∈ allw := aw (List.mem_append_right _ (List.mem_of_getElem? (i := 19) (by decide +kernel))) rfl
theorem mm_X0_init : lkM yX0_init cX0_init 2 none 0 := ⟨aw (List.mem_append_right _ (List.mem_of_getElem? (i := 2) (by decide +kernel))) rfl, aw (List.mem_append_right _ (List.mem_of_getElem? (i := 28) (by decide +kernel))) rfl, ⟨by decide +kernel, by decide +kernel, by decide +kernel⟩, by decide⟩
theorem pl_X0_init : plainFor yX0_init = true := by decide +kernel
theorem mi_X0_init : Cond.instanceMethod yX0_init ∈ allw := aw (List.mem_append_right _ (List.mem_of_getElem? (i := 27) (by decide +kernel))) rfl
theorem mm_X4_init : lkM yX4_init cX4_init 1 none 0 := ⟨aw (List.mem_append_right _ (List.mem_of_getElem? (i := 3) (by decide +kernel))) rfl, aw (List.mem_append_right _ (List.mem_of_getElem? (i := 37) (by decide +kernel))) rfl, ⟨by decide +kernel, by decide +kernel, by decide +kernel⟩, by decide⟩
theorem pl_X4_init : plainFor yX4_init = true := by decide +kernel
theorem mi_X4_init : Cond.instanceMethod yX4_init ∈ allw := aw (List.mem_append_right _ (List.mem_of_getElem? (i := 36) (by decide +kernel))) rfl
theorem mm_X2_init : lkM yX2_init cX2_init 1 none 0 := ⟨aw (List.mem_append_right _ (List.mem_of_getElem? (i := 4) (by decide +kernel))) rfl, aw (List.mem_append_right _ (List.mem_of_getElem? (i := 62) (by decide +kernel))) rfl, ⟨by decide +kernel, by decide +kernel, by decide +kernel⟩, by decide⟩
theorem pl_X2_init : plainFor yX2_init = true := by decide +kernel
theorem mi_X2_init : Cond.instanceMethod yX2_init ∈ allw := aw (List.mem_append_right _ (List.mem_of_getElem? (i := 61) (by decide +kernel))) rfl
theorem mm_X1_init : lkM yX1_init cX1_init 2 none 0 := ⟨aw (List.mem_append_right _ (List.mem_of_getElem? (i := 5) (by decide +kernel))) rfl, aw (List.mem_append_right _ (List.mem_of_getElem? (i := 156) (by decide +kernel))) rfl, ⟨by decide +kernel, by decide +kernel, by decide +kernel⟩, by decide⟩
theorem pl_X1_init : plainFor yX1_init = true := by decide +kernel
theorem mi_X1_init : Cond.instanceMethod yX1_init ∈ allw := aw (List.mem_append_right _ (List.mem_of_getElem? (i := 155) (by decide +kernel))) rfl
theorem mm_X3_init : lkM yX3_init cX3_init 1 none 0 := ⟨aw (List.mem_append_right _ (List.mem_of_getElem? (i := 6) (by decide +kernel))) rfl, aw (List.mem_append_right _ (List.mem_of_getElem? (i := 176) (by decide +kernel))) rfl, ⟨by decide +kernel, by decide +kernel, by decide +kernel⟩, by decide⟩
theorem pl_X3_init : plainFor yX3_init = true := by decide +kernel
theorem mi_X3_init : Cond.instanceMethod yX3_init ∈ allw := aw (List.mem_append_right _ (List.mem_of_getElem? (i := 175) (by decide +kernel))) rfl
theorem mm_X5_set : lkM yX5_set cX5_set 3 (some .int) 2 := ⟨aw (List.mem_append_right _ (List.mem_of_getElem? (i := 1) (by decide +kernel))) rfl, aw (List.mem_append_right _ (List.mem_of_getElem? (i := 229) (by decide +kernel))) rfl, ⟨by decide +kernel, by decide +kernel, by decide +kernel⟩, by decide⟩
theorem pl_X5_set : plainFor yX5_set = true := by decide +kernel
theorem mi_X5_set : Cond.instanceMethod yX5_set ∈ allw := aw (List.mem_append_right _ (List.mem_of_getElem? (i := 227) (by decide +kernel))) rfl
theorem ml_X5_set : Cond.selects yX5_set.cls yX5_set yX5_set ∈ allw := aw (List.mem_append_right _ (List.mem_of_getElem? (i := 228) (by decide +kernel))) rfl
theorem mm_X1_note : lkM yX1_note cX1_note 2 none 1 := ⟨aw (List.mem_append_right _ (List.mem_of_getElem? (i := 5) (by decide +kernel))) rfl, aw (List.mem_append_right _ (List.mem_of_getElem? (i := 233) (by decide +kernel))) rfl, ⟨by decide +kernel, by decide +kernel, by decide +kernel⟩, by decide⟩
theorem pl_X1_note : plainFor yX1_note = true := by decide +kernel
theorem mi_X1_note : Cond.instanceMethod yX1_note ∈ allw := aw (List.mem_append_right _ (List.mem_of_getElem? (i := 231) (by decide +kernel))) rfl
theorem ml_X1_note : Cond.selects yX1_note.cls yX1_note yX1_note ∈ allw := aw (List.mem_append_right _ (List.mem_of_getElem? (i := 232) (by decide +kernel))) rfl
theorem mm_X1_row : lkM yX1_row cX1_row 2 (some .int) 1 := ⟨aw (List.mem_append_right _ (List.mem_of_getElem? (i := 5) (by decide +kernel))) rfl, aw (List.mem_append_right _ (List.mem_of_getElem? (i := 237) (by decide +kernel))) rfl, ⟨by decide +kernel, by decide +kernel, by decide +kernel⟩, by decide⟩
theorem pl_X1_row : plainFor yX1_row = true := by decide +kernel
theorem mi_X1_row : Cond.instanceMethod yX1_row ∈ allw := aw (List.mem_append_right _ (List.mem_of_getElem? (i := 236) (by decide +kernel))) rfl
theorem ml_X1_row : Cond.selects yX1_row.cls yX1_row yX1_row ∈ allw := aw (List.mem_append_left _ (List.mem_of_getElem? (i := 0) (by decide +kernel))) rfl
theorem mm_J9_floorMod_7cf53 : lkM yJ9_floorMod_7cf53 cJ9_floorMod_7cf53 3 (some .int) 2 := ⟨aw (List.mem_append_right _ (List.mem_of_getElem? (i := 8) (by decide +kernel))) rfl, aw (List.mem_append_right _ (List.mem_of_getElem? (i := 240) (by decide +kernel))) rfl, ⟨by decide +kernel, by decide +kernel, by decide +kernel⟩, by decide⟩
theorem pl_J9_floorMod_7cf53 : plainFor yJ9_floorMod_7cf53 = true := by decide +kernel
theorem ms_J9_floorMod_7cf53 : Cond.static yJ9_floorMod_7cf53 ∈ allw := aw (List.mem_append_right _ (List.mem_of_getElem? (i := 239) (by decide +kernel))) rfl
theorem mm_X0_copyFrom : lkM yX0_copyFrom cX0_copyFrom 3 none 1 := ⟨aw (List.mem_append_right _ (List.mem_of_getElem? (i := 2) (by decide +kernel))) rfl, aw (List.mem_append_right _ (List.mem_of_getElem? (i := 244) (by decide +kernel))) rfl, ⟨by decide +kernel, by decide +kernel, by decide +kernel⟩, by decide⟩
theorem pl_X0_copyFrom : plainFor yX0_copyFrom = true := by decide +kernel
theorem mi_X0_copyFrom : Cond.instanceMethod yX0_copyFrom ∈ allw := aw (List.mem_append_right _ (List.mem_of_getElem? (i := 242) (by decide +kernel))) rfl
theorem ml_X0_copyFrom : Cond.selects yX0_copyFrom.cls yX0_copyFrom yX0_copyFrom ∈ allw := aw (List.mem_append_right _ (List.mem_of_getElem? (i := 243) (by decide +kernel))) rfl
theorem mm_X4_copyFrom : lkM yX4_copyFrom cX4_copyFrom 2 none 1 := ⟨aw (List.mem_append_right _ (List.mem_of_getElem? (i := 3) (by decide +kernel))) rfl, aw (List.mem_append_right _ (List.mem_of_getElem? (i := 251) (by decide +kernel))) rfl, ⟨by decide +kernel, by decide +kernel, by decide +kernel⟩, by decide⟩
theorem pl_X4_copyFrom : plainFor yX4_copyFrom = true := by decide +kernel
theorem mi_X4_copyFrom : Cond.instanceMethod yX4_copyFrom ∈ allw := aw (List.mem_append_right _ (List.mem_of_getElem? (i := 249) (by decide +kernel))) rfl
theorem ml_X4_copyFrom : Cond.selects yX4_copyFrom.cls yX4_copyFrom yX4_copyFrom ∈ allw := aw (List.mem_append_right _ (List.mem_of_getElem? (i := 250) (by decide +kernel))) rfl
theorem mm_X2_copyFrom : lkM yX2_copyFrom cX2_copyFrom 2 none 1 := ⟨aw (List.mem_append_right _ (List.mem_of_getElem? (i := 4) (by decide +kernel))) rfl, aw (List.mem_append_right _ (List.mem_of_getElem? (i := 255) (by decide +kernel))) rfl, ⟨by decide +kernel, by decide +kernel, by decide +kernel⟩, by decide⟩
theorem pl_X2_copyFrom : plainFor yX2_copyFrom = true := by decide +kernel
theorem mi_X2_copyFrom : Cond.instanceMethod yX2_copyFrom ∈ allw := aw (List.mem_append_right _ (List.mem_of_getElem? (i := 253) (by decide +kernel))) rfl
theorem ml_X2_copyFrom : Cond.selects yX2_copyFrom.cls yX2_copyFrom yX2_copyFrom ∈ allw := aw (List.mem_append_right _ (List.mem_of_getElem? (i := 254) (by decide +kernel))) rfl
theorem mm_X0_changeSetting : lkM yX0_changeSetting cX0_changeSetting 4 (some .int) 2 := ⟨aw (List.mem_append_right _ (List.mem_of_getElem? (i := 2) (by decide +kernel))) rfl, aw (List.mem_append_right _ (List.mem_of_getElem? (i := 259) (by decide +kernel))) rfl, ⟨by decide +kernel, by decide +kernel, by decide +kernel⟩, by decide⟩
theorem pl_X0_changeSetting : plainFor yX0_changeSetting = true := by decide +kernel
theorem mi_X0_changeSetting : Cond.instanceMethod yX0_changeSetting ∈ allw := aw (List.mem_append_right _ (List.mem_of_getElem? (i := 257) (by decide +kernel))) rfl
theorem ml_X0_changeSetting : Cond.selects yX0_changeSetting.cls yX0_changeSetting yX0_changeSetting ∈ allw := aw (List.mem_append_right _ (List.mem_of_getElem? (i := 258) (by decide +kernel))) rfl
theorem mm_X5_isWithin : lkM yX5_isWithin cX5_isWithin 3 (some .boolean) 3 := ⟨aw (List.mem_append_right _ (List.mem_of_getElem? (i := 1) (by decide +kernel))) rfl, aw (List.mem_append_right _ (List.mem_of_getElem? (i := 262) (by decide +kernel))) rfl, ⟨by decide +kernel, by decide +kernel, by decide +kernel⟩, by decide⟩
theorem pl_X5_isWithin : plainFor yX5_isWithin = true := by decide +kernel
theorem ms_X5_isWithin : Cond.static yX5_isWithin ∈ allw := aw (List.mem_append_right _ (List.mem_of_getElem? (i := 261) (by decide +kernel))) rfl
theorem mm_X1_keepUnlessError : lkM yX1_keepUnlessError cX1_keepUnlessError 2 (some .int) 1 := ⟨aw (List.mem_append_right _ (List.mem_of_getElem? (i := 5) (by decide +kernel))) rfl, aw (List.mem_append_right _ (List.mem_of_getElem? (i := 270) (by decide +kernel))) rfl, ⟨by decide +kernel, by decide +kernel, by decide +kernel⟩, by decide⟩
theorem pl_X1_keepUnlessError : plainFor yX1_keepUnlessError = true := by decide +kernel
theorem mi_X1_keepUnlessError : Cond.instanceMethod yX1_keepUnlessError ∈ allw := aw (List.mem_append_right _ (List.mem_of_getElem? (i := 268) (by decide +kernel))) rfl
theorem ml_X1_keepUnlessError : Cond.selects yX1_keepUnlessError.cls yX1_keepUnlessError yX1_keepUnlessError ∈ allw := aw (List.mem_append_right _ (List.mem_of_getElem? (i := 269) (by decide +kernel))) rfl
theorem mm_X5_person : lkM yX5_person cX5_person 2 (some .int) 1 := ⟨aw (List.mem_append_right _ (List.mem_of_getElem? (i := 1) (by decide +kernel))) rfl, aw (List.mem_append_right _ (List.mem_of_getElem? (i := 274) (by decide +kernel))) rfl, ⟨by decide +kernel, by decide +kernel, by decide +kernel⟩, by decide⟩
theorem pl_X5_person : plainFor yX5_person = true := by decide +kernel
theorem mi_X5_person : Cond.instanceMethod yX5_person ∈ allw := aw (List.mem_append_right _ (List.mem_of_getElem? (i := 272) (by decide +kernel))) rfl
theorem ml_X5_person : Cond.selects yX5_person.cls yX5_person yX5_person ∈ allw := aw (List.mem_append_right _ (List.mem_of_getElem? (i := 273) (by decide +kernel))) rfl
theorem mm_X0_addPerson : lkM yX0_addPerson cX0_addPerson 2 (some .int) 1 := ⟨aw (List.mem_append_right _ (List.mem_of_getElem? (i := 2) (by decide +kernel))) rfl, aw (List.mem_append_right _ (List.mem_of_getElem? (i := 278) (by decide +kernel))) rfl, ⟨by decide +kernel, by decide +kernel, by decide +kernel⟩, by decide⟩
theorem pl_X0_addPerson : plainFor yX0_addPerson = true := by decide +kernel
theorem mi_X0_addPerson : Cond.instanceMethod yX0_addPerson ∈ allw := aw (List.mem_append_right _ (List.mem_of_getElem? (i := 276) (by decide +kernel))) rfl
theorem ml_X0_addPerson : Cond.selects yX0_addPerson.cls yX0_addPerson yX0_addPerson ∈ allw := aw (List.mem_append_right _ (List.mem_of_getElem? (i := 277) (by decide +kernel))) rfl
theorem mm_X4_come : lkM yX4_come cX4_come 2 none 1 := ⟨aw (List.mem_append_right _ (List.mem_of_getElem? (i := 3) (by decide +kernel))) rfl, aw (List.mem_append_right _ (List.mem_of_getElem? (i := 282) (by decide +kernel))) rfl, ⟨by decide +kernel, by decide +kernel, by decide +kernel⟩, by decide⟩
theorem pl_X4_come : plainFor yX4_come = true := by decide +kernel
theorem mi_X4_come : Cond.instanceMethod yX4_come ∈ allw := aw (List.mem_append_right _ (List.mem_of_getElem? (i := 280) (by decide +kernel))) rfl
theorem ml_X4_come : Cond.selects yX4_come.cls yX4_come yX4_come ∈ allw := aw (List.mem_append_right _ (List.mem_of_getElem? (i := 281) (by decide +kernel))) rfl
theorem mm_X5_buy : lkM yX5_buy cX5_buy 2 (some .int) 1 := ⟨aw (List.mem_append_right _ (List.mem_of_getElem? (i := 1) (by decide +kernel))) rfl, aw (List.mem_append_right _ (List.mem_of_getElem? (i := 286) (by decide +kernel))) rfl, ⟨by decide +kernel, by decide +kernel, by decide +kernel⟩, by decide⟩
theorem pl_X5_buy : plainFor yX5_buy = true := by decide +kernel
theorem mi_X5_buy : Cond.instanceMethod yX5_buy ∈ allw := aw (List.mem_append_right _ (List.mem_of_getElem? (i := 284) (by decide +kernel))) rfl
theorem ml_X5_buy : Cond.selects yX5_buy.cls yX5_buy yX5_buy ∈ allw := aw (List.mem_append_right _ (List.mem_of_getElem? (i := 285) (by decide +kernel))) rfl
theorem mm_X0_addStraps : lkM yX0_addStraps cX0_addStraps 2 (some .int) 1 := ⟨aw (List.mem_append_right _ (List.mem_of_getElem? (i := 2) (by decide +kernel))) rfl, aw (List.mem_append_right _ (List.mem_of_getElem? (i := 290) (by decide +kernel))) rfl, ⟨by decide +kernel, by decide +kernel, by decide +kernel⟩, by decide⟩
theorem pl_X0_addStraps : plainFor yX0_addStraps = true := by decide +kernel
theorem mi_X0_addStraps : Cond.instanceMethod yX0_addStraps ∈ allw := aw (List.mem_append_right _ (List.mem_of_getElem? (i := 288) (by decide +kernel))) rfl
theorem ml_X0_addStraps : Cond.selects yX0_addStraps.cls yX0_addStraps yX0_addStraps ∈ allw := aw (List.mem_append_right _ (List.mem_of_getElem? (i := 289) (by decide +kernel))) rfl
theorem mm_X5_isKind : lkM yX5_isKind cX5_isKind 1 (some .boolean) 1 := ⟨aw (List.mem_append_right _ (List.mem_of_getElem? (i := 1) (by decide +kernel))) rfl, aw (List.mem_append_right _ (List.mem_of_getElem? (i := 293) (by decide +kernel))) rfl, ⟨by decide +kernel, by decide +kernel, by decide +kernel⟩, by decide⟩
theorem pl_X5_isKind : plainFor yX5_isKind = true := by decide +kernel
theorem ms_X5_isKind : Cond.static yX5_isKind ∈ allw := aw (List.mem_append_right _ (List.mem_of_getElem? (i := 292) (by decide +kernel))) rfl
theorem mm_X5_job : lkM yX5_job cX5_job 6 (some .int) 5 := ⟨aw (List.mem_append_right _ (List.mem_of_getElem? (i := 1) (by decide +kernel))) rfl, aw (List.mem_append_right _ (List.mem_of_getElem? (i := 297) (by decide +kernel))) rfl, ⟨by decide +kernel, by decide +kernel, by decide +kernel⟩, by decide⟩
theorem pl_X5_job : plainFor yX5_job = true := by decide +kernel
theorem mi_X5_job : Cond.instanceMethod yX5_job ∈ allw := aw (List.mem_append_right _ (List.mem_of_getElem? (i := 295) (by decide +kernel))) rfl
theorem ml_X5_job : Cond.selects yX5_job.cls yX5_job yX5_job ∈ allw := aw (List.mem_append_right _ (List.mem_of_getElem? (i := 296) (by decide +kernel))) rfl
theorem mm_X0_addJob : lkM yX0_addJob cX0_addJob 6 (some .int) 5 := ⟨aw (List.mem_append_right _ (List.mem_of_getElem? (i := 2) (by decide +kernel))) rfl, aw (List.mem_append_right _ (List.mem_of_getElem? (i := 301) (by decide +kernel))) rfl, ⟨by decide +kernel, by decide +kernel, by decide +kernel⟩, by decide⟩
theorem pl_X0_addJob : plainFor yX0_addJob = true := by decide +kernel
theorem mi_X0_addJob : Cond.instanceMethod yX0_addJob ∈ allw := aw (List.mem_append_right _ (List.mem_of_getElem? (i := 299) (by decide +kernel))) rfl
theorem ml_X0_addJob : Cond.selects yX0_addJob.cls yX0_addJob yX0_addJob ∈ allw := aw (List.mem_append_right _ (List.mem_of_getElem? (i := 300) (by decide +kernel))) rfl
theorem mm_X2_come : lkM yX2_come cX2_come 6 none 5 := ⟨aw (List.mem_append_right _ (List.mem_of_getElem? (i := 4) (by decide +kernel))) rfl, aw (List.mem_append_right _ (List.mem_of_getElem? (i := 305) (by decide +kernel))) rfl, ⟨by decide +kernel, by decide +kernel, by decide +kernel⟩, by decide⟩
theorem pl_X2_come : plainFor yX2_come = true := by decide +kernel
theorem mi_X2_come : Cond.instanceMethod yX2_come ∈ allw := aw (List.mem_append_right _ (List.mem_of_getElem? (i := 303) (by decide +kernel))) rfl
theorem ml_X2_come : Cond.selects yX2_come.cls yX2_come yX2_come ∈ allw := aw (List.mem_append_right _ (List.mem_of_getElem? (i := 304) (by decide +kernel))) rfl
theorem mm_X5_begin : lkM yX5_begin cX5_begin 4 (some .int) 3 := ⟨aw (List.mem_append_right _ (List.mem_of_getElem? (i := 1) (by decide +kernel))) rfl, aw (List.mem_append_right _ (List.mem_of_getElem? (i := 309) (by decide +kernel))) rfl, ⟨by decide +kernel, by decide +kernel, by decide +kernel⟩, by decide⟩
theorem pl_X5_begin : plainFor yX5_begin = true := by decide +kernel
theorem mi_X5_begin : Cond.instanceMethod yX5_begin ∈ allw := aw (List.mem_append_right _ (List.mem_of_getElem? (i := 307) (by decide +kernel))) rfl
theorem ml_X5_begin : Cond.selects yX5_begin.cls yX5_begin yX5_begin ∈ allw := aw (List.mem_append_right _ (List.mem_of_getElem? (i := 308) (by decide +kernel))) rfl
theorem mm_X0_beginJob : lkM yX0_beginJob cX0_beginJob 6 (some .int) 3 := ⟨aw (List.mem_append_right _ (List.mem_of_getElem? (i := 2) (by decide +kernel))) rfl, aw (List.mem_append_right _ (List.mem_of_getElem? (i := 313) (by decide +kernel))) rfl, ⟨by decide +kernel, by decide +kernel, by decide +kernel⟩, by decide⟩
theorem pl_X0_beginJob : plainFor yX0_beginJob = true := by decide +kernel
theorem mi_X0_beginJob : Cond.instanceMethod yX0_beginJob ∈ allw := aw (List.mem_append_right _ (List.mem_of_getElem? (i := 311) (by decide +kernel))) rfl
theorem ml_X0_beginJob : Cond.selects yX0_beginJob.cls yX0_beginJob yX0_beginJob ∈ allw := aw (List.mem_append_right _ (List.mem_of_getElem? (i := 312) (by decide +kernel))) rfl
theorem mm_X0_whyNot : lkM yX0_whyNot cX0_whyNot 4 (some .int) 3 := ⟨aw (List.mem_append_right _ (List.mem_of_getElem? (i := 2) (by decide +kernel))) rfl, aw (List.mem_append_right _ (List.mem_of_getElem? (i := 317) (by decide +kernel))) rfl, ⟨by decide +kernel, by decide +kernel, by decide +kernel⟩, by decide⟩
theorem pl_X0_whyNot : plainFor yX0_whyNot = true := by decide +kernel
theorem mi_X0_whyNot : Cond.instanceMethod yX0_whyNot ∈ allw := aw (List.mem_append_right _ (List.mem_of_getElem? (i := 315) (by decide +kernel))) rfl
theorem ml_X0_whyNot : Cond.selects yX0_whyNot.cls yX0_whyNot yX0_whyNot ∈ allw := aw (List.mem_append_right _ (List.mem_of_getElem? (i := 316) (by decide +kernel))) rfl
theorem mm_X0_hasJob : lkM yX0_hasJob cX0_hasJob 2 (some .boolean) 1 := ⟨aw (List.mem_append_right _ (List.mem_of_getElem? (i := 2) (by decide +kernel))) rfl, aw (List.mem_append_right _ (List.mem_of_getElem? (i := 321) (by decide +kernel))) rfl, ⟨by decide +kernel, by decide +kernel, by decide +kernel⟩, by decide⟩
theorem pl_X0_hasJob : plainFor yX0_hasJob = true := by decide +kernel
theorem mi_X0_hasJob : Cond.instanceMethod yX0_hasJob ∈ allw := aw (List.mem_append_right _ (List.mem_of_getElem? (i := 319) (by decide +kernel))) rfl
theorem ml_X0_hasJob : Cond.selects yX0_hasJob.cls yX0_hasJob yX0_hasJob ∈ allw := aw (List.mem_append_right _ (List.mem_of_getElem? (i := 320) (by decide +kernel))) rfl
theorem mm_X5_isKindOrNone : lkM yX5_isKindOrNone cX5_isKindOrNone 1 (some .boolean) 1 := ⟨aw (List.mem_append_right _ (List.mem_of_getElem? (i := 1) (by decide +kernel))) rfl, aw (List.mem_append_right _ (List.mem_of_getElem? (i := 324) (by decide +kernel))) rfl, ⟨by decide +kernel, by decide +kernel, by decide +kernel⟩, by decide⟩
theorem pl_X5_isKindOrNone : plainFor yX5_isKindOrNone = true := by decide +kernel
theorem ms_X5_isKindOrNone : Cond.static yX5_isKindOrNone ∈ allw := aw (List.mem_append_right _ (List.mem_of_getElem? (i := 323) (by decide +kernel))) rfl
theorem mm_X0_isCrew : lkM yX0_isCrew cX0_isCrew 3 (some .boolean) 1 := ⟨aw (List.mem_append_right _ (List.mem_of_getElem? (i := 2) (by decide +kernel))) rfl, aw (List.mem_append_right _ (List.mem_of_getElem? (i := 329) (by decide +kernel))) rfl, ⟨by decide +kernel, by decide +kernel, by decide +kernel⟩, by decide⟩
theorem pl_X0_isCrew : plainFor yX0_isCrew = true := by decide +kernel
theorem mi_X0_isCrew : Cond.instanceMethod yX0_isCrew ∈ allw := aw (List.mem_append_right _ (List.mem_of_getElem? (i := 328) (by decide +kernel))) rfl
theorem ml_X0_isCrew : Cond.selects yX0_isCrew.cls yX0_isCrew yX0_isCrew ∈ allw := aw (List.mem_append_left _ (List.mem_of_getElem? (i := 1) (by decide +kernel))) rfl
theorem mm_J6_bitCount_0f7a4 : lkM yJ6_bitCount_0f7a4 cJ6_bitCount_0f7a4 1 (some .int) 1 := ⟨aw (List.mem_append_right _ (List.mem_of_getElem? (i := 10) (by decide +kernel))) rfl, aw (List.mem_append_right _ (List.mem_of_getElem? (i := 332) (by decide +kernel))) rfl, ⟨by decide +kernel, by decide +kernel, by decide +kernel⟩, by decide⟩
theorem pl_J6_bitCount_0f7a4 : plainFor yJ6_bitCount_0f7a4 = true := by decide +kernel
theorem ms_J6_bitCount_0f7a4 : Cond.static yJ6_bitCount_0f7a4 ∈ allw := aw (List.mem_append_right _ (List.mem_of_getElem? (i := 331) (by decide +kernel))) rfl
theorem mm_X0_busyPeople : lkM yX0_busyPeople cX0_busyPeople 3 (some .int) 0 := ⟨aw (List.mem_append_right _ (List.mem_of_getElem? (i := 2) (by decide +kernel))) rfl, aw (List.mem_append_right _ (List.mem_of_getElem? (i := 339) (by decide +kernel))) rfl, ⟨by decide +kernel, by decide +kernel, by decide +kernel⟩, by decide⟩
theorem pl_X0_busyPeople : plainFor yX0_busyPeople = true := by decide +kernel
theorem mi_X0_busyPeople : Cond.instanceMethod yX0_busyPeople ∈ allw := aw (List.mem_append_right _ (List.mem_of_getElem? (i := 337) (by decide +kernel))) rfl
theorem ml_X0_busyPeople : Cond.selects yX0_busyPeople.cls yX0_busyPeople yX0_busyPeople ∈ allw := aw (List.mem_append_right _ (List.mem_of_getElem? (i := 338) (by decide +kernel))) rfl
theorem mm_X0_canHaveStraps : lkM yX0_canHaveStraps cX0_canHaveStraps 3 (some .boolean) 2 := ⟨aw (List.mem_append_right _ (List.mem_of_getElem? (i := 2) (by decide +kernel))) rfl, aw (List.mem_append_right _ (List.mem_of_getElem? (i := 343) (by decide +kernel))) rfl, ⟨by decide +kernel, by decide +kernel, by decide +kernel⟩, by decide⟩
theorem pl_X0_canHaveStraps : plainFor yX0_canHaveStraps = true := by decide +kernel
theorem mi_X0_canHaveStraps : Cond.instanceMethod yX0_canHaveStraps ∈ allw := aw (List.mem_append_right _ (List.mem_of_getElem? (i := 341) (by decide +kernel))) rfl
theorem ml_X0_canHaveStraps : Cond.selects yX0_canHaveStraps.cls yX0_canHaveStraps yX0_canHaveStraps ∈ allw := aw (List.mem_append_right _ (List.mem_of_getElem? (i := 342) (by decide +kernel))) rfl
theorem mm_X0_strengthOf : lkM yX0_strengthOf cX0_strengthOf 4 (some .int) 1 := ⟨aw (List.mem_append_right _ (List.mem_of_getElem? (i := 2) (by decide +kernel))) rfl, aw (List.mem_append_right _ (List.mem_of_getElem? (i := 347) (by decide +kernel))) rfl, ⟨by decide +kernel, by decide +kernel, by decide +kernel⟩, by decide⟩
theorem pl_X0_strengthOf : plainFor yX0_strengthOf = true := by decide +kernel
theorem mi_X0_strengthOf : Cond.instanceMethod yX0_strengthOf ∈ allw := aw (List.mem_append_right _ (List.mem_of_getElem? (i := 345) (by decide +kernel))) rfl
theorem ml_X0_strengthOf : Cond.selects yX0_strengthOf.cls yX0_strengthOf yX0_strengthOf ∈ allw := aw (List.mem_append_right _ (List.mem_of_getElem? (i := 346) (by decide +kernel))) rfl
theorem mm_X5_isIn : lkM yX5_isIn cX5_isIn 2 (some .boolean) 2 := ⟨aw (List.mem_append_right _ (List.mem_of_getElem? (i := 1) (by decide +kernel))) rfl, aw (List.mem_append_right _ (List.mem_of_getElem? (i := 350) (by decide +kernel))) rfl, ⟨by decide +kernel, by decide +kernel, by decide +kernel⟩, by decide⟩
theorem pl_X5_isIn : plainFor yX5_isIn = true := by decide +kernel
theorem ms_X5_isIn : Cond.static yX5_isIn ∈ allw := aw (List.mem_append_right _ (List.mem_of_getElem? (i := 349) (by decide +kernel))) rfl
theorem mm_X0_loadWith : lkM yX0_loadWith cX0_loadWith 4 (some .int) 2 := ⟨aw (List.mem_append_right _ (List.mem_of_getElem? (i := 2) (by decide +kernel))) rfl, aw (List.mem_append_right _ (List.mem_of_getElem? (i := 354) (by decide +kernel))) rfl, ⟨by decide +kernel, by decide +kernel, by decide +kernel⟩, by decide⟩
theorem pl_X0_loadWith : plainFor yX0_loadWith = true := by decide +kernel
theorem mi_X0_loadWith : Cond.instanceMethod yX0_loadWith ∈ allw := aw (List.mem_append_right _ (List.mem_of_getElem? (i := 352) (by decide +kernel))) rfl
theorem ml_X0_loadWith : Cond.selects yX0_loadWith.cls yX0_loadWith yX0_loadWith ∈ allw := aw (List.mem_append_right _ (List.mem_of_getElem? (i := 353) (by decide +kernel))) rfl
theorem mm_X0_loadNow : lkM yX0_loadNow cX0_loadNow 2 (some .int) 1 := ⟨aw (List.mem_append_right _ (List.mem_of_getElem? (i := 2) (by decide +kernel))) rfl, aw (List.mem_append_right _ (List.mem_of_getElem? (i := 360) (by decide +kernel))) rfl, ⟨by decide +kernel, by decide +kernel, by decide +kernel⟩, by decide⟩
theorem pl_X0_loadNow : plainFor yX0_loadNow = true := by decide +kernel
theorem mi_X0_loadNow : Cond.instanceMethod yX0_loadNow ∈ allw := aw (List.mem_append_right _ (List.mem_of_getElem? (i := 358) (by decide +kernel))) rfl
theorem ml_X0_loadNow : Cond.selects yX0_loadNow.cls yX0_loadNow yX0_loadNow ∈ allw := aw (List.mem_append_right _ (List.mem_of_getElem? (i := 359) (by decide +kernel))) rfl
theorem mm_X0_placeCrew : lkM yX0_placeCrew cX0_placeCrew 4 none 2 := ⟨aw (List.mem_append_right _ (List.mem_of_getElem? (i := 2) (by decide +kernel))) rfl, aw (List.mem_append_right _ (List.mem_of_getElem? (i := 364) (by decide +kernel))) rfl, ⟨by decide +kernel, by decide +kernel, by decide +kernel⟩, by decide⟩
theorem pl_X0_placeCrew : plainFor yX0_placeCrew = true := by decide +kernel
theorem mi_X0_placeCrew : Cond.instanceMethod yX0_placeCrew ∈ allw := aw (List.mem_append_right _ (List.mem_of_getElem? (i := 363) (by decide +kernel))) rfl
theorem ml_X0_placeCrew : Cond.selects yX0_placeCrew.cls yX0_placeCrew yX0_placeCrew ∈ allw := aw (List.mem_append_left _ (List.mem_of_getElem? (i := 2) (by decide +kernel))) rfl
theorem mm_X5_assign : lkM yX5_assign cX5_assign 1 (some .int) 0 := ⟨aw (List.mem_append_right _ (List.mem_of_getElem? (i := 1) (by decide +kernel))) rfl, aw (List.mem_append_right _ (List.mem_of_getElem? (i := 368) (by decide +kernel))) rfl, ⟨by decide +kernel, by decide +kernel, by decide +kernel⟩, by decide⟩
theorem pl_X5_assign : plainFor yX5_assign = true := by decide +kernel
theorem mi_X5_assign : Cond.instanceMethod yX5_assign ∈ allw := aw (List.mem_append_right _ (List.mem_of_getElem? (i := 366) (by decide +kernel))) rfl
theorem ml_X5_assign : Cond.selects yX5_assign.cls yX5_assign yX5_assign ∈ allw := aw (List.mem_append_right _ (List.mem_of_getElem? (i := 367) (by decide +kernel))) rfl
theorem mm_X0_assignJobs : lkM yX0_assignJobs cX0_assignJobs 6 (some .int) 0 := ⟨aw (List.mem_append_right _ (List.mem_of_getElem? (i := 2) (by decide +kernel))) rfl, aw (List.mem_append_right _ (List.mem_of_getElem? (i := 372) (by decide +kernel))) rfl, ⟨by decide +kernel, by decide +kernel, by decide +kernel⟩, by decide⟩
theorem pl_X0_assignJobs : plainFor yX0_assignJobs = true := by decide +kernel
theorem mi_X0_assignJobs : Cond.instanceMethod yX0_assignJobs ∈ allw := aw (List.mem_append_right _ (List.mem_of_getElem? (i := 370) (by decide +kernel))) rfl
theorem ml_X0_assignJobs : Cond.selects yX0_assignJobs.cls yX0_assignJobs yX0_assignJobs ∈ allw := aw (List.mem_append_right _ (List.mem_of_getElem? (i := 371) (by decide +kernel))) rfl
theorem mm_X0_nextWaiting : lkM yX0_nextWaiting cX0_nextWaiting 5 (some .int) 1 := ⟨aw (List.mem_append_right _ (List.mem_of_getElem? (i := 2) (by decide +kernel))) rfl, aw (List.mem_append_right _ (List.mem_of_getElem? (i := 376) (by decide +kernel))) rfl, ⟨by decide +kernel, by decide +kernel, by decide +kernel⟩, by decide⟩
theorem pl_X0_nextWaiting : plainFor yX0_nextWaiting = true := by decide +kernel
theorem mi_X0_nextWaiting : Cond.instanceMethod yX0_nextWaiting ∈ allw := aw (List.mem_append_right _ (List.mem_of_getElem? (i := 375) (by decide +kernel))) rfl
theorem ml_X0_nextWaiting : Cond.selects yX0_nextWaiting.cls yX0_nextWaiting yX0_nextWaiting ∈ allw := aw (List.mem_append_left _ (List.mem_of_getElem? (i := 3) (by decide +kernel))) rfl
theorem mm_X0_isAhead : lkM yX0_isAhead cX0_isAhead 3 (some .boolean) 2 := ⟨aw (List.mem_append_right _ (List.mem_of_getElem? (i := 2) (by decide +kernel))) rfl, aw (List.mem_append_right _ (List.mem_of_getElem? (i := 380) (by decide +kernel))) rfl, ⟨by decide +kernel, by decide +kernel, by decide +kernel⟩, by decide⟩
theorem pl_X0_isAhead : plainFor yX0_isAhead = true := by decide +kernel
theorem mi_X0_isAhead : Cond.instanceMethod yX0_isAhead ∈ allw := aw (List.mem_append_right _ (List.mem_of_getElem? (i := 379) (by decide +kernel))) rfl
theorem ml_X0_isAhead : Cond.selects yX0_isAhead.cls yX0_isAhead yX0_isAhead ∈ allw := aw (List.mem_append_left _ (List.mem_of_getElem? (i := 4) (by decide +kernel))) rfl
theorem mm_X2_isAheadOfLater : lkM yX2_isAheadOfLater cX2_isAheadOfLater 2 (some .boolean) 1 := ⟨aw (List.mem_append_right _ (List.mem_of_getElem? (i := 4) (by decide +kernel))) rfl, aw (List.mem_append_right _ (List.mem_of_getElem? (i := 384) (by decide +kernel))) rfl, ⟨by decide +kernel, by decide +kernel, by decide +kernel⟩, by decide⟩
theorem pl_X2_isAheadOfLater : plainFor yX2_isAheadOfLater = true := by decide +kernel
theorem mi_X2_isAheadOfLater : Cond.instanceMethod yX2_isAheadOfLater ∈ allw := aw (List.mem_append_right _ (List.mem_of_getElem? (i := 382) (by decide +kernel))) rfl
theorem ml_X2_isAheadOfLater : Cond.selects yX2_isAheadOfLater.cls yX2_isAheadOfLater yX2_isAheadOfLater ∈ allw := aw (List.mem_append_right _ (List.mem_of_getElem? (i := 383) (by decide +kernel))) rfl
theorem mm_X0_fewestPeopleStraps : lkM yX0_fewestPeopleStraps cX0_fewestPeopleStraps 6 (some .int) 1 := ⟨aw (List.mem_append_right _ (List.mem_of_getElem? (i := 2) (by decide +kernel))) rfl, aw (List.mem_append_right _ (List.mem_of_getElem? (i := 388) (by decide +kernel))) rfl, ⟨by decide +kernel, by decide +kernel, by decide +kernel⟩, by decide⟩
theorem pl_X0_fewestPeopleStraps : plainFor yX0_fewestPeopleStraps = true := by decide +kernel
theorem mi_X0_fewestPeopleStraps : Cond.instanceMethod yX0_fewestPeopleStraps ∈ allw := aw (List.mem_append_right _ (List.mem_of_getElem? (i := 386) (by decide +kernel))) rfl
theorem ml_X0_fewestPeopleStraps : Cond.selects yX0_fewestPeopleStraps.cls yX0_fewestPeopleStraps yX0_fewestPeopleStraps ∈ allw := aw (List.mem_append_right _ (List.mem_of_getElem? (i := 387) (by decide +kernel))) rfl
theorem mm_X0_crewByItself : lkM yX0_crewByItself cX0_crewByItself 9 (some .int) 2 := ⟨aw (List.mem_append_right _ (List.mem_of_getElem? (i := 2) (by decide +kernel))) rfl, aw (List.mem_append_right _ (List.mem_of_getElem? (i := 392) (by decide +kernel))) rfl, ⟨by decide +kernel, by decide +kernel, by decide +kernel⟩, by decide⟩
theorem pl_X0_crewByItself : plainFor yX0_crewByItself = true := by decide +kernel
theorem mi_X0_crewByItself : Cond.instanceMethod yX0_crewByItself ∈ allw := aw (List.mem_append_right _ (List.mem_of_getElem? (i := 390) (by decide +kernel))) rfl
theorem ml_X0_crewByItself : Cond.selects yX0_crewByItself.cls yX0_crewByItself yX0_crewByItself ∈ allw := aw (List.mem_append_right _ (List.mem_of_getElem? (i := 391) (by decide +kernel))) rfl
theorem mm_X0_strongestOutside : lkM yX0_strongestOutside cX0_strongestOutside 5 (some .int) 1 := ⟨aw (List.mem_append_right _ (List.mem_of_getElem? (i := 2) (by decide +kernel))) rfl, aw (List.mem_append_right _ (List.mem_of_getElem? (i := 396) (by decide +kernel))) rfl, ⟨by decide +kernel, by decide +kernel, by decide +kernel⟩, by decide⟩
theorem pl_X0_strongestOutside : plainFor yX0_strongestOutside = true := by decide +kernel
theorem mi_X0_strongestOutside : Cond.instanceMethod yX0_strongestOutside ∈ allw := aw (List.mem_append_right _ (List.mem_of_getElem? (i := 395) (by decide +kernel))) rfl
theorem ml_X0_strongestOutside : Cond.selects yX0_strongestOutside.cls yX0_strongestOutside yX0_strongestOutside ∈ allw := aw (List.mem_append_left _ (List.mem_of_getElem? (i := 5) (by decide +kernel))) rfl
theorem mm_X0_hasPerson : lkM yX0_hasPerson cX0_hasPerson 2 (some .boolean) 1 := ⟨aw (List.mem_append_right _ (List.mem_of_getElem? (i := 2) (by decide +kernel))) rfl, aw (List.mem_append_right _ (List.mem_of_getElem? (i := 400) (by decide +kernel))) rfl, ⟨by decide +kernel, by decide +kernel, by decide +kernel⟩, by decide⟩
theorem pl_X0_hasPerson : plainFor yX0_hasPerson = true := by decide +kernel
theorem mi_X0_hasPerson : Cond.instanceMethod yX0_hasPerson ∈ allw := aw (List.mem_append_right _ (List.mem_of_getElem? (i := 398) (by decide +kernel))) rfl
theorem ml_X0_hasPerson : Cond.selects yX0_hasPerson.cls yX0_hasPerson yX0_hasPerson ∈ allw := aw (List.mem_append_right _ (List.mem_of_getElem? (i := 399) (by decide +kernel))) rfl
theorem mm_X5_delay : lkM yX5_delay cX5_delay 3 (some .int) 2 := ⟨aw (List.mem_append_right _ (List.mem_of_getElem? (i := 1) (by decide +kernel))) rfl, aw (List.mem_append_right _ (List.mem_of_getElem? (i := 405) (by decide +kernel))) rfl, ⟨by decide +kernel, by decide +kernel, by decide +kernel⟩, by decide⟩
theorem pl_X5_delay : plainFor yX5_delay = true := by decide +kernel
theorem mi_X5_delay : Cond.instanceMethod yX5_delay ∈ allw := aw (List.mem_append_right _ (List.mem_of_getElem? (i := 403) (by decide +kernel))) rfl
theorem ml_X5_delay : Cond.selects yX5_delay.cls yX5_delay yX5_delay ∈ allw := aw (List.mem_append_right _ (List.mem_of_getElem? (i := 404) (by decide +kernel))) rfl
theorem mm_X0_delayJob : lkM yX0_delayJob cX0_delayJob 3 (some .int) 2 := ⟨aw (List.mem_append_right _ (List.mem_of_getElem? (i := 2) (by decide +kernel))) rfl, aw (List.mem_append_right _ (List.mem_of_getElem? (i := 409) (by decide +kernel))) rfl, ⟨by decide +kernel, by decide +kernel, by decide +kernel⟩, by decide⟩
theorem pl_X0_delayJob : plainFor yX0_delayJob = true := by decide +kernel
theorem mi_X0_delayJob : Cond.instanceMethod yX0_delayJob ∈ allw := aw (List.mem_append_right _ (List.mem_of_getElem? (i := 407) (by decide +kernel))) rfl
theorem ml_X0_delayJob : Cond.selects yX0_delayJob.cls yX0_delayJob yX0_delayJob ∈ allw := aw (List.mem_append_right _ (List.mem_of_getElem? (i := 408) (by decide +kernel))) rfl
theorem mm_X5_callOff : lkM yX5_callOff cX5_callOff 2 (some .int) 1 := ⟨aw (List.mem_append_right _ (List.mem_of_getElem? (i := 1) (by decide +kernel))) rfl, aw (List.mem_append_right _ (List.mem_of_getElem? (i := 413) (by decide +kernel))) rfl, ⟨by decide +kernel, by decide +kernel, by decide +kernel⟩, by decide⟩
theorem pl_X5_callOff : plainFor yX5_callOff = true := by decide +kernel
theorem mi_X5_callOff : Cond.instanceMethod yX5_callOff ∈ allw := aw (List.mem_append_right _ (List.mem_of_getElem? (i := 411) (by decide +kernel))) rfl
theorem ml_X5_callOff : Cond.selects yX5_callOff.cls yX5_callOff yX5_callOff ∈ allw := aw (List.mem_append_right _ (List.mem_of_getElem? (i := 412) (by decide +kernel))) rfl
theorem mm_X0_callOffJob : lkM yX0_callOffJob cX0_callOffJob 3 (some .int) 1 := ⟨aw (List.mem_append_right _ (List.mem_of_getElem? (i := 2) (by decide +kernel))) rfl, aw (List.mem_append_right _ (List.mem_of_getElem? (i := 417) (by decide +kernel))) rfl, ⟨by decide +kernel, by decide +kernel, by decide +kernel⟩, by decide⟩
theorem pl_X0_callOffJob : plainFor yX0_callOffJob = true := by decide +kernel
theorem mi_X0_callOffJob : Cond.instanceMethod yX0_callOffJob ∈ allw := aw (List.mem_append_right _ (List.mem_of_getElem? (i := 415) (by decide +kernel))) rfl
theorem ml_X0_callOffJob : Cond.selects yX0_callOffJob.cls yX0_callOffJob yX0_callOffJob ∈ allw := aw (List.mem_append_right _ (List.mem_of_getElem? (i := 416) (by decide +kernel))) rfl
theorem mm_X0_endJob : lkM yX0_endJob cX0_endJob 3 none 2 := ⟨aw (List.mem_append_right _ (List.mem_of_getElem? (i := 2) (by decide +kernel))) rfl, aw (List.mem_append_right _ (List.mem_of_getElem? (i := 421) (by decide +kernel))) rfl, ⟨by decide +kernel, by decide +kernel, by decide +kernel⟩, by decide⟩
theorem pl_X0_endJob : plainFor yX0_endJob = true := by decide +kernel
theorem mi_X0_endJob : Cond.instanceMethod yX0_endJob ∈ allw := aw (List.mem_append_right _ (List.mem_of_getElem? (i := 420) (by decide +kernel))) rfl
theorem ml_X0_endJob : Cond.selects yX0_endJob.cls yX0_endJob yX0_endJob ∈ allw := aw (List.mem_append_left _ (List.mem_of_getElem? (i := 6) (by decide +kernel))) rfl
theorem mm_X5_pass : lkM yX5_pass cX5_pass 2 (some .int) 1 := ⟨aw (List.mem_append_right _ (List.mem_of_getElem? (i := 1) (by decide +kernel))) rfl, aw (List.mem_append_right _ (List.mem_of_getElem? (i := 425) (by decide +kernel))) rfl, ⟨by decide +kernel, by decide +kernel, by decide +kernel⟩, by decide⟩
theorem pl_X5_pass : plainFor yX5_pass = true := by decide +kernel
theorem mi_X5_pass : Cond.instanceMethod yX5_pass ∈ allw := aw (List.mem_append_right _ (List.mem_of_getElem? (i := 423) (by decide +kernel))) rfl
theorem ml_X5_pass : Cond.selects yX5_pass.cls yX5_pass yX5_pass ∈ allw := aw (List.mem_append_right _ (List.mem_of_getElem? (i := 424) (by decide +kernel))) rfl
theorem mm_X0_passHours : lkM yX0_passHours cX0_passHours 4 (some .int) 1 := ⟨aw (List.mem_append_right _ (List.mem_of_getElem? (i := 2) (by decide +kernel))) rfl, aw (List.mem_append_right _ (List.mem_of_getElem? (i := 429) (by decide +kernel))) rfl, ⟨by decide +kernel, by decide +kernel, by decide +kernel⟩, by decide⟩
theorem pl_X0_passHours : plainFor yX0_passHours = true := by decide +kernel
theorem mi_X0_passHours : Cond.instanceMethod yX0_passHours ∈ allw := aw (List.mem_append_right _ (List.mem_of_getElem? (i := 427) (by decide +kernel))) rfl
theorem ml_X0_passHours : Cond.selects yX0_passHours.cls yX0_passHours yX0_passHours ∈ allw := aw (List.mem_append_right _ (List.mem_of_getElem? (i := 428) (by decide +kernel))) rfl
theorem mm_X0_passOneHour : lkM yX0_passOneHour cX0_passOneHour 4 (some .int) 0 := ⟨aw (List.mem_append_right _ (List.mem_of_getElem? (i := 2) (by decide +kernel))) rfl, aw (List.mem_append_right _ (List.mem_of_getElem? (i := 433) (by decide +kernel))) rfl, ⟨by decide +kernel, by decide +kernel, by decide +kernel⟩, by decide⟩
theorem pl_X0_passOneHour : plainFor yX0_passOneHour = true := by decide +kernel
theorem mi_X0_passOneHour : Cond.instanceMethod yX0_passOneHour ∈ allw := aw (List.mem_append_right _ (List.mem_of_getElem? (i := 432) (by decide +kernel))) rfl
theorem ml_X0_passOneHour : Cond.selects yX0_passOneHour.cls yX0_passOneHour yX0_passOneHour ∈ allw := aw (List.mem_append_left _ (List.mem_of_getElem? (i := 7) (by decide +kernel))) rfl
theorem mm_X0_workOneHour : lkM yX0_workOneHour cX0_workOneHour 3 (some .boolean) 1 := ⟨aw (List.mem_append_right _ (List.mem_of_getElem? (i := 2) (by decide +kernel))) rfl, aw (List.mem_append_right _ (List.mem_of_getElem? (i := 437) (by decide +kernel))) rfl, ⟨by decide +kernel, by decide +kernel, by decide +kernel⟩, by decide⟩
theorem pl_X0_workOneHour : plainFor yX0_workOneHour = true := by decide +kernel
theorem mi_X0_workOneHour : Cond.instanceMethod yX0_workOneHour ∈ allw := aw (List.mem_append_right _ (List.mem_of_getElem? (i := 435) (by decide +kernel))) rfl
theorem ml_X0_workOneHour : Cond.selects yX0_workOneHour.cls yX0_workOneHour yX0_workOneHour ∈ allw := aw (List.mem_append_right _ (List.mem_of_getElem? (i := 436) (by decide +kernel))) rfl
theorem mm_X0_restPeople : lkM yX0_restPeople cX0_restPeople 3 none 1 := ⟨aw (List.mem_append_right _ (List.mem_of_getElem? (i := 2) (by decide +kernel))) rfl, aw (List.mem_append_right _ (List.mem_of_getElem? (i := 441) (by decide +kernel))) rfl, ⟨by decide +kernel, by decide +kernel, by decide +kernel⟩, by decide⟩
theorem pl_X0_restPeople : plainFor yX0_restPeople = true := by decide +kernel
theorem mi_X0_restPeople : Cond.instanceMethod yX0_restPeople ∈ allw := aw (List.mem_append_right _ (List.mem_of_getElem? (i := 440) (by decide +kernel))) rfl
theorem ml_X0_restPeople : Cond.selects yX0_restPeople.cls yX0_restPeople yX0_restPeople ∈ allw := aw (List.mem_append_left _ (List.mem_of_getElem? (i := 8) (by decide +kernel))) rfl
theorem mm_X4_rest : lkM yX4_rest cX4_rest 2 none 1 := ⟨aw (List.mem_append_right _ (List.mem_of_getElem? (i := 3) (by decide +kernel))) rfl, aw (List.mem_append_right _ (List.mem_of_getElem? (i := 445) (by decide +kernel))) rfl, ⟨by decide +kernel, by decide +kernel, by decide +kernel⟩, by decide⟩
theorem pl_X4_rest : plainFor yX4_rest = true := by decide +kernel
theorem mi_X4_rest : Cond.instanceMethod yX4_rest ∈ allw := aw (List.mem_append_right _ (List.mem_of_getElem? (i := 443) (by decide +kernel))) rfl
theorem ml_X4_rest : Cond.selects yX4_rest.cls yX4_rest yX4_rest ∈ allw := aw (List.mem_append_right _ (List.mem_of_getElem? (i := 444) (by decide +kernel))) rfl
theorem mm_X0_carryHour : lkM yX0_carryHour cX0_carryHour 4 none 2 := ⟨aw (List.mem_append_right _ (List.mem_of_getElem? (i := 2) (by decide +kernel))) rfl, aw (List.mem_append_right _ (List.mem_of_getElem? (i := 452) (by decide +kernel))) rfl, ⟨by decide +kernel, by decide +kernel, by decide +kernel⟩, by decide⟩
theorem pl_X0_carryHour : plainFor yX0_carryHour = true := by decide +kernel
theorem mi_X0_carryHour : Cond.instanceMethod yX0_carryHour ∈ allw := aw (List.mem_append_right _ (List.mem_of_getElem? (i := 451) (by decide +kernel))) rfl
theorem ml_X0_carryHour : Cond.selects yX0_carryHour.cls yX0_carryHour yX0_carryHour ∈ allw := aw (List.mem_append_left _ (List.mem_of_getElem? (i := 9) (by decide +kernel))) rfl
theorem mm_X4_carry : lkM yX4_carry cX4_carry 2 none 1 := ⟨aw (List.mem_append_right _ (List.mem_of_getElem? (i := 3) (by decide +kernel))) rfl, aw (List.mem_append_right _ (List.mem_of_getElem? (i := 456) (by decide +kernel))) rfl, ⟨by decide +kernel, by decide +kernel, by decide +kernel⟩, by decide⟩
theorem pl_X4_carry : plainFor yX4_carry = true := by decide +kernel
theorem mi_X4_carry : Cond.instanceMethod yX4_carry ∈ allw := aw (List.mem_append_right _ (List.mem_of_getElem? (i := 454) (by decide +kernel))) rfl
theorem ml_X4_carry : Cond.selects yX4_carry.cls yX4_carry yX4_carry ∈ allw := aw (List.mem_append_right _ (List.mem_of_getElem? (i := 455) (by decide +kernel))) rfl
theorem mm_X5_of : lkM yX5_of cX5_of 3 (some .int) 2 := ⟨aw (List.mem_append_right _ (List.mem_of_getElem? (i := 1) (by decide +kernel))) rfl, aw (List.mem_append_right _ (List.mem_of_getElem? (i := 463) (by decide +kernel))) rfl, ⟨by decide +kernel, by decide +kernel, by decide +kernel⟩, by decide⟩
theorem pl_X5_of : plainFor yX5_of = true := by decide +kernel
theorem mi_X5_of : Cond.instanceMethod yX5_of ∈ allw := aw (List.mem_append_right _ (List.mem_of_getElem? (i := 461) (by decide +kernel))) rfl
theorem ml_X5_of : Cond.selects yX5_of.cls yX5_of yX5_of ∈ allw := aw (List.mem_append_right _ (List.mem_of_getElem? (i := 462) (by decide +kernel))) rfl
theorem mm_X4_tell : lkM yX4_tell cX4_tell 3 (some .int) 2 := ⟨aw (List.mem_append_right _ (List.mem_of_getElem? (i := 3) (by decide +kernel))) rfl, aw (List.mem_append_right _ (List.mem_of_getElem? (i := 468) (by decide +kernel))) rfl, ⟨by decide +kernel, by decide +kernel, by decide +kernel⟩, by decide⟩
theorem pl_X4_tell : plainFor yX4_tell = true := by decide +kernel
theorem mi_X4_tell : Cond.instanceMethod yX4_tell ∈ allw := aw (List.mem_append_right _ (List.mem_of_getElem? (i := 466) (by decide +kernel))) rfl
theorem ml_X4_tell : Cond.selects yX4_tell.cls yX4_tell yX4_tell ∈ allw := aw (List.mem_append_right _ (List.mem_of_getElem? (i := 467) (by decide +kernel))) rfl
theorem mm_X4_hoursOfRest : lkM yX4_hoursOfRest cX4_hoursOfRest 3 (some .int) 1 := ⟨aw (List.mem_append_right _ (List.mem_of_getElem? (i := 3) (by decide +kernel))) rfl, aw (List.mem_append_right _ (List.mem_of_getElem? (i := 472) (by decide +kernel))) rfl, ⟨by decide +kernel, by decide +kernel, by decide +kernel⟩, by decide⟩
theorem pl_X4_hoursOfRest : plainFor yX4_hoursOfRest = true := by decide +kernel
theorem mi_X4_hoursOfRest : Cond.instanceMethod yX4_hoursOfRest ∈ allw := aw (List.mem_append_right _ (List.mem_of_getElem? (i := 471) (by decide +kernel))) rfl
theorem ml_X4_hoursOfRest : Cond.selects yX4_hoursOfRest.cls yX4_hoursOfRest yX4_hoursOfRest ∈ allw := aw (List.mem_append_left _ (List.mem_of_getElem? (i := 10) (by decide +kernel))) rfl
theorem mm_X5_ofJob : lkM yX5_ofJob cX5_ofJob 3 (some .int) 2 := ⟨aw (List.mem_append_right _ (List.mem_of_getElem? (i := 1) (by decide +kernel))) rfl, aw (List.mem_append_right _ (List.mem_of_getElem? (i := 476) (by decide +kernel))) rfl, ⟨by decide +kernel, by decide +kernel, by decide +kernel⟩, by decide⟩
theorem pl_X5_ofJob : plainFor yX5_ofJob = true := by decide +kernel
theorem mi_X5_ofJob : Cond.instanceMethod yX5_ofJob ∈ allw := aw (List.mem_append_right _ (List.mem_of_getElem? (i := 474) (by decide +kernel))) rfl
theorem ml_X5_ofJob : Cond.selects yX5_ofJob.cls yX5_ofJob yX5_ofJob ∈ allw := aw (List.mem_append_right _ (List.mem_of_getElem? (i := 475) (by decide +kernel))) rfl
theorem mm_X0_tellOfJob : lkM yX0_tellOfJob cX0_tellOfJob 3 (some .int) 2 := ⟨aw (List.mem_append_right _ (List.mem_of_getElem? (i := 2) (by decide +kernel))) rfl, aw (List.mem_append_right _ (List.mem_of_getElem? (i := 481) (by decide +kernel))) rfl, ⟨by decide +kernel, by decide +kernel, by decide +kernel⟩, by decide⟩
theorem pl_X0_tellOfJob : plainFor yX0_tellOfJob = true := by decide +kernel
theorem mi_X0_tellOfJob : Cond.instanceMethod yX0_tellOfJob ∈ allw := aw (List.mem_append_right _ (List.mem_of_getElem? (i := 479) (by decide +kernel))) rfl
theorem ml_X0_tellOfJob : Cond.selects yX0_tellOfJob.cls yX0_tellOfJob yX0_tellOfJob ∈ allw := aw (List.mem_append_right _ (List.mem_of_getElem? (i := 480) (by decide +kernel))) rfl
theorem mm_X2_wasBegun : lkM yX2_wasBegun cX2_wasBegun 1 (some .boolean) 0 := ⟨aw (List.mem_append_right _ (List.mem_of_getElem? (i := 4) (by decide +kernel))) rfl, aw (List.mem_append_right _ (List.mem_of_getElem? (i := 485) (by decide +kernel))) rfl, ⟨by decide +kernel, by decide +kernel, by decide +kernel⟩, by decide⟩
theorem pl_X2_wasBegun : plainFor yX2_wasBegun = true := by decide +kernel
theorem mi_X2_wasBegun : Cond.instanceMethod yX2_wasBegun ∈ allw := aw (List.mem_append_right _ (List.mem_of_getElem? (i := 483) (by decide +kernel))) rfl
theorem ml_X2_wasBegun : Cond.selects yX2_wasBegun.cls yX2_wasBegun yX2_wasBegun ∈ allw := aw (List.mem_append_right _ (List.mem_of_getElem? (i := 484) (by decide +kernel))) rfl
theorem mm_X2_isLate : lkM yX2_isLate cX2_isLate 2 (some .boolean) 1 := ⟨aw (List.mem_append_right _ (List.mem_of_getElem? (i := 4) (by decide +kernel))) rfl, aw (List.mem_append_right _ (List.mem_of_getElem? (i := 489) (by decide +kernel))) rfl, ⟨by decide +kernel, by decide +kernel, by decide +kernel⟩, by decide⟩
theorem pl_X2_isLate : plainFor yX2_isLate = true := by decide +kernel
theorem mi_X2_isLate : Cond.instanceMethod yX2_isLate ∈ allw := aw (List.mem_append_right _ (List.mem_of_getElem? (i := 487) (by decide +kernel))) rfl
theorem ml_X2_isLate : Cond.selects yX2_isLate.cls yX2_isLate yX2_isLate ∈ allw := aw (List.mem_append_right _ (List.mem_of_getElem? (i := 488) (by decide +kernel))) rfl
theorem mm_X5_waiting : lkM yX5_waiting cX5_waiting 2 (some .int) 1 := ⟨aw (List.mem_append_right _ (List.mem_of_getElem? (i := 1) (by decide +kernel))) rfl, aw (List.mem_append_right _ (List.mem_of_getElem? (i := 493) (by decide +kernel))) rfl, ⟨by decide +kernel, by decide +kernel, by decide +kernel⟩, by decide⟩
theorem pl_X5_waiting : plainFor yX5_waiting = true := by decide +kernel
theorem mi_X5_waiting : Cond.instanceMethod yX5_waiting ∈ allw := aw (List.mem_append_right _ (List.mem_of_getElem? (i := 491) (by decide +kernel))) rfl
theorem ml_X5_waiting : Cond.selects yX5_waiting.cls yX5_waiting yX5_waiting ∈ allw := aw (List.mem_append_right _ (List.mem_of_getElem? (i := 492) (by decide +kernel))) rfl
theorem mm_X0_waitingAt : lkM yX0_waitingAt cX0_waitingAt 4 (some .int) 1 := ⟨aw (List.mem_append_right _ (List.mem_of_getElem? (i := 2) (by decide +kernel))) rfl, aw (List.mem_append_right _ (List.mem_of_getElem? (i := 497) (by decide +kernel))) rfl, ⟨by decide +kernel, by decide +kernel, by decide +kernel⟩, by decide⟩
theorem pl_X0_waitingAt : plainFor yX0_waitingAt = true := by decide +kernel
theorem mi_X0_waitingAt : Cond.instanceMethod yX0_waitingAt ∈ allw := aw (List.mem_append_right _ (List.mem_of_getElem? (i := 495) (by decide +kernel))) rfl
theorem ml_X0_waitingAt : Cond.selects yX0_waitingAt.cls yX0_waitingAt yX0_waitingAt ∈ allw := aw (List.mem_append_right _ (List.mem_of_getElem? (i := 496) (by decide +kernel))) rfl
theorem mm_X5_straps : lkM yX5_straps cX5_straps 3 (some .int) 2 := ⟨aw (List.mem_append_right _ (List.mem_of_getElem? (i := 1) (by decide +kernel))) rfl, aw (List.mem_append_right _ (List.mem_of_getElem? (i := 501) (by decide +kernel))) rfl, ⟨by decide +kernel, by decide +kernel, by decide +kernel⟩, by decide⟩
theorem pl_X5_straps : plainFor yX5_straps = true := by decide +kernel
theorem mi_X5_straps : Cond.instanceMethod yX5_straps ∈ allw := aw (List.mem_append_right _ (List.mem_of_getElem? (i := 499) (by decide +kernel))) rfl
theorem ml_X5_straps : Cond.selects yX5_straps.cls yX5_straps yX5_straps ∈ allw := aw (List.mem_append_right _ (List.mem_of_getElem? (i := 500) (by decide +kernel))) rfl
theorem mm_X5_count : lkM yX5_count cX5_count 2 (some .int) 1 := ⟨aw (List.mem_append_right _ (List.mem_of_getElem? (i := 1) (by decide +kernel))) rfl, aw (List.mem_append_right _ (List.mem_of_getElem? (i := 505) (by decide +kernel))) rfl, ⟨by decide +kernel, by decide +kernel, by decide +kernel⟩, by decide⟩
theorem pl_X5_count : plainFor yX5_count = true := by decide +kernel
theorem mi_X5_count : Cond.instanceMethod yX5_count ∈ allw := aw (List.mem_append_right _ (List.mem_of_getElem? (i := 503) (by decide +kernel))) rfl
theorem ml_X5_count : Cond.selects yX5_count.cls yX5_count yX5_count ∈ allw := aw (List.mem_append_right _ (List.mem_of_getElem? (i := 504) (by decide +kernel))) rfl
theorem mm_X0_tellCount : lkM yX0_tellCount cX0_tellCount 2 (some .int) 1 := ⟨aw (List.mem_append_right _ (List.mem_of_getElem? (i := 2) (by decide +kernel))) rfl, aw (List.mem_append_right _ (List.mem_of_getElem? (i := 509) (by decide +kernel))) rfl, ⟨by decide +kernel, by decide +kernel, by decide +kernel⟩, by decide⟩
theorem pl_X0_tellCount : plainFor yX0_tellCount = true := by decide +kernel
theorem mi_X0_tellCount : Cond.instanceMethod yX0_tellCount ∈ allw := aw (List.mem_append_right _ (List.mem_of_getElem? (i := 507) (by decide +kernel))) rfl
theorem ml_X0_tellCount : Cond.selects yX0_tellCount.cls yX0_tellCount yX0_tellCount ∈ allw := aw (List.mem_append_right _ (List.mem_of_getElem? (i := 508) (by decide +kernel))) rfl
theorem mm_X0_jobsInState : lkM yX0_jobsInState cX0_jobsInState 4 (some .int) 1 := ⟨aw (List.mem_append_right _ (List.mem_of_getElem? (i := 2) (by decide +kernel))) rfl, aw (List.mem_append_right _ (List.mem_of_getElem? (i := 513) (by decide +kernel))) rfl, ⟨by decide +kernel, by decide +kernel, by decide +kernel⟩, by decide⟩
theorem pl_X0_jobsInState : plainFor yX0_jobsInState = true := by decide +kernel
theorem mi_X0_jobsInState : Cond.instanceMethod yX0_jobsInState ∈ allw := aw (List.mem_append_right _ (List.mem_of_getElem? (i := 512) (by decide +kernel))) rfl
theorem ml_X0_jobsInState : Cond.selects yX0_jobsInState.cls yX0_jobsInState yX0_jobsInState ∈ allw := aw (List.mem_append_left _ (List.mem_of_getElem? (i := 11) (by decide +kernel))) rfl
theorem mm_X0_lateJobs : lkM yX0_lateJobs cX0_lateJobs 3 (some .int) 0 := ⟨aw (List.mem_append_right _ (List.mem_of_getElem? (i := 2) (by decide +kernel))) rfl, aw (List.mem_append_right _ (List.mem_of_getElem? (i := 517) (by decide +kernel))) rfl, ⟨by decide +kernel, by decide +kernel, by decide +kernel⟩, by decide⟩
theorem pl_X0_lateJobs : plainFor yX0_lateJobs = true := by decide +kernel
theorem mi_X0_lateJobs : Cond.instanceMethod yX0_lateJobs ∈ allw := aw (List.mem_append_right _ (List.mem_of_getElem? (i := 516) (by decide +kernel))) rfl
theorem ml_X0_lateJobs : Cond.selects yX0_lateJobs.cls yX0_lateJobs yX0_lateJobs ∈ allw := aw (List.mem_append_left _ (List.mem_of_getElem? (i := 12) (by decide +kernel))) rfl
theorem mm_X5_why : lkM yX5_why cX5_why 4 (some .int) 3 := ⟨aw (List.mem_append_right _ (List.mem_of_getElem? (i := 1) (by decide +kernel))) rfl, aw (List.mem_append_right _ (List.mem_of_getElem? (i := 521) (by decide +kernel))) rfl, ⟨by decide +kernel, by decide +kernel, by decide +kernel⟩, by decide⟩
theorem pl_X5_why : plainFor yX5_why = true := by decide +kernel
theorem mi_X5_why : Cond.instanceMethod yX5_why ∈ allw := aw (List.mem_append_right _ (List.mem_of_getElem? (i := 519) (by decide +kernel))) rfl
theorem ml_X5_why : Cond.selects yX5_why.cls yX5_why yX5_why ∈ allw := aw (List.mem_append_right _ (List.mem_of_getElem? (i := 520) (by decide +kernel))) rfl
theorem mm_X5_crew : lkM yX5_crew cX5_crew 3 (some .int) 2 := ⟨aw (List.mem_append_right _ (List.mem_of_getElem? (i := 1) (by decide +kernel))) rfl, aw (List.mem_append_right _ (List.mem_of_getElem? (i := 526) (by decide +kernel))) rfl, ⟨by decide +kernel, by decide +kernel, by decide +kernel⟩, by decide⟩
theorem pl_X5_crew : plainFor yX5_crew = true := by decide +kernel
theorem mi_X5_crew : Cond.instanceMethod yX5_crew ∈ allw := aw (List.mem_append_right _ (List.mem_of_getElem? (i := 524) (by decide +kernel))) rfl
theorem ml_X5_crew : Cond.selects yX5_crew.cls yX5_crew yX5_crew ∈ allw := aw (List.mem_append_right _ (List.mem_of_getElem? (i := 525) (by decide +kernel))) rfl
theorem mm_X5_bestStraps : lkM yX5_bestStraps cX5_bestStraps 2 (some .int) 1 := ⟨aw (List.mem_append_right _ (List.mem_of_getElem? (i := 1) (by decide +kernel))) rfl, aw (List.mem_append_right _ (List.mem_of_getElem? (i := 532) (by decide +kernel))) rfl, ⟨by decide +kernel, by decide +kernel, by decide +kernel⟩, by decide⟩
theorem pl_X5_bestStraps : plainFor yX5_bestStraps = true := by decide +kernel
theorem mi_X5_bestStraps : Cond.instanceMethod yX5_bestStraps ∈ allw := aw (List.mem_append_right _ (List.mem_of_getElem? (i := 530) (by decide +kernel))) rfl
theorem ml_X5_bestStraps : Cond.selects yX5_bestStraps.cls yX5_bestStraps yX5_bestStraps ∈ allw := aw (List.mem_append_right _ (List.mem_of_getElem? (i := 531) (by decide +kernel))) rfl
theorem mm_X5_doneIn : lkM yX5_doneIn cX5_doneIn 3 (some .int) 1 := ⟨aw (List.mem_append_right _ (List.mem_of_getElem? (i := 1) (by decide +kernel))) rfl, aw (List.mem_append_right _ (List.mem_of_getElem? (i := 537) (by decide +kernel))) rfl, ⟨by decide +kernel, by decide +kernel, by decide +kernel⟩, by decide⟩
theorem pl_X5_doneIn : plainFor yX5_doneIn = true := by decide +kernel
theorem mi_X5_doneIn : Cond.instanceMethod yX5_doneIn ∈ allw := aw (List.mem_append_right _ (List.mem_of_getElem? (i := 535) (by decide +kernel))) rfl
theorem ml_X5_doneIn : Cond.selects yX5_doneIn.cls yX5_doneIn yX5_doneIn ∈ allw := aw (List.mem_append_right _ (List.mem_of_getElem? (i := 536) (by decide +kernel))) rfl
theorem mm_X5_ifAssigned : lkM yX5_ifAssigned cX5_ifAssigned 1 (some .int) 0 := ⟨aw (List.mem_append_right _ (List.mem_of_getElem? (i := 1) (by decide +kernel))) rfl, aw (List.mem_append_right _ (List.mem_of_getElem? (i := 543) (by decide +kernel))) rfl, ⟨by decide +kernel, by decide +kernel, by decide +kernel⟩, by decide⟩
theorem pl_X5_ifAssigned : plainFor yX5_ifAssigned = true := by decide +kernel
theorem mi_X5_ifAssigned : Cond.instanceMethod yX5_ifAssigned ∈ allw := aw (List.mem_append_right _ (List.mem_of_getElem? (i := 541) (by decide +kernel))) rfl
theorem ml_X5_ifAssigned : Cond.selects yX5_ifAssigned.cls yX5_ifAssigned yX5_ifAssigned ∈ allw := aw (List.mem_append_right _ (List.mem_of_getElem? (i := 542) (by decide +kernel))) rfl
theorem mm_X5_put : lkM yX5_put cX5_put 3 (some .int) 1 := ⟨aw (List.mem_append_right _ (List.mem_of_getElem? (i := 1) (by decide +kernel))) rfl, aw (List.mem_append_right _ (List.mem_of_getElem? (i := 547) (by decide +kernel))) rfl, ⟨by decide +kernel, by decide +kernel, by decide +kernel⟩, by decide⟩
theorem pl_X5_put : plainFor yX5_put = true := by decide +kernel
theorem mi_X5_put : Cond.instanceMethod yX5_put ∈ allw := aw (List.mem_append_right _ (List.mem_of_getElem? (i := 545) (by decide +kernel))) rfl
theorem ml_X5_put : Cond.selects yX5_put.cls yX5_put yX5_put ∈ allw := aw (List.mem_append_right _ (List.mem_of_getElem? (i := 546) (by decide +kernel))) rfl
theorem mm_X3_append : lkM yX3_append cX3_append 5 (some .int) 1 := ⟨aw (List.mem_append_right _ (List.mem_of_getElem? (i := 6) (by decide +kernel))) rfl, aw (List.mem_append_right _ (List.mem_of_getElem? (i := 551) (by decide +kernel))) rfl, ⟨by decide +kernel, by decide +kernel, by decide +kernel⟩, by decide⟩
theorem pl_X3_append : plainFor yX3_append = true := by decide +kernel
theorem mi_X3_append : Cond.instanceMethod yX3_append ∈ allw := aw (List.mem_append_right _ (List.mem_of_getElem? (i := 549) (by decide +kernel))) rfl
theorem ml_X3_append : Cond.selects yX3_append.cls yX3_append yX3_append ∈ allw := aw (List.mem_append_right _ (List.mem_of_getElem? (i := 550) (by decide +kernel))) rfl
theorem mm_X3_signsIn : lkM yX3_signsIn cX3_signsIn 4 (some .int) 1 := ⟨aw (List.mem_append_right _ (List.mem_of_getElem? (i := 6) (by decide +kernel))) rfl, aw (List.mem_append_right _ (List.mem_of_getElem? (i := 554) (by decide +kernel))) rfl, ⟨by decide +kernel, by decide +kernel, by decide +kernel⟩, by decide⟩
theorem pl_X3_signsIn : plainFor yX3_signsIn = true := by decide +kernel
theorem ms_X3_signsIn : Cond.static yX3_signsIn ∈ allw := aw (List.mem_append_right _ (List.mem_of_getElem? (i := 553) (by decide +kernel))) rfl
theorem mm_X3_signOf : lkM yX3_signOf cX3_signOf 3 (some .int) 2 := ⟨aw (List.mem_append_right _ (List.mem_of_getElem? (i := 6) (by decide +kernel))) rfl, aw (List.mem_append_right _ (List.mem_of_getElem? (i := 557) (by decide +kernel))) rfl, ⟨by decide +kernel, by decide +kernel, by decide +kernel⟩, by decide⟩
theorem pl_X3_signOf : plainFor yX3_signOf = true := by decide +kernel
theorem ms_X3_signOf : Cond.static yX3_signOf ∈ allw := aw (List.mem_append_right _ (List.mem_of_getElem? (i := 556) (by decide +kernel))) rfl
theorem mm_X5_wipe : lkM yX5_wipe cX5_wipe 1 (some .int) 0 := ⟨aw (List.mem_append_right _ (List.mem_of_getElem? (i := 1) (by decide +kernel))) rfl, aw (List.mem_append_right _ (List.mem_of_getElem? (i := 562) (by decide +kernel))) rfl, ⟨by decide +kernel, by decide +kernel, by decide +kernel⟩, by decide⟩
theorem pl_X5_wipe : plainFor yX5_wipe = true := by decide +kernel
theorem mi_X5_wipe : Cond.instanceMethod yX5_wipe ∈ allw := aw (List.mem_append_right _ (List.mem_of_getElem? (i := 560) (by decide +kernel))) rfl
theorem ml_X5_wipe : Cond.selects yX5_wipe.cls yX5_wipe yX5_wipe ∈ allw := aw (List.mem_append_right _ (List.mem_of_getElem? (i := 561) (by decide +kernel))) rfl
theorem mm_X3_empty : lkM yX3_empty cX3_empty 2 (some .int) 0 := ⟨aw (List.mem_append_right _ (List.mem_of_getElem? (i := 6) (by decide +kernel))) rfl, aw (List.mem_append_right _ (List.mem_of_getElem? (i := 566) (by decide +kernel))) rfl, ⟨by decide +kernel, by decide +kernel, by decide +kernel⟩, by decide⟩
theorem pl_X3_empty : plainFor yX3_empty = true := by decide +kernel
theorem mi_X3_empty : Cond.instanceMethod yX3_empty ∈ allw := aw (List.mem_append_right _ (List.mem_of_getElem? (i := 564) (by decide +kernel))) rfl
theorem ml_X3_empty : Cond.selects yX3_empty.cls yX3_empty yX3_empty ∈ allw := aw (List.mem_append_right _ (List.mem_of_getElem? (i := 565) (by decide +kernel))) rfl
theorem mm_X5_fault : lkM yX5_fault cX5_fault 1 (some .int) 0 := ⟨aw (List.mem_append_right _ (List.mem_of_getElem? (i := 1) (by decide +kernel))) rfl, aw (List.mem_append_right _ (List.mem_of_getElem? (i := 570) (by decide +kernel))) rfl, ⟨by decide +kernel, by decide +kernel, by decide +kernel⟩, by decide⟩
theorem pl_X5_fault : plainFor yX5_fault = true := by decide +kernel
theorem mi_X5_fault : Cond.instanceMethod yX5_fault ∈ allw := aw (List.mem_append_right _ (List.mem_of_getElem? (i := 568) (by decide +kernel))) rfl
theorem ml_X5_fault : Cond.selects yX5_fault.cls yX5_fault yX5_fault ∈ allw := aw (List.mem_append_right _ (List.mem_of_getElem? (i := 569) (by decide +kernel))) rfl
theorem mm_X3_findFault : lkM yX3_findFault cX3_findFault 2 (some .int) 0 := ⟨aw (List.mem_append_right _ (List.mem_of_getElem? (i := 6) (by decide +kernel))) rfl, aw (List.mem_append_right _ (List.mem_of_getElem? (i := 574) (by decide +kernel))) rfl, ⟨by decide +kernel, by decide +kernel, by decide +kernel⟩, by decide⟩
theorem pl_X3_findFault : plainFor yX3_findFault = true := by decide +kernel
theorem mi_X3_findFault : Cond.instanceMethod yX3_findFault ∈ allw := aw (List.mem_append_right _ (List.mem_of_getElem? (i := 572) (by decide +kernel))) rfl
theorem ml_X3_findFault : Cond.selects yX3_findFault.cls yX3_findFault yX3_findFault ∈ allw := aw (List.mem_append_right _ (List.mem_of_getElem? (i := 573) (by decide +kernel))) rfl
theorem mm_X3_startReading : lkM yX3_startReading cX3_startReading 1 none 0 := ⟨aw (List.mem_append_right _ (List.mem_of_getElem? (i := 6) (by decide +kernel))) rfl, aw (List.mem_append_right _ (List.mem_of_getElem? (i := 578) (by decide +kernel))) rfl, ⟨by decide +kernel, by decide +kernel, by decide +kernel⟩, by decide⟩
theorem pl_X3_startReading : plainFor yX3_startReading = true := by decide +kernel
theorem mi_X3_startReading : Cond.instanceMethod yX3_startReading ∈ allw := aw (List.mem_append_right _ (List.mem_of_getElem? (i := 576) (by decide +kernel))) rfl
theorem ml_X3_startReading : Cond.selects yX3_startReading.cls yX3_startReading yX3_startReading ∈ allw := aw (List.mem_append_right _ (List.mem_of_getElem? (i := 577) (by decide +kernel))) rfl
theorem mm_X3_readOrder : lkM yX3_readOrder cX3_readOrder 1 (some .boolean) 0 := ⟨aw (List.mem_append_right _ (List.mem_of_getElem? (i := 6) (by decide +kernel))) rfl, aw (List.mem_append_right _ (List.mem_of_getElem? (i := 582) (by decide +kernel))) rfl, ⟨by decide +kernel, by decide +kernel, by decide +kernel⟩, by decide⟩
theorem pl_X3_readOrder : plainFor yX3_readOrder = true := by decide +kernel
theorem mi_X3_readOrder : Cond.instanceMethod yX3_readOrder ∈ allw := aw (List.mem_append_right _ (List.mem_of_getElem? (i := 580) (by decide +kernel))) rfl
theorem ml_X3_readOrder : Cond.selects yX3_readOrder.cls yX3_readOrder yX3_readOrder ∈ allw := aw (List.mem_append_right _ (List.mem_of_getElem? (i := 581) (by decide +kernel))) rfl
theorem mm_X3_signHere : lkM yX3_signHere cX3_signHere 1 (some .int) 0 := ⟨aw (List.mem_append_right _ (List.mem_of_getElem? (i := 6) (by decide +kernel))) rfl, aw (List.mem_append_right _ (List.mem_of_getElem? (i := 586) (by decide +kernel))) rfl, ⟨by decide +kernel, by decide +kernel, by decide +kernel⟩, by decide⟩
theorem pl_X3_signHere : plainFor yX3_signHere = true := by decide +kernel
theorem mi_X3_signHere : Cond.instanceMethod yX3_signHere ∈ allw := aw (List.mem_append_right _ (List.mem_of_getElem? (i := 585) (by decide +kernel))) rfl
theorem ml_X3_signHere : Cond.selects yX3_signHere.cls yX3_signHere yX3_signHere ∈ allw := aw (List.mem_append_left _ (List.mem_of_getElem? (i := 13) (by decide +kernel))) rfl
theorem mm_J0_indexOf_0f7a4 : lkM yJ0_indexOf_0f7a4 cJ0_indexOf_0f7a4 2 (some .int) 1 := ⟨aw (List.mem_append_right _ (List.mem_of_getElem? (i := 11) (by decide +kernel))) rfl, aw (List.mem_append_right _ (List.mem_of_getElem? (i := 591) (by decide +kernel))) rfl, ⟨by decide +kernel, by decide +kernel, by decide +kernel⟩, by decide⟩
theorem pl_J0_indexOf_0f7a4 : plainFor yJ0_indexOf_0f7a4 = true := by decide +kernel
theorem mi_J0_indexOf_0f7a4 : Cond.instanceMethod yJ0_indexOf_0f7a4 ∈ allw := aw (List.mem_append_right _ (List.mem_of_getElem? (i := 589) (by decide +kernel))) rfl
theorem ml_J0_indexOf_0f7a4 : Cond.selects yJ0_indexOf_0f7a4.cls yJ0_indexOf_0f7a4 yJ0_indexOf_0f7a4 ∈ allw := aw (List.mem_append_right _ (List.mem_of_getElem? (i := 590) (by decide +kernel))) rfl
theorem mm_J0_indexOf_7cf53 : lkM yJ0_indexOf_7cf53 cJ0_indexOf_7cf53 3 (some .int) 2 := ⟨aw (List.mem_append_right _ (List.mem_of_getElem? (i := 11) (by decide +kernel))) rfl, aw (List.mem_append_right _ (List.mem_of_getElem? (i := 595) (by decide +kernel))) rfl, ⟨by decide +kernel, by decide +kernel, by decide +kernel⟩, by decide⟩
theorem pl_J0_indexOf_7cf53 : plainFor yJ0_indexOf_7cf53 = true := by decide +kernel
theorem mi_J0_indexOf_7cf53 : Cond.instanceMethod yJ0_indexOf_7cf53 ∈ allw := aw (List.mem_append_right _ (List.mem_of_getElem? (i := 593) (by decide +kernel))) rfl
theorem ml_J0_indexOf_7cf53 : Cond.selects yJ0_indexOf_7cf53.cls yJ0_indexOf_7cf53 yJ0_indexOf_7cf53 ∈ allw := aw (List.mem_append_right _ (List.mem_of_getElem? (i := 594) (by decide +kernel))) rfl
theorem mm_J0_isLatin1_aae02 : lkM yJ0_isLatin1_aae02 cJ0_isLatin1_aae02 1 (some .boolean) 0 := ⟨aw (List.mem_append_right _ (List.mem_of_getElem? (i := 11) (by decide +kernel))) rfl, aw (List.mem_append_right _ (List.mem_of_getElem? (i := 599) (by decide +kernel))) rfl, ⟨by decide +kernel, by decide +kernel, by decide +kernel⟩, by decide⟩
theorem pl_J0_isLatin1_aae02 : plainFor yJ0_isLatin1_aae02 = true := by decide +kernel
theorem mi_J0_isLatin1_aae02 : Cond.instanceMethod yJ0_isLatin1_aae02 ∈ allw := aw (List.mem_append_right _ (List.mem_of_getElem? (i := 597) (by decide +kernel))) rfl
theorem ml_J0_isLatin1_aae02 : Cond.selects yJ0_isLatin1_aae02.cls yJ0_isLatin1_aae02 yJ0_isLatin1_aae02 ∈ allw := aw (List.mem_append_right _ (List.mem_of_getElem? (i := 598) (by decide +kernel))) rfl
theorem mm_J0_length_8abf5 : lkM yJ0_length_8abf5 cJ0_length_8abf5 1 (some .int) 0 := ⟨aw (List.mem_append_right _ (List.mem_of_getElem? (i := 11) (by decide +kernel))) rfl, aw (List.mem_append_right _ (List.mem_of_getElem? (i := 605) (by decide +kernel))) rfl, ⟨by decide +kernel, by decide +kernel, by decide +kernel⟩, by decide⟩
theorem pl_J0_length_8abf5 : plainFor yJ0_length_8abf5 = true := by decide +kernel
theorem mi_J0_length_8abf5 : Cond.instanceMethod yJ0_length_8abf5 ∈ allw := aw (List.mem_append_right _ (List.mem_of_getElem? (i := 603) (by decide +kernel))) rfl
theorem ml_J0_length_8abf5 : Cond.selects yJ0_length_8abf5.cls yJ0_length_8abf5 yJ0_length_8abf5 ∈ allw := aw (List.mem_append_right _ (List.mem_of_getElem? (i := 604) (by decide +kernel))) rfl
theorem mm_J0_coder_7d493 : lkM yJ0_coder_7d493 cJ0_coder_7d493 1 (some .byte) 0 := ⟨aw (List.mem_append_right _ (List.mem_of_getElem? (i := 11) (by decide +kernel))) rfl, aw (List.mem_append_right _ (List.mem_of_getElem? (i := 609) (by decide +kernel))) rfl, ⟨by decide +kernel, by decide +kernel, by decide +kernel⟩, by decide⟩
theorem pl_J0_coder_7d493 : plainFor yJ0_coder_7d493 = true := by decide +kernel
theorem mi_J0_coder_7d493 : Cond.instanceMethod yJ0_coder_7d493 ∈ allw := aw (List.mem_append_right _ (List.mem_of_getElem? (i := 607) (by decide +kernel))) rfl
theorem ml_J0_coder_7d493 : Cond.selects yJ0_coder_7d493.cls yJ0_coder_7d493 yJ0_coder_7d493 ∈ allw := aw (List.mem_append_right _ (List.mem_of_getElem? (i := 608) (by decide +kernel))) rfl
theorem mm_J1_indexOf_4cfef : lkM yJ1_indexOf_4cfef cJ1_indexOf_4cfef 4 (some .int) 4 := ⟨aw (List.mem_append_right _ (List.mem_of_getElem? (i := 12) (by decide +kernel))) rfl, aw (List.mem_append_right _ (List.mem_of_getElem? (i := 612) (by decide +kernel))) rfl, ⟨by decide +kernel, by decide +kernel, by decide +kernel⟩, by decide⟩
theorem pl_J1_indexOf_4cfef : plainFor yJ1_indexOf_4cfef = true := by decide +kernel
theorem ms_J1_indexOf_4cfef : Cond.static yJ1_indexOf_4cfef ∈ allw := aw (List.mem_append_right _ (List.mem_of_getElem? (i := 611) (by decide +kernel))) rfl
theorem mm_J1_canEncode_9a6ad : lkM yJ1_canEncode_9a6ad cJ1_canEncode_9a6ad 1 (some .boolean) 1 := ⟨aw (List.mem_append_right _ (List.mem_of_getElem? (i := 12) (by decide +kernel))) rfl, aw (List.mem_append_right _ (List.mem_of_getElem? (i := 615) (by decide +kernel))) rfl, ⟨by decide +kernel, by decide +kernel, by decide +kernel⟩, by decide⟩
theorem pl_J1_canEncode_9a6ad : plainFor yJ1_canEncode_9a6ad = true := by decide +kernel
theorem ms_J1_canEncode_9a6ad : Cond.static yJ1_canEncode_9a6ad ∈ allw := aw (List.mem_append_right _ (List.mem_of_getElem? (i := 614) (by decide +kernel))) rfl
theorem mm_J1_indexOfChar_4cfef : lkM yJ1_indexOfChar_4cfef cJ1_indexOfChar_4cfef 6 (some .int) 4 := ⟨aw (List.mem_append_right _ (List.mem_of_getElem? (i := 12) (by decide +kernel))) rfl, aw (List.mem_append_right _ (List.mem_of_getElem? (i := 620) (by decide +kernel))) rfl, ⟨by decide +kernel, by decide +kernel, by decide +kernel⟩, by decide⟩
theorem pl_J1_indexOfChar_4cfef : plainFor yJ1_indexOfChar_4cfef = true := by decide +kernel
theorem ms_J1_indexOfChar_4cfef : Cond.static yJ1_indexOfChar_4cfef ∈ allw := aw (List.mem_append_right _ (List.mem_of_getElem? (i := 619) (by decide +kernel))) rfl
theorem mm_X3_formOf : lkM yX3_formOf cX3_formOf 1 (some (.object "java/lang/String")) 1 := ⟨aw (List.mem_append_right _ (List.mem_of_getElem? (i := 6) (by decide +kernel))) rfl, aw (List.mem_append_right _ (List.mem_of_getElem? (i := 672) (by decide +kernel))) rfl, ⟨by decide +kernel, by decide +kernel, by decide +kernel⟩, by decide⟩
theorem pl_X3_formOf : plainFor yX3_formOf = true := by decide +kernel
theorem ms_X3_formOf : Cond.static yX3_formOf ∈ allw := aw (List.mem_append_right _ (List.mem_of_getElem? (i := 671) (by decide +kernel))) rfl
theorem mm_X3_readForm : lkM yX3_readForm cX3_readForm 5 (some .boolean) 1 := ⟨aw (List.mem_append_right _ (List.mem_of_getElem? (i := 6) (by decide +kernel))) rfl, aw (List.mem_append_right _ (List.mem_of_getElem? (i := 681) (by decide +kernel))) rfl, ⟨by decide +kernel, by decide +kernel, by decide +kernel⟩, by decide⟩
theorem pl_X3_readForm : plainFor yX3_readForm = true := by decide +kernel
theorem mi_X3_readForm : Cond.instanceMethod yX3_readForm ∈ allw := aw (List.mem_append_right _ (List.mem_of_getElem? (i := 680) (by decide +kernel))) rfl
theorem ml_X3_readForm : Cond.selects yX3_readForm.cls yX3_readForm yX3_readForm ∈ allw := aw (List.mem_append_left _ (List.mem_of_getElem? (i := 14) (by decide +kernel))) rfl
theorem mm_J0_charAt_5068e : lkM yJ0_charAt_5068e cJ0_charAt_5068e 2 (some .char) 1 := ⟨aw (List.mem_append_right _ (List.mem_of_getElem? (i := 11) (by decide +kernel))) rfl, aw (List.mem_append_right _ (List.mem_of_getElem? (i := 686) (by decide +kernel))) rfl, ⟨by decide +kernel, by decide +kernel, by decide +kernel⟩, by decide⟩
theorem pl_J0_charAt_5068e : plainFor yJ0_charAt_5068e = true := by decide +kernel
theorem mi_J0_charAt_5068e : Cond.instanceMethod yJ0_charAt_5068e ∈ allw := aw (List.mem_append_right _ (List.mem_of_getElem? (i := 684) (by decide +kernel))) rfl
theorem ml_J0_charAt_5068e : Cond.selects yJ0_charAt_5068e.cls yJ0_charAt_5068e yJ0_charAt_5068e ∈ allw := aw (List.mem_append_right _ (List.mem_of_getElem? (i := 685) (by decide +kernel))) rfl
theorem mm_J1_charAt_3b067 : lkM yJ1_charAt_3b067 cJ1_charAt_3b067 2 (some .char) 2 := ⟨aw (List.mem_append_right _ (List.mem_of_getElem? (i := 12) (by decide +kernel))) rfl, aw (List.mem_append_right _ (List.mem_of_getElem? (i := 689) (by decide +kernel))) rfl, ⟨by decide +kernel, by decide +kernel, by decide +kernel⟩, by decide⟩
theorem pl_J1_charAt_3b067 : plainFor yJ1_charAt_3b067 = true := by decide +kernel
theorem ms_J1_charAt_3b067 : Cond.static yJ1_charAt_3b067 ∈ allw := aw (List.mem_append_right _ (List.mem_of_getElem? (i := 688) (by decide +kernel))) rfl
theorem mm_J0_checkIndex_df160 : lkM yJ0_checkIndex_df160 cJ0_checkIndex_df160 2 none 2 := ⟨aw (List.mem_append_right _ (List.mem_of_getElem? (i := 11) (by decide +kernel))) rfl, aw (List.mem_append_right _ (List.mem_of_getElem? (i := 692) (by decide +kernel))) rfl, ⟨by decide +kernel, by decide +kernel, by decide +kernel⟩, by decide⟩
theorem pl_J0_checkIndex_df160 : plainFor yJ0_checkIndex_df160 = true := by decide +kernel
theorem ms_J0_checkIndex_df160 : Cond.static yJ0_checkIndex_df160 ∈ allw := aw (List.mem_append_right _ (List.mem_of_getElem? (i := 691) (by decide +kernel))) rfl
theorem mm_J3_checkIndex_8e157 : lkM yJ3_checkIndex_8e157 cJ3_checkIndex_8e157 3 (some .int) 3 := ⟨aw (List.mem_append_right _ (List.mem_of_getElem? (i := 14) (by decide +kernel))) rfl, aw (List.mem_append_right _ (List.mem_of_getElem? (i := 695) (by decide +kernel))) rfl, ⟨by decide +kernel, by decide +kernel, by decide +kernel⟩, by decide⟩
theorem pl_J3_checkIndex_8e157 : plainFor yJ3_checkIndex_8e157 = true := by decide +kernel
theorem ms_J3_checkIndex_8e157 : Cond.static yJ3_checkIndex_8e157 ∈ allw := aw (List.mem_append_right _ (List.mem_of_getElem? (i := 694) (by decide +kernel))) rfl
theorem mm_X3_readNumber : lkM yX3_readNumber cX3_readNumber 4 (some .boolean) 1 := ⟨aw (List.mem_append_right _ (List.mem_of_getElem? (i := 6) (by decide +kernel))) rfl, aw (List.mem_append_right _ (List.mem_of_getElem? (i := 706) (by decide +kernel))) rfl, ⟨by decide +kernel, by decide +kernel, by decide +kernel⟩, by decide⟩
theorem pl_X3_readNumber : plainFor yX3_readNumber = true := by decide +kernel
theorem mi_X3_readNumber : Cond.instanceMethod yX3_readNumber ∈ allw := aw (List.mem_append_right _ (List.mem_of_getElem? (i := 705) (by decide +kernel))) rfl
theorem ml_X3_readNumber : Cond.selects yX3_readNumber.cls yX3_readNumber yX3_readNumber ∈ allw := aw (List.mem_append_left _ (List.mem_of_getElem? (i := 15) (by decide +kernel))) rfl
theorem mm_X3_isDigitHere : lkM yX3_isDigitHere cX3_isDigitHere 1 (some .boolean) 0 := ⟨aw (List.mem_append_right _ (List.mem_of_getElem? (i := 6) (by decide +kernel))) rfl, aw (List.mem_append_right _ (List.mem_of_getElem? (i := 710) (by decide +kernel))) rfl, ⟨by decide +kernel, by decide +kernel, by decide +kernel⟩, by decide⟩
theorem pl_X3_isDigitHere : plainFor yX3_isDigitHere = true := by decide +kernel
theorem mi_X3_isDigitHere : Cond.instanceMethod yX3_isDigitHere ∈ allw := aw (List.mem_append_right _ (List.mem_of_getElem? (i := 709) (by decide +kernel))) rfl
theorem ml_X3_isDigitHere : Cond.selects yX3_isDigitHere.cls yX3_isDigitHere yX3_isDigitHere ∈ allw := aw (List.mem_append_left _ (List.mem_of_getElem? (i := 16) (by decide +kernel))) rfl
theorem mm_X3_takeDigit : lkM yX3_takeDigit cX3_takeDigit 2 (some .int) 0 := ⟨aw (List.mem_append_right _ (List.mem_of_getElem? (i := 6) (by decide +kernel))) rfl, aw (List.mem_append_right _ (List.mem_of_getElem? (i := 714) (by decide +kernel))) rfl, ⟨by decide +kernel, by decide +kernel, by decide +kernel⟩, by decide⟩
theorem pl_X3_takeDigit : plainFor yX3_takeDigit = true := by decide +kernel
theorem mi_X3_takeDigit : Cond.instanceMethod yX3_takeDigit ∈ allw := aw (List.mem_append_right _ (List.mem_of_getElem? (i := 713) (by decide +kernel))) rfl
theorem ml_X3_takeDigit : Cond.selects yX3_takeDigit.cls yX3_takeDigit yX3_takeDigit ∈ allw := aw (List.mem_append_left _ (List.mem_of_getElem? (i := 17) (by decide +kernel))) rfl
theorem mm_X3_skip : lkM yX3_skip cX3_skip 2 (some .boolean) 1 := ⟨aw (List.mem_append_right _ (List.mem_of_getElem? (i := 6) (by decide +kernel))) rfl, aw (List.mem_append_right _ (List.mem_of_getElem? (i := 718) (by decide +kernel))) rfl, ⟨by decide +kernel, by decide +kernel, by decide +kernel⟩, by decide⟩
theorem pl_X3_skip : plainFor yX3_skip = true := by decide +kernel
theorem mi_X3_skip : Cond.instanceMethod yX3_skip ∈ allw := aw (List.mem_append_right _ (List.mem_of_getElem? (i := 716) (by decide +kernel))) rfl
theorem ml_X3_skip : Cond.selects yX3_skip.cls yX3_skip yX3_skip ∈ allw := aw (List.mem_append_right _ (List.mem_of_getElem? (i := 717) (by decide +kernel))) rfl
theorem mm_X3_readCrew : lkM yX3_readCrew cX3_readCrew 2 (some .boolean) 0 := ⟨aw (List.mem_append_right _ (List.mem_of_getElem? (i := 6) (by decide +kernel))) rfl, aw (List.mem_append_right _ (List.mem_of_getElem? (i := 722) (by decide +kernel))) rfl, ⟨by decide +kernel, by decide +kernel, by decide +kernel⟩, by decide⟩
theorem pl_X3_readCrew : plainFor yX3_readCrew = true := by decide +kernel
theorem mi_X3_readCrew : Cond.instanceMethod yX3_readCrew ∈ allw := aw (List.mem_append_right _ (List.mem_of_getElem? (i := 721) (by decide +kernel))) rfl
theorem ml_X3_readCrew : Cond.selects yX3_readCrew.cls yX3_readCrew yX3_readCrew ∈ allw := aw (List.mem_append_left _ (List.mem_of_getElem? (i := 18) (by decide +kernel))) rfl
theorem mm_X5_carryOut : lkM yX5_carryOut cX5_carryOut 2 (some .int) 0 := ⟨aw (List.mem_append_right _ (List.mem_of_getElem? (i := 1) (by decide +kernel))) rfl, aw (List.mem_append_right _ (List.mem_of_getElem? (i := 727) (by decide +kernel))) rfl, ⟨by decide +kernel, by decide +kernel, by decide +kernel⟩, by decide⟩
theorem pl_X5_carryOut : plainFor yX5_carryOut = true := by decide +kernel
theorem mi_X5_carryOut : Cond.instanceMethod yX5_carryOut ∈ allw := aw (List.mem_append_right _ (List.mem_of_getElem? (i := 725) (by decide +kernel))) rfl
theorem ml_X5_carryOut : Cond.selects yX5_carryOut.cls yX5_carryOut yX5_carryOut ∈ allw := aw (List.mem_append_right _ (List.mem_of_getElem? (i := 726) (by decide +kernel))) rfl
theorem mm_X5_obeyOrder : lkM yX5_obeyOrder cX5_obeyOrder 2 (some .int) 0 := ⟨aw (List.mem_append_right _ (List.mem_of_getElem? (i := 1) (by decide +kernel))) rfl, aw (List.mem_append_right _ (List.mem_of_getElem? (i := 733) (by decide +kernel))) rfl, ⟨by decide +kernel, by decide +kernel, by decide +kernel⟩, by decide⟩
theorem pl_X5_obeyOrder : plainFor yX5_obeyOrder = true := by decide +kernel
theorem mi_X5_obeyOrder : Cond.instanceMethod yX5_obeyOrder ∈ allw := aw (List.mem_append_right _ (List.mem_of_getElem? (i := 732) (by decide +kernel))) rfl
theorem ml_X5_obeyOrder : Cond.selects yX5_obeyOrder.cls yX5_obeyOrder yX5_obeyOrder ∈ allw := aw (List.mem_append_left _ (List.mem_of_getElem? (i := 19) (by decide +kernel))) rfl
theorem mm_X3_number : lkM yX3_number cX3_number 2 (some .int) 1 := ⟨aw (List.mem_append_right _ (List.mem_of_getElem? (i := 6) (by decide +kernel))) rfl, aw (List.mem_append_right _ (List.mem_of_getElem? (i := 737) (by decide +kernel))) rfl, ⟨by decide +kernel, by decide +kernel, by decide +kernel⟩, by decide⟩
theorem pl_X3_number : plainFor yX3_number = true := by decide +kernel
theorem mi_X3_number : Cond.instanceMethod yX3_number ∈ allw := aw (List.mem_append_right _ (List.mem_of_getElem? (i := 735) (by decide +kernel))) rfl
theorem ml_X3_number : Cond.selects yX3_number.cls yX3_number yX3_number ∈ allw := aw (List.mem_append_right _ (List.mem_of_getElem? (i := 736) (by decide +kernel))) rfl
theorem mm_X5_undo : lkM yX5_undo cX5_undo 1 (some .int) 0 := ⟨aw (List.mem_append_right _ (List.mem_of_getElem? (i := 1) (by decide +kernel))) rfl, aw (List.mem_append_right _ (List.mem_of_getElem? (i := 742) (by decide +kernel))) rfl, ⟨by decide +kernel, by decide +kernel, by decide +kernel⟩, by decide⟩
theorem pl_X5_undo : plainFor yX5_undo = true := by decide +kernel
theorem mi_X5_undo : Cond.instanceMethod yX5_undo ∈ allw := aw (List.mem_append_right _ (List.mem_of_getElem? (i := 740) (by decide +kernel))) rfl
theorem ml_X5_undo : Cond.selects yX5_undo.cls yX5_undo yX5_undo ∈ allw := aw (List.mem_append_right _ (List.mem_of_getElem? (i := 741) (by decide +kernel))) rfl
theorem mm_X1_takeBack : lkM yX1_takeBack cX1_takeBack 2 (some .int) 1 := ⟨aw (List.mem_append_right _ (List.mem_of_getElem? (i := 5) (by decide +kernel))) rfl, aw (List.mem_append_right _ (List.mem_of_getElem? (i := 746) (by decide +kernel))) rfl, ⟨by decide +kernel, by decide +kernel, by decide +kernel⟩, by decide⟩
theorem pl_X1_takeBack : plainFor yX1_takeBack = true := by decide +kernel
theorem mi_X1_takeBack : Cond.instanceMethod yX1_takeBack ∈ allw := aw (List.mem_append_right _ (List.mem_of_getElem? (i := 744) (by decide +kernel))) rfl
theorem ml_X1_takeBack : Cond.selects yX1_takeBack.cls yX1_takeBack yX1_takeBack ∈ allw := aw (List.mem_append_right _ (List.mem_of_getElem? (i := 745) (by decide +kernel))) rfl
theorem mm_X5_save : lkM yX5_save cX5_save 2 (some .int) 1 := ⟨aw (List.mem_append_right _ (List.mem_of_getElem? (i := 1) (by decide +kernel))) rfl, aw (List.mem_append_right _ (List.mem_of_getElem? (i := 750) (by decide +kernel))) rfl, ⟨by decide +kernel, by decide +kernel, by decide +kernel⟩, by decide⟩
theorem pl_X5_save : plainFor yX5_save = true := by decide +kernel
theorem mi_X5_save : Cond.instanceMethod yX5_save ∈ allw := aw (List.mem_append_right _ (List.mem_of_getElem? (i := 748) (by decide +kernel))) rfl
theorem ml_X5_save : Cond.selects yX5_save.cls yX5_save yX5_save ∈ allw := aw (List.mem_append_right _ (List.mem_of_getElem? (i := 749) (by decide +kernel))) rfl
theorem mm_X5_isSlot : lkM yX5_isSlot cX5_isSlot 1 (some .boolean) 1 := ⟨aw (List.mem_append_right _ (List.mem_of_getElem? (i := 1) (by decide +kernel))) rfl, aw (List.mem_append_right _ (List.mem_of_getElem? (i := 753) (by decide +kernel))) rfl, ⟨by decide +kernel, by decide +kernel, by decide +kernel⟩, by decide⟩
theorem pl_X5_isSlot : plainFor yX5_isSlot = true := by decide +kernel
theorem ms_X5_isSlot : Cond.static yX5_isSlot ∈ allw := aw (List.mem_append_right _ (List.mem_of_getElem? (i := 752) (by decide +kernel))) rfl
theorem mm_X5_restore : lkM yX5_restore cX5_restore 2 (some .int) 1 := ⟨aw (List.mem_append_right _ (List.mem_of_getElem? (i := 1) (by decide +kernel))) rfl, aw (List.mem_append_right _ (List.mem_of_getElem? (i := 758) (by decide +kernel))) rfl, ⟨by decide +kernel, by decide +kernel, by decide +kernel⟩, by decide⟩
theorem pl_X5_restore : plainFor yX5_restore = true := by decide +kernel
theorem mi_X5_restore : Cond.instanceMethod yX5_restore ∈ allw := aw (List.mem_append_right _ (List.mem_of_getElem? (i := 756) (by decide +kernel))) rfl
theorem ml_X5_restore : Cond.selects yX5_restore.cls yX5_restore yX5_restore ∈ allw := aw (List.mem_append_right _ (List.mem_of_getElem? (i := 757) (by decide +kernel))) rfl
theorem mm_X6_init : lkM yX6_init cX6_init 2 none 0 := ⟨aw (List.mem_append_right _ (List.mem_of_getElem? (i := 7) (by decide +kernel))) rfl, aw (List.mem_append_right _ (List.mem_of_getElem? (i := 763) (by decide +kernel))) rfl, ⟨by decide +kernel, by decide +kernel, by decide +kernel⟩, by decide⟩
theorem pl_X6_init : plainFor yX6_init = true := by decide +kernel
theorem mi_X6_init : Cond.instanceMethod yX6_init ∈ allw := aw (List.mem_append_right _ (List.mem_of_getElem? (i := 762) (by decide +kernel))) rfl
theorem mm_X6_set : lkM yX6_set cX6_set 4 (some .int) 2 := ⟨aw (List.mem_append_right _ (List.mem_of_getElem? (i := 7) (by decide +kernel))) rfl, aw (List.mem_append_right _ (List.mem_of_getElem? (i := 808) (by decide +kernel))) rfl, ⟨by decide +kernel, by decide +kernel, by decide +kernel⟩, by decide⟩
theorem pl_X6_set : plainFor yX6_set = true := by decide +kernel
theorem mi_X6_set : Cond.instanceMethod yX6_set ∈ allw := aw (List.mem_append_right _ (List.mem_of_getElem? (i := 806) (by decide +kernel))) rfl
theorem ml_X6_set : Cond.selects yX6_set.cls yX6_set yX6_set ∈ allw := aw (List.mem_append_right _ (List.mem_of_getElem? (i := 807) (by decide +kernel))) rfl
theorem mm_X6_in : lkM yX6_in cX6_in 3 (some .boolean) 3 := ⟨aw (List.mem_append_right _ (List.mem_of_getElem? (i := 7) (by decide +kernel))) rfl, aw (List.mem_append_right _ (List.mem_of_getElem? (i := 811) (by decide +kernel))) rfl, ⟨by decide +kernel, by decide +kernel, by decide +kernel⟩, by decide⟩
theorem pl_X6_in : plainFor yX6_in = true := by decide +kernel
theorem ms_X6_in : Cond.static yX6_in ∈ allw := aw (List.mem_append_right _ (List.mem_of_getElem? (i := 810) (by decide +kernel))) rfl
theorem mm_X6_leastOf : lkM yX6_leastOf cX6_leastOf 1 (some .int) 1 := ⟨aw (List.mem_append_right _ (List.mem_of_getElem? (i := 7) (by decide +kernel))) rfl, aw (List.mem_append_right _ (List.mem_of_getElem? (i := 814) (by decide +kernel))) rfl, ⟨by decide +kernel, by decide +kernel, by decide +kernel⟩, by decide⟩
theorem pl_X6_leastOf : plainFor yX6_leastOf = true := by decide +kernel
theorem ms_X6_leastOf : Cond.static yX6_leastOf ∈ allw := aw (List.mem_append_right _ (List.mem_of_getElem? (i := 813) (by decide +kernel))) rfl
theorem mm_X6_mostOf : lkM yX6_mostOf cX6_mostOf 1 (some .int) 1 := ⟨aw (List.mem_append_right _ (List.mem_of_getElem? (i := 7) (by decide +kernel))) rfl, aw (List.mem_append_right _ (List.mem_of_getElem? (i := 817) (by decide +kernel))) rfl, ⟨by decide +kernel, by decide +kernel, by decide +kernel⟩, by decide⟩
theorem pl_X6_mostOf : plainFor yX6_mostOf = true := by decide +kernel
theorem ms_X6_mostOf : Cond.static yX6_mostOf ∈ allw := aw (List.mem_append_right _ (List.mem_of_getElem? (i := 816) (by decide +kernel))) rfl
theorem mm_X6_records : lkM yX6_records cX6_records 2 none 0 := ⟨aw (List.mem_append_right _ (List.mem_of_getElem? (i := 7) (by decide +kernel))) rfl, aw (List.mem_append_right _ (List.mem_of_getElem? (i := 821) (by decide +kernel))) rfl, ⟨by decide +kernel, by decide +kernel, by decide +kernel⟩, by decide⟩
theorem pl_X6_records : plainFor yX6_records = true := by decide +kernel
theorem mi_X6_records : Cond.instanceMethod yX6_records ∈ allw := aw (List.mem_append_right _ (List.mem_of_getElem? (i := 820) (by decide +kernel))) rfl
theorem ml_X6_records : Cond.selects yX6_records.cls yX6_records yX6_records ∈ allw := aw (List.mem_append_left _ (List.mem_of_getElem? (i := 20) (by decide +kernel))) rfl
theorem mm_X6_person : lkM yX6_person cX6_person 3 (some .int) 1 := ⟨aw (List.mem_append_right _ (List.mem_of_getElem? (i := 7) (by decide +kernel))) rfl, aw (List.mem_append_right _ (List.mem_of_getElem? (i := 825) (by decide +kernel))) rfl, ⟨by decide +kernel, by decide +kernel, by decide +kernel⟩, by decide⟩
theorem pl_X6_person : plainFor yX6_person = true := by decide +kernel
theorem mi_X6_person : Cond.instanceMethod yX6_person ∈ allw := aw (List.mem_append_right _ (List.mem_of_getElem? (i := 823) (by decide +kernel))) rfl
theorem ml_X6_person : Cond.selects yX6_person.cls yX6_person yX6_person ∈ allw := aw (List.mem_append_right _ (List.mem_of_getElem? (i := 824) (by decide +kernel))) rfl
theorem mm_X6_refusesPerson : lkM yX6_refusesPerson cX6_refusesPerson 2 (some .int) 1 := ⟨aw (List.mem_append_right _ (List.mem_of_getElem? (i := 7) (by decide +kernel))) rfl, aw (List.mem_append_right _ (List.mem_of_getElem? (i := 829) (by decide +kernel))) rfl, ⟨by decide +kernel, by decide +kernel, by decide +kernel⟩, by decide⟩
theorem pl_X6_refusesPerson : plainFor yX6_refusesPerson = true := by decide +kernel
theorem mi_X6_refusesPerson : Cond.instanceMethod yX6_refusesPerson ∈ allw := aw (List.mem_append_right _ (List.mem_of_getElem? (i := 828) (by decide +kernel))) rfl
theorem ml_X6_refusesPerson : Cond.selects yX6_refusesPerson.cls yX6_refusesPerson yX6_refusesPerson ∈ allw := aw (List.mem_append_left _ (List.mem_of_getElem? (i := 21) (by decide +kernel))) rfl
theorem mm_X6_addsPerson : lkM yX6_addsPerson cX6_addsPerson 3 (some .int) 1 := ⟨aw (List.mem_append_right _ (List.mem_of_getElem? (i := 7) (by decide +kernel))) rfl, aw (List.mem_append_right _ (List.mem_of_getElem? (i := 833) (by decide +kernel))) rfl, ⟨by decide +kernel, by decide +kernel, by decide +kernel⟩, by decide⟩
theorem pl_X6_addsPerson : plainFor yX6_addsPerson = true := by decide +kernel
theorem mi_X6_addsPerson : Cond.instanceMethod yX6_addsPerson ∈ allw := aw (List.mem_append_right _ (List.mem_of_getElem? (i := 832) (by decide +kernel))) rfl
theorem ml_X6_addsPerson : Cond.selects yX6_addsPerson.cls yX6_addsPerson yX6_addsPerson ∈ allw := aw (List.mem_append_left _ (List.mem_of_getElem? (i := 22) (by decide +kernel))) rfl
theorem mm_X6_layPerson : lkM yX6_layPerson cX6_layPerson 4 none 3 := ⟨aw (List.mem_append_right _ (List.mem_of_getElem? (i := 7) (by decide +kernel))) rfl, aw (List.mem_append_right _ (List.mem_of_getElem? (i := 837) (by decide +kernel))) rfl, ⟨by decide +kernel, by decide +kernel, by decide +kernel⟩, by decide⟩
theorem pl_X6_layPerson : plainFor yX6_layPerson = true := by decide +kernel
theorem mi_X6_layPerson : Cond.instanceMethod yX6_layPerson ∈ allw := aw (List.mem_append_right _ (List.mem_of_getElem? (i := 836) (by decide +kernel))) rfl
theorem ml_X6_layPerson : Cond.selects yX6_layPerson.cls yX6_layPerson yX6_layPerson ∈ allw := aw (List.mem_append_left _ (List.mem_of_getElem? (i := 23) (by decide +kernel))) rfl
theorem mm_X6_buy : lkM yX6_buy cX6_buy 2 (some .int) 1 := ⟨aw (List.mem_append_right _ (List.mem_of_getElem? (i := 7) (by decide +kernel))) rfl, aw (List.mem_append_right _ (List.mem_of_getElem? (i := 841) (by decide +kernel))) rfl, ⟨by decide +kernel, by decide +kernel, by decide +kernel⟩, by decide⟩
theorem pl_X6_buy : plainFor yX6_buy = true := by decide +kernel
theorem mi_X6_buy : Cond.instanceMethod yX6_buy ∈ allw := aw (List.mem_append_right _ (List.mem_of_getElem? (i := 839) (by decide +kernel))) rfl
theorem ml_X6_buy : Cond.selects yX6_buy.cls yX6_buy yX6_buy ∈ allw := aw (List.mem_append_right _ (List.mem_of_getElem? (i := 840) (by decide +kernel))) rfl
theorem mm_X6_job : lkM yX6_job cX6_job 7 (some .int) 5 := ⟨aw (List.mem_append_right _ (List.mem_of_getElem? (i := 7) (by decide +kernel))) rfl, aw (List.mem_append_right _ (List.mem_of_getElem? (i := 845) (by decide +kernel))) rfl, ⟨by decide +kernel, by decide +kernel, by decide +kernel⟩, by decide⟩
theorem pl_X6_job : plainFor yX6_job = true := by decide +kernel
theorem mi_X6_job : Cond.instanceMethod yX6_job ∈ allw := aw (List.mem_append_right _ (List.mem_of_getElem? (i := 843) (by decide +kernel))) rfl
theorem ml_X6_job : Cond.selects yX6_job.cls yX6_job yX6_job ∈ allw := aw (List.mem_append_right _ (List.mem_of_getElem? (i := 844) (by decide +kernel))) rfl
theorem mm_X6_refusesJob : lkM yX6_refusesJob cX6_refusesJob 7 (some .int) 5 := ⟨aw (List.mem_append_right _ (List.mem_of_getElem? (i := 7) (by decide +kernel))) rfl, aw (List.mem_append_right _ (List.mem_of_getElem? (i := 849) (by decide +kernel))) rfl, ⟨by decide +kernel, by decide +kernel, by decide +kernel⟩, by decide⟩
theorem pl_X6_refusesJob : plainFor yX6_refusesJob = true := by decide +kernel
theorem mi_X6_refusesJob : Cond.instanceMethod yX6_refusesJob ∈ allw := aw (List.mem_append_right _ (List.mem_of_getElem? (i := 848) (by decide +kernel))) rfl
theorem ml_X6_refusesJob : Cond.selects yX6_refusesJob.cls yX6_refusesJob yX6_refusesJob ∈ allw := aw (List.mem_append_left _ (List.mem_of_getElem? (i := 24) (by decide +kernel))) rfl
theorem mm_X6_addsJob : lkM yX6_addsJob cX6_addsJob 7 (some .int) 5 := ⟨aw (List.mem_append_right _ (List.mem_of_getElem? (i := 7) (by decide +kernel))) rfl, aw (List.mem_append_right _ (List.mem_of_getElem? (i := 853) (by decide +kernel))) rfl, ⟨by decide +kernel, by decide +kernel, by decide +kernel⟩, by decide⟩
theorem pl_X6_addsJob : plainFor yX6_addsJob = true := by decide +kernel
theorem mi_X6_addsJob : Cond.instanceMethod yX6_addsJob ∈ allw := aw (List.mem_append_right _ (List.mem_of_getElem? (i := 852) (by decide +kernel))) rfl
theorem ml_X6_addsJob : Cond.selects yX6_addsJob.cls yX6_addsJob yX6_addsJob ∈ allw := aw (List.mem_append_left _ (List.mem_of_getElem? (i := 25) (by decide +kernel))) rfl
theorem mm_X6_lay : lkM yX6_lay cX6_lay 4 none 3 := ⟨aw (List.mem_append_right _ (List.mem_of_getElem? (i := 7) (by decide +kernel))) rfl, aw (List.mem_append_right _ (List.mem_of_getElem? (i := 857) (by decide +kernel))) rfl, ⟨by decide +kernel, by decide +kernel, by decide +kernel⟩, by decide⟩
theorem pl_X6_lay : plainFor yX6_lay = true := by decide +kernel
theorem mi_X6_lay : Cond.instanceMethod yX6_lay ∈ allw := aw (List.mem_append_right _ (List.mem_of_getElem? (i := 856) (by decide +kernel))) rfl
theorem ml_X6_lay : Cond.selects yX6_lay.cls yX6_lay yX6_lay ∈ allw := aw (List.mem_append_left _ (List.mem_of_getElem? (i := 26) (by decide +kernel))) rfl
theorem mm_X6_begin : lkM yX6_begin cX6_begin 5 (some .int) 3 := ⟨aw (List.mem_append_right _ (List.mem_of_getElem? (i := 7) (by decide +kernel))) rfl, aw (List.mem_append_right _ (List.mem_of_getElem? (i := 861) (by decide +kernel))) rfl, ⟨by decide +kernel, by decide +kernel, by decide +kernel⟩, by decide⟩
theorem pl_X6_begin : plainFor yX6_begin = true := by decide +kernel
theorem mi_X6_begin : Cond.instanceMethod yX6_begin ∈ allw := aw (List.mem_append_right _ (List.mem_of_getElem? (i := 859) (by decide +kernel))) rfl
theorem ml_X6_begin : Cond.selects yX6_begin.cls yX6_begin yX6_begin ∈ allw := aw (List.mem_append_right _ (List.mem_of_getElem? (i := 860) (by decide +kernel))) rfl
theorem mm_X6_refusesBegin : lkM yX6_refusesBegin cX6_refusesBegin 4 (some .int) 3 := ⟨aw (List.mem_append_right _ (List.mem_of_getElem? (i := 7) (by decide +kernel))) rfl, aw (List.mem_append_right _ (List.mem_of_getElem? (i := 865) (by decide +kernel))) rfl, ⟨by decide +kernel, by decide +kernel, by decide +kernel⟩, by decide⟩
theorem pl_X6_refusesBegin : plainFor yX6_refusesBegin = true := by decide +kernel
theorem mi_X6_refusesBegin : Cond.instanceMethod yX6_refusesBegin ∈ allw := aw (List.mem_append_right _ (List.mem_of_getElem? (i := 864) (by decide +kernel))) rfl
theorem ml_X6_refusesBegin : Cond.selects yX6_refusesBegin.cls yX6_refusesBegin yX6_refusesBegin ∈ allw := aw (List.mem_append_left _ (List.mem_of_getElem? (i := 27) (by decide +kernel))) rfl
theorem mm_X6_isJob : lkM yX6_isJob cX6_isJob 2 (some .boolean) 1 := ⟨aw (List.mem_append_right _ (List.mem_of_getElem? (i := 7) (by decide +kernel))) rfl, aw (List.mem_append_right _ (List.mem_of_getElem? (i := 869) (by decide +kernel))) rfl, ⟨by decide +kernel, by decide +kernel, by decide +kernel⟩, by decide⟩
theorem pl_X6_isJob : plainFor yX6_isJob = true := by decide +kernel
theorem mi_X6_isJob : Cond.instanceMethod yX6_isJob ∈ allw := aw (List.mem_append_right _ (List.mem_of_getElem? (i := 868) (by decide +kernel))) rfl
theorem ml_X6_isJob : Cond.selects yX6_isJob.cls yX6_isJob yX6_isJob ∈ allw := aw (List.mem_append_left _ (List.mem_of_getElem? (i := 28) (by decide +kernel))) rfl
theorem mm_X6_isStraps : lkM yX6_isStraps cX6_isStraps 1 (some .boolean) 1 := ⟨aw (List.mem_append_right _ (List.mem_of_getElem? (i := 7) (by decide +kernel))) rfl, aw (List.mem_append_right _ (List.mem_of_getElem? (i := 872) (by decide +kernel))) rfl, ⟨by decide +kernel, by decide +kernel, by decide +kernel⟩, by decide⟩
theorem pl_X6_isStraps : plainFor yX6_isStraps = true := by decide +kernel
theorem ms_X6_isStraps : Cond.static yX6_isStraps ∈ allw := aw (List.mem_append_right _ (List.mem_of_getElem? (i := 871) (by decide +kernel))) rfl
theorem mm_X6_reason : lkM yX6_reason cX6_reason 4 (some .int) 3 := ⟨aw (List.mem_append_right _ (List.mem_of_getElem? (i := 7) (by decide +kernel))) rfl, aw (List.mem_append_right _ (List.mem_of_getElem? (i := 876) (by decide +kernel))) rfl, ⟨by decide +kernel, by decide +kernel, by decide +kernel⟩, by decide⟩
theorem pl_X6_reason : plainFor yX6_reason = true := by decide +kernel
theorem mi_X6_reason : Cond.instanceMethod yX6_reason ∈ allw := aw (List.mem_append_right _ (List.mem_of_getElem? (i := 875) (by decide +kernel))) rfl
theorem ml_X6_reason : Cond.selects yX6_reason.cls yX6_reason yX6_reason ∈ allw := aw (List.mem_append_left _ (List.mem_of_getElem? (i := 29) (by decide +kernel))) rfl
theorem mm_X6_ofJobs : lkM yX6_ofJobs cX6_ofJobs 3 (some .int) 2 := ⟨aw (List.mem_append_right _ (List.mem_of_getElem? (i := 7) (by decide +kernel))) rfl, aw (List.mem_append_right _ (List.mem_of_getElem? (i := 880) (by decide +kernel))) rfl, ⟨by decide +kernel, by decide +kernel, by decide +kernel⟩, by decide⟩
theorem pl_X6_ofJobs : plainFor yX6_ofJobs = true := by decide +kernel
theorem mi_X6_ofJobs : Cond.instanceMethod yX6_ofJobs ∈ allw := aw (List.mem_append_right _ (List.mem_of_getElem? (i := 879) (by decide +kernel))) rfl
theorem ml_X6_ofJobs : Cond.selects yX6_ofJobs.cls yX6_ofJobs yX6_ofJobs ∈ allw := aw (List.mem_append_left _ (List.mem_of_getElem? (i := 30) (by decide +kernel))) rfl
theorem mm_X6_ones : lkM yX6_ones cX6_ones 3 (some .int) 1 := ⟨aw (List.mem_append_right _ (List.mem_of_getElem? (i := 7) (by decide +kernel))) rfl, aw (List.mem_append_right _ (List.mem_of_getElem? (i := 883) (by decide +kernel))) rfl, ⟨by decide +kernel, by decide +kernel, by decide +kernel⟩, by decide⟩
theorem pl_X6_ones : plainFor yX6_ones = true := by decide +kernel
theorem ms_X6_ones : Cond.static yX6_ones ∈ allw := aw (List.mem_append_right _ (List.mem_of_getElem? (i := 882) (by decide +kernel))) rfl
theorem mm_X6_busy : lkM yX6_busy cX6_busy 3 (some .int) 0 := ⟨aw (List.mem_append_right _ (List.mem_of_getElem? (i := 7) (by decide +kernel))) rfl, aw (List.mem_append_right _ (List.mem_of_getElem? (i := 887) (by decide +kernel))) rfl, ⟨by decide +kernel, by decide +kernel, by decide +kernel⟩, by decide⟩
theorem pl_X6_busy : plainFor yX6_busy = true := by decide +kernel
theorem mi_X6_busy : Cond.instanceMethod yX6_busy ∈ allw := aw (List.mem_append_right _ (List.mem_of_getElem? (i := 886) (by decide +kernel))) rfl
theorem ml_X6_busy : Cond.selects yX6_busy.cls yX6_busy yX6_busy ∈ allw := aw (List.mem_append_left _ (List.mem_of_getElem? (i := 31) (by decide +kernel))) rfl
theorem mm_X6_canHave : lkM yX6_canHave cX6_canHave 3 (some .boolean) 2 := ⟨aw (List.mem_append_right _ (List.mem_of_getElem? (i := 7) (by decide +kernel))) rfl, aw (List.mem_append_right _ (List.mem_of_getElem? (i := 891) (by decide +kernel))) rfl, ⟨by decide +kernel, by decide +kernel, by decide +kernel⟩, by decide⟩
theorem pl_X6_canHave : plainFor yX6_canHave = true := by decide +kernel
theorem mi_X6_canHave : Cond.instanceMethod yX6_canHave ∈ allw := aw (List.mem_append_right _ (List.mem_of_getElem? (i := 890) (by decide +kernel))) rfl
theorem ml_X6_canHave : Cond.selects yX6_canHave.cls yX6_canHave yX6_canHave ∈ allw := aw (List.mem_append_left _ (List.mem_of_getElem? (i := 32) (by decide +kernel))) rfl
theorem mm_X6_freeStraps : lkM yX6_freeStraps cX6_freeStraps 4 (some .int) 1 := ⟨aw (List.mem_append_right _ (List.mem_of_getElem? (i := 7) (by decide +kernel))) rfl, aw (List.mem_append_right _ (List.mem_of_getElem? (i := 895) (by decide +kernel))) rfl, ⟨by decide +kernel, by decide +kernel, by decide +kernel⟩, by decide⟩
theorem pl_X6_freeStraps : plainFor yX6_freeStraps = true := by decide +kernel
theorem mi_X6_freeStraps : Cond.instanceMethod yX6_freeStraps ∈ allw := aw (List.mem_append_right _ (List.mem_of_getElem? (i := 894) (by decide +kernel))) rfl
theorem ml_X6_freeStraps : Cond.selects yX6_freeStraps.cls yX6_freeStraps yX6_freeStraps ∈ allw := aw (List.mem_append_left _ (List.mem_of_getElem? (i := 33) (by decide +kernel))) rfl
theorem mm_X6_strength : lkM yX6_strength cX6_strength 4 (some .int) 1 := ⟨aw (List.mem_append_right _ (List.mem_of_getElem? (i := 7) (by decide +kernel))) rfl, aw (List.mem_append_right _ (List.mem_of_getElem? (i := 899) (by decide +kernel))) rfl, ⟨by decide +kernel, by decide +kernel, by decide +kernel⟩, by decide⟩
theorem pl_X6_strength : plainFor yX6_strength = true := by decide +kernel
theorem mi_X6_strength : Cond.instanceMethod yX6_strength ∈ allw := aw (List.mem_append_right _ (List.mem_of_getElem? (i := 898) (by decide +kernel))) rfl
theorem ml_X6_strength : Cond.selects yX6_strength.cls yX6_strength yX6_strength ∈ allw := aw (List.mem_append_left _ (List.mem_of_getElem? (i := 34) (by decide +kernel))) rfl
theorem mm_X6_ofPerson : lkM yX6_ofPerson cX6_ofPerson 3 (some .int) 2 := ⟨aw (List.mem_append_right _ (List.mem_of_getElem? (i := 7) (by decide +kernel))) rfl, aw (List.mem_append_right _ (List.mem_of_getElem? (i := 903) (by decide +kernel))) rfl, ⟨by decide +kernel, by decide +kernel, by decide +kernel⟩, by decide⟩
theorem pl_X6_ofPerson : plainFor yX6_ofPerson = true := by decide +kernel
theorem mi_X6_ofPerson : Cond.instanceMethod yX6_ofPerson ∈ allw := aw (List.mem_append_right _ (List.mem_of_getElem? (i := 902) (by decide +kernel))) rfl
theorem ml_X6_ofPerson : Cond.selects yX6_ofPerson.cls yX6_ofPerson yX6_ofPerson ∈ allw := aw (List.mem_append_left _ (List.mem_of_getElem? (i := 35) (by decide +kernel))) rfl
theorem mm_X6_loadBy : lkM yX6_loadBy cX6_loadBy 5 (some .int) 2 := ⟨aw (List.mem_append_right _ (List.mem_of_getElem? (i := 7) (by decide +kernel))) rfl, aw (List.mem_append_right _ (List.mem_of_getElem? (i := 907) (by decide +kernel))) rfl, ⟨by decide +kernel, by decide +kernel, by decide +kernel⟩, by decide⟩
theorem pl_X6_loadBy : plainFor yX6_loadBy = true := by decide +kernel
theorem mi_X6_loadBy : Cond.instanceMethod yX6_loadBy ∈ allw := aw (List.mem_append_right _ (List.mem_of_getElem? (i := 906) (by decide +kernel))) rfl
theorem ml_X6_loadBy : Cond.selects yX6_loadBy.cls yX6_loadBy yX6_loadBy ∈ allw := aw (List.mem_append_left _ (List.mem_of_getElem? (i := 36) (by decide +kernel))) rfl
theorem mm_X6_begins : lkM yX6_begins cX6_begins 5 (some .int) 3 := ⟨aw (List.mem_append_right _ (List.mem_of_getElem? (i := 7) (by decide +kernel))) rfl, aw (List.mem_append_right _ (List.mem_of_getElem? (i := 911) (by decide +kernel))) rfl, ⟨by decide +kernel, by decide +kernel, by decide +kernel⟩, by decide⟩
theorem pl_X6_begins : plainFor yX6_begins = true := by decide +kernel
theorem mi_X6_begins : Cond.instanceMethod yX6_begins ∈ allw := aw (List.mem_append_right _ (List.mem_of_getElem? (i := 910) (by decide +kernel))) rfl
theorem ml_X6_begins : Cond.selects yX6_begins.cls yX6_begins yX6_begins ∈ allw := aw (List.mem_append_left _ (List.mem_of_getElem? (i := 37) (by decide +kernel))) rfl
theorem mm_X6_assign : lkM yX6_assign cX6_assign 1 (some .int) 0 := ⟨aw (List.mem_append_right _ (List.mem_of_getElem? (i := 7) (by decide +kernel))) rfl, aw (List.mem_append_right _ (List.mem_of_getElem? (i := 915) (by decide +kernel))) rfl, ⟨by decide +kernel, by decide +kernel, by decide +kernel⟩, by decide⟩
theorem pl_X6_assign : plainFor yX6_assign = true := by decide +kernel
theorem mi_X6_assign : Cond.instanceMethod yX6_assign ∈ allw := aw (List.mem_append_right _ (List.mem_of_getElem? (i := 913) (by decide +kernel))) rfl
theorem ml_X6_assign : Cond.selects yX6_assign.cls yX6_assign yX6_assign ∈ allw := aw (List.mem_append_right _ (List.mem_of_getElem? (i := 914) (by decide +kernel))) rfl
theorem mm_X6_assigns : lkM yX6_assigns cX6_assigns 6 (some .int) 0 := ⟨aw (List.mem_append_right _ (List.mem_of_getElem? (i := 7) (by decide +kernel))) rfl, aw (List.mem_append_right _ (List.mem_of_getElem? (i := 919) (by decide +kernel))) rfl, ⟨by decide +kernel, by decide +kernel, by decide +kernel⟩, by decide⟩
theorem pl_X6_assigns : plainFor yX6_assigns = true := by decide +kernel
theorem mi_X6_assigns : Cond.instanceMethod yX6_assigns ∈ allw := aw (List.mem_append_right _ (List.mem_of_getElem? (i := 918) (by decide +kernel))) rfl
theorem ml_X6_assigns : Cond.selects yX6_assigns.cls yX6_assigns yX6_assigns ∈ allw := aw (List.mem_append_left _ (List.mem_of_getElem? (i := 38) (by decide +kernel))) rfl
theorem mm_X6_waitingAt : lkM yX6_waitingAt cX6_waitingAt 7 (some .int) 2 := ⟨aw (List.mem_append_right _ (List.mem_of_getElem? (i := 7) (by decide +kernel))) rfl, aw (List.mem_append_right _ (List.mem_of_getElem? (i := 923) (by decide +kernel))) rfl, ⟨by decide +kernel, by decide +kernel, by decide +kernel⟩, by decide⟩
theorem pl_X6_waitingAt : plainFor yX6_waitingAt = true := by decide +kernel
theorem mi_X6_waitingAt : Cond.instanceMethod yX6_waitingAt ∈ allw := aw (List.mem_append_right _ (List.mem_of_getElem? (i := 922) (by decide +kernel))) rfl
theorem ml_X6_waitingAt : Cond.selects yX6_waitingAt.cls yX6_waitingAt yX6_waitingAt ∈ allw := aw (List.mem_append_left _ (List.mem_of_getElem? (i := 39) (by decide +kernel))) rfl
theorem mm_X6_isAhead : lkM yX6_isAhead cX6_isAhead 4 (some .boolean) 2 := ⟨aw (List.mem_append_right _ (List.mem_of_getElem? (i := 7) (by decide +kernel))) rfl, aw (List.mem_append_right _ (List.mem_of_getElem? (i := 927) (by decide +kernel))) rfl, ⟨by decide +kernel, by decide +kernel, by decide +kernel⟩, by decide⟩
theorem pl_X6_isAhead : plainFor yX6_isAhead = true := by decide +kernel
theorem mi_X6_isAhead : Cond.instanceMethod yX6_isAhead ∈ allw := aw (List.mem_append_right _ (List.mem_of_getElem? (i := 926) (by decide +kernel))) rfl
theorem ml_X6_isAhead : Cond.selects yX6_isAhead.cls yX6_isAhead yX6_isAhead ∈ allw := aw (List.mem_append_left _ (List.mem_of_getElem? (i := 40) (by decide +kernel))) rfl
theorem mm_X6_strapsFor : lkM yX6_strapsFor cX6_strapsFor 7 (some .int) 1 := ⟨aw (List.mem_append_right _ (List.mem_of_getElem? (i := 7) (by decide +kernel))) rfl, aw (List.mem_append_right _ (List.mem_of_getElem? (i := 931) (by decide +kernel))) rfl, ⟨by decide +kernel, by decide +kernel, by decide +kernel⟩, by decide⟩
theorem pl_X6_strapsFor : plainFor yX6_strapsFor = true := by decide +kernel
theorem mi_X6_strapsFor : Cond.instanceMethod yX6_strapsFor ∈ allw := aw (List.mem_append_right _ (List.mem_of_getElem? (i := 930) (by decide +kernel))) rfl
theorem ml_X6_strapsFor : Cond.selects yX6_strapsFor.cls yX6_strapsFor yX6_strapsFor ∈ allw := aw (List.mem_append_left _ (List.mem_of_getElem? (i := 41) (by decide +kernel))) rfl
theorem mm_X6_crewFor : lkM yX6_crewFor cX6_crewFor 7 (some .int) 2 := ⟨aw (List.mem_append_right _ (List.mem_of_getElem? (i := 7) (by decide +kernel))) rfl, aw (List.mem_append_right _ (List.mem_of_getElem? (i := 935) (by decide +kernel))) rfl, ⟨by decide +kernel, by decide +kernel, by decide +kernel⟩, by decide⟩
theorem pl_X6_crewFor : plainFor yX6_crewFor = true := by decide +kernel
theorem mi_X6_crewFor : Cond.instanceMethod yX6_crewFor ∈ allw := aw (List.mem_append_right _ (List.mem_of_getElem? (i := 934) (by decide +kernel))) rfl
theorem ml_X6_crewFor : Cond.selects yX6_crewFor.cls yX6_crewFor yX6_crewFor ∈ allw := aw (List.mem_append_left _ (List.mem_of_getElem? (i := 42) (by decide +kernel))) rfl
theorem mm_X6_strongestBut : lkM yX6_strongestBut cX6_strongestBut 5 (some .int) 1 := ⟨aw (List.mem_append_right _ (List.mem_of_getElem? (i := 7) (by decide +kernel))) rfl, aw (List.mem_append_right _ (List.mem_of_getElem? (i := 939) (by decide +kernel))) rfl, ⟨by decide +kernel, by decide +kernel, by decide +kernel⟩, by decide⟩
theorem pl_X6_strongestBut : plainFor yX6_strongestBut = true := by decide +kernel
theorem mi_X6_strongestBut : Cond.instanceMethod yX6_strongestBut ∈ allw := aw (List.mem_append_right _ (List.mem_of_getElem? (i := 938) (by decide +kernel))) rfl
theorem ml_X6_strongestBut : Cond.selects yX6_strongestBut.cls yX6_strongestBut yX6_strongestBut ∈ allw := aw (List.mem_append_left _ (List.mem_of_getElem? (i := 43) (by decide +kernel))) rfl
theorem mm_X6_delay : lkM yX6_delay cX6_delay 4 (some .int) 2 := ⟨aw (List.mem_append_right _ (List.mem_of_getElem? (i := 7) (by decide +kernel))) rfl, aw (List.mem_append_right _ (List.mem_of_getElem? (i := 943) (by decide +kernel))) rfl, ⟨by decide +kernel, by decide +kernel, by decide +kernel⟩, by decide⟩
theorem pl_X6_delay : plainFor yX6_delay = true := by decide +kernel
theorem mi_X6_delay : Cond.instanceMethod yX6_delay ∈ allw := aw (List.mem_append_right _ (List.mem_of_getElem? (i := 941) (by decide +kernel))) rfl
theorem ml_X6_delay : Cond.selects yX6_delay.cls yX6_delay yX6_delay ∈ allw := aw (List.mem_append_right _ (List.mem_of_getElem? (i := 942) (by decide +kernel))) rfl
theorem mm_X6_refusesDelay : lkM yX6_refusesDelay cX6_refusesDelay 3 (some .int) 2 := ⟨aw (List.mem_append_right _ (List.mem_of_getElem? (i := 7) (by decide +kernel))) rfl, aw (List.mem_append_right _ (List.mem_of_getElem? (i := 947) (by decide +kernel))) rfl, ⟨by decide +kernel, by decide +kernel, by decide +kernel⟩, by decide⟩
theorem pl_X6_refusesDelay : plainFor yX6_refusesDelay = true := by decide +kernel
theorem mi_X6_refusesDelay : Cond.instanceMethod yX6_refusesDelay ∈ allw := aw (List.mem_append_right _ (List.mem_of_getElem? (i := 946) (by decide +kernel))) rfl
theorem ml_X6_refusesDelay : Cond.selects yX6_refusesDelay.cls yX6_refusesDelay yX6_refusesDelay ∈ allw := aw (List.mem_append_left _ (List.mem_of_getElem? (i := 44) (by decide +kernel))) rfl
theorem mm_X6_delays : lkM yX6_delays cX6_delays 3 (some .int) 2 := ⟨aw (List.mem_append_right _ (List.mem_of_getElem? (i := 7) (by decide +kernel))) rfl, aw (List.mem_append_right _ (List.mem_of_getElem? (i := 951) (by decide +kernel))) rfl, ⟨by decide +kernel, by decide +kernel, by decide +kernel⟩, by decide⟩
theorem pl_X6_delays : plainFor yX6_delays = true := by decide +kernel
theorem mi_X6_delays : Cond.instanceMethod yX6_delays ∈ allw := aw (List.mem_append_right _ (List.mem_of_getElem? (i := 950) (by decide +kernel))) rfl
theorem ml_X6_delays : Cond.selects yX6_delays.cls yX6_delays yX6_delays ∈ allw := aw (List.mem_append_left _ (List.mem_of_getElem? (i := 45) (by decide +kernel))) rfl
theorem mm_X6_callOff : lkM yX6_callOff cX6_callOff 3 (some .int) 1 := ⟨aw (List.mem_append_right _ (List.mem_of_getElem? (i := 7) (by decide +kernel))) rfl, aw (List.mem_append_right _ (List.mem_of_getElem? (i := 955) (by decide +kernel))) rfl, ⟨by decide +kernel, by decide +kernel, by decide +kernel⟩, by decide⟩
theorem pl_X6_callOff : plainFor yX6_callOff = true := by decide +kernel
theorem mi_X6_callOff : Cond.instanceMethod yX6_callOff ∈ allw := aw (List.mem_append_right _ (List.mem_of_getElem? (i := 953) (by decide +kernel))) rfl
theorem ml_X6_callOff : Cond.selects yX6_callOff.cls yX6_callOff yX6_callOff ∈ allw := aw (List.mem_append_right _ (List.mem_of_getElem? (i := 954) (by decide +kernel))) rfl
theorem mm_X6_refusesCall : lkM yX6_refusesCall cX6_refusesCall 2 (some .int) 1 := ⟨aw (List.mem_append_right _ (List.mem_of_getElem? (i := 7) (by decide +kernel))) rfl, aw (List.mem_append_right _ (List.mem_of_getElem? (i := 959) (by decide +kernel))) rfl, ⟨by decide +kernel, by decide +kernel, by decide +kernel⟩, by decide⟩
theorem pl_X6_refusesCall : plainFor yX6_refusesCall = true := by decide +kernel
theorem mi_X6_refusesCall : Cond.instanceMethod yX6_refusesCall ∈ allw := aw (List.mem_append_right _ (List.mem_of_getElem? (i := 958) (by decide +kernel))) rfl
theorem ml_X6_refusesCall : Cond.selects yX6_refusesCall.cls yX6_refusesCall yX6_refusesCall ∈ allw := aw (List.mem_append_left _ (List.mem_of_getElem? (i := 46) (by decide +kernel))) rfl
theorem mm_X6_callsOff : lkM yX6_callsOff cX6_callsOff 3 (some .int) 1 := ⟨aw (List.mem_append_right _ (List.mem_of_getElem? (i := 7) (by decide +kernel))) rfl, aw (List.mem_append_right _ (List.mem_of_getElem? (i := 963) (by decide +kernel))) rfl, ⟨by decide +kernel, by decide +kernel, by decide +kernel⟩, by decide⟩
theorem pl_X6_callsOff : plainFor yX6_callsOff = true := by decide +kernel
theorem mi_X6_callsOff : Cond.instanceMethod yX6_callsOff ∈ allw := aw (List.mem_append_right _ (List.mem_of_getElem? (i := 962) (by decide +kernel))) rfl
theorem ml_X6_callsOff : Cond.selects yX6_callsOff.cls yX6_callsOff yX6_callsOff ∈ allw := aw (List.mem_append_left _ (List.mem_of_getElem? (i := 47) (by decide +kernel))) rfl
theorem mm_X6_pass : lkM yX6_pass cX6_pass 3 (some .int) 1 := ⟨aw (List.mem_append_right _ (List.mem_of_getElem? (i := 7) (by decide +kernel))) rfl, aw (List.mem_append_right _ (List.mem_of_getElem? (i := 967) (by decide +kernel))) rfl, ⟨by decide +kernel, by decide +kernel, by decide +kernel⟩, by decide⟩
theorem pl_X6_pass : plainFor yX6_pass = true := by decide +kernel
theorem mi_X6_pass : Cond.instanceMethod yX6_pass ∈ allw := aw (List.mem_append_right _ (List.mem_of_getElem? (i := 965) (by decide +kernel))) rfl
theorem ml_X6_pass : Cond.selects yX6_pass.cls yX6_pass yX6_pass ∈ allw := aw (List.mem_append_right _ (List.mem_of_getElem? (i := 966) (by decide +kernel))) rfl
theorem mm_X6_refusesHours : lkM yX6_refusesHours cX6_refusesHours 2 (some .int) 1 := ⟨aw (List.mem_append_right _ (List.mem_of_getElem? (i := 7) (by decide +kernel))) rfl, aw (List.mem_append_right _ (List.mem_of_getElem? (i := 971) (by decide +kernel))) rfl, ⟨by decide +kernel, by decide +kernel, by decide +kernel⟩, by decide⟩
theorem pl_X6_refusesHours : plainFor yX6_refusesHours = true := by decide +kernel
theorem mi_X6_refusesHours : Cond.instanceMethod yX6_refusesHours ∈ allw := aw (List.mem_append_right _ (List.mem_of_getElem? (i := 970) (by decide +kernel))) rfl
theorem ml_X6_refusesHours : Cond.selects yX6_refusesHours.cls yX6_refusesHours yX6_refusesHours ∈ allw := aw (List.mem_append_left _ (List.mem_of_getElem? (i := 48) (by decide +kernel))) rfl
theorem mm_X6_passes : lkM yX6_passes cX6_passes 4 (some .int) 1 := ⟨aw (List.mem_append_right _ (List.mem_of_getElem? (i := 7) (by decide +kernel))) rfl, aw (List.mem_append_right _ (List.mem_of_getElem? (i := 975) (by decide +kernel))) rfl, ⟨by decide +kernel, by decide +kernel, by decide +kernel⟩, by decide⟩
theorem pl_X6_passes : plainFor yX6_passes = true := by decide +kernel
theorem mi_X6_passes : Cond.instanceMethod yX6_passes ∈ allw := aw (List.mem_append_right _ (List.mem_of_getElem? (i := 974) (by decide +kernel))) rfl
theorem ml_X6_passes : Cond.selects yX6_passes.cls yX6_passes yX6_passes ∈ allw := aw (List.mem_append_left _ (List.mem_of_getElem? (i := 49) (by decide +kernel))) rfl
theorem mm_X6_goesBy : lkM yX6_goesBy cX6_goesBy 4 (some .int) 0 := ⟨aw (List.mem_append_right _ (List.mem_of_getElem? (i := 7) (by decide +kernel))) rfl, aw (List.mem_append_right _ (List.mem_of_getElem? (i := 979) (by decide +kernel))) rfl, ⟨by decide +kernel, by decide +kernel, by decide +kernel⟩, by decide⟩
theorem pl_X6_goesBy : plainFor yX6_goesBy = true := by decide +kernel
theorem mi_X6_goesBy : Cond.instanceMethod yX6_goesBy ∈ allw := aw (List.mem_append_right _ (List.mem_of_getElem? (i := 978) (by decide +kernel))) rfl
theorem ml_X6_goesBy : Cond.selects yX6_goesBy.cls yX6_goesBy yX6_goesBy ∈ allw := aw (List.mem_append_left _ (List.mem_of_getElem? (i := 50) (by decide +kernel))) rfl
theorem mm_X6_works : lkM yX6_works cX6_works 3 (some .boolean) 1 := ⟨aw (List.mem_append_right _ (List.mem_of_getElem? (i := 7) (by decide +kernel))) rfl, aw (List.mem_append_right _ (List.mem_of_getElem? (i := 983) (by decide +kernel))) rfl, ⟨by decide +kernel, by decide +kernel, by decide +kernel⟩, by decide⟩
theorem pl_X6_works : plainFor yX6_works = true := by decide +kernel
theorem mi_X6_works : Cond.instanceMethod yX6_works ∈ allw := aw (List.mem_append_right _ (List.mem_of_getElem? (i := 982) (by decide +kernel))) rfl
theorem ml_X6_works : Cond.selects yX6_works.cls yX6_works yX6_works ∈ allw := aw (List.mem_append_left _ (List.mem_of_getElem? (i := 51) (by decide +kernel))) rfl
theorem mm_X6_rest : lkM yX6_rest cX6_rest 5 none 1 := ⟨aw (List.mem_append_right _ (List.mem_of_getElem? (i := 7) (by decide +kernel))) rfl, aw (List.mem_append_right _ (List.mem_of_getElem? (i := 987) (by decide +kernel))) rfl, ⟨by decide +kernel, by decide +kernel, by decide +kernel⟩, by decide⟩
theorem pl_X6_rest : plainFor yX6_rest = true := by decide +kernel
theorem mi_X6_rest : Cond.instanceMethod yX6_rest ∈ allw := aw (List.mem_append_right _ (List.mem_of_getElem? (i := 986) (by decide +kernel))) rfl
theorem ml_X6_rest : Cond.selects yX6_rest.cls yX6_rest yX6_rest ∈ allw := aw (List.mem_append_left _ (List.mem_of_getElem? (i := 52) (by decide +kernel))) rfl
theorem mm_X6_carry : lkM yX6_carry cX6_carry 4 none 1 := ⟨aw (List.mem_append_right _ (List.mem_of_getElem? (i := 7) (by decide +kernel))) rfl, aw (List.mem_append_right _ (List.mem_of_getElem? (i := 991) (by decide +kernel))) rfl, ⟨by decide +kernel, by decide +kernel, by decide +kernel⟩, by decide⟩
theorem pl_X6_carry : plainFor yX6_carry = true := by decide +kernel
theorem mi_X6_carry : Cond.instanceMethod yX6_carry ∈ allw := aw (List.mem_append_right _ (List.mem_of_getElem? (i := 990) (by decide +kernel))) rfl
theorem ml_X6_carry : Cond.selects yX6_carry.cls yX6_carry yX6_carry ∈ allw := aw (List.mem_append_left _ (List.mem_of_getElem? (i := 53) (by decide +kernel))) rfl
theorem mm_X6_ends : lkM yX6_ends cX6_ends 3 none 1 := ⟨aw (List.mem_append_right _ (List.mem_of_getElem? (i := 7) (by decide +kernel))) rfl, aw (List.mem_append_right _ (List.mem_of_getElem? (i := 995) (by decide +kernel))) rfl, ⟨by decide +kernel, by decide +kernel, by decide +kernel⟩, by decide⟩
theorem pl_X6_ends : plainFor yX6_ends = true := by decide +kernel
theorem mi_X6_ends : Cond.instanceMethod yX6_ends ∈ allw := aw (List.mem_append_right _ (List.mem_of_getElem? (i := 994) (by decide +kernel))) rfl
theorem ml_X6_ends : Cond.selects yX6_ends.cls yX6_ends yX6_ends ∈ allw := aw (List.mem_append_left _ (List.mem_of_getElem? (i := 54) (by decide +kernel))) rfl
theorem mm_X6_of : lkM yX6_of cX6_of 3 (some .int) 2 := ⟨aw (List.mem_append_right _ (List.mem_of_getElem? (i := 7) (by decide +kernel))) rfl, aw (List.mem_append_right _ (List.mem_of_getElem? (i := 999) (by decide +kernel))) rfl, ⟨by decide +kernel, by decide +kernel, by decide +kernel⟩, by decide⟩
theorem pl_X6_of : plainFor yX6_of = true := by decide +kernel
theorem mi_X6_of : Cond.instanceMethod yX6_of ∈ allw := aw (List.mem_append_right _ (List.mem_of_getElem? (i := 997) (by decide +kernel))) rfl
theorem ml_X6_of : Cond.selects yX6_of.cls yX6_of yX6_of ∈ allw := aw (List.mem_append_right _ (List.mem_of_getElem? (i := 998) (by decide +kernel))) rfl
theorem mm_X6_jobOf : lkM yX6_jobOf cX6_jobOf 4 (some .int) 1 := ⟨aw (List.mem_append_right _ (List.mem_of_getElem? (i := 7) (by decide +kernel))) rfl, aw (List.mem_append_right _ (List.mem_of_getElem? (i := 1003) (by decide +kernel))) rfl, ⟨by decide +kernel, by decide +kernel, by decide +kernel⟩, by decide⟩
theorem pl_X6_jobOf : plainFor yX6_jobOf = true := by decide +kernel
theorem mi_X6_jobOf : Cond.instanceMethod yX6_jobOf ∈ allw := aw (List.mem_append_right _ (List.mem_of_getElem? (i := 1002) (by decide +kernel))) rfl
theorem ml_X6_jobOf : Cond.selects yX6_jobOf.cls yX6_jobOf yX6_jobOf ∈ allw := aw (List.mem_append_left _ (List.mem_of_getElem? (i := 55) (by decide +kernel))) rfl
theorem mm_X6_ofJob : lkM yX6_ofJob cX6_ofJob 3 (some .int) 2 := ⟨aw (List.mem_append_right _ (List.mem_of_getElem? (i := 7) (by decide +kernel))) rfl, aw (List.mem_append_right _ (List.mem_of_getElem? (i := 1007) (by decide +kernel))) rfl, ⟨by decide +kernel, by decide +kernel, by decide +kernel⟩, by decide⟩
theorem pl_X6_ofJob : plainFor yX6_ofJob = true := by decide +kernel
theorem mi_X6_ofJob : Cond.instanceMethod yX6_ofJob ∈ allw := aw (List.mem_append_right _ (List.mem_of_getElem? (i := 1005) (by decide +kernel))) rfl
theorem ml_X6_ofJob : Cond.selects yX6_ofJob.cls yX6_ofJob yX6_ofJob ∈ allw := aw (List.mem_append_right _ (List.mem_of_getElem? (i := 1006) (by decide +kernel))) rfl
theorem mm_X6_isLate : lkM yX6_isLate cX6_isLate 3 (some .boolean) 1 := ⟨aw (List.mem_append_right _ (List.mem_of_getElem? (i := 7) (by decide +kernel))) rfl, aw (List.mem_append_right _ (List.mem_of_getElem? (i := 1011) (by decide +kernel))) rfl, ⟨by decide +kernel, by decide +kernel, by decide +kernel⟩, by decide⟩
theorem pl_X6_isLate : plainFor yX6_isLate = true := by decide +kernel
theorem mi_X6_isLate : Cond.instanceMethod yX6_isLate ∈ allw := aw (List.mem_append_right _ (List.mem_of_getElem? (i := 1010) (by decide +kernel))) rfl
theorem ml_X6_isLate : Cond.selects yX6_isLate.cls yX6_isLate yX6_isLate ∈ allw := aw (List.mem_append_left _ (List.mem_of_getElem? (i := 56) (by decide +kernel))) rfl
theorem mm_X6_waiting : lkM yX6_waiting cX6_waiting 3 (some .int) 1 := ⟨aw (List.mem_append_right _ (List.mem_of_getElem? (i := 7) (by decide +kernel))) rfl, aw (List.mem_append_right _ (List.mem_of_getElem? (i := 1015) (by decide +kernel))) rfl, ⟨by decide +kernel, by decide +kernel, by decide +kernel⟩, by decide⟩
theorem pl_X6_waiting : plainFor yX6_waiting = true := by decide +kernel
theorem mi_X6_waiting : Cond.instanceMethod yX6_waiting ∈ allw := aw (List.mem_append_right _ (List.mem_of_getElem? (i := 1013) (by decide +kernel))) rfl
theorem ml_X6_waiting : Cond.selects yX6_waiting.cls yX6_waiting yX6_waiting ∈ allw := aw (List.mem_append_right _ (List.mem_of_getElem? (i := 1014) (by decide +kernel))) rfl
theorem mm_X6_straps : lkM yX6_straps cX6_straps 3 (some .int) 2 := ⟨aw (List.mem_append_right _ (List.mem_of_getElem? (i := 7) (by decide +kernel))) rfl, aw (List.mem_append_right _ (List.mem_of_getElem? (i := 1019) (by decide +kernel))) rfl, ⟨by decide +kernel, by decide +kernel, by decide +kernel⟩, by decide⟩
theorem pl_X6_straps : plainFor yX6_straps = true := by decide +kernel
theorem mi_X6_straps : Cond.instanceMethod yX6_straps ∈ allw := aw (List.mem_append_right _ (List.mem_of_getElem? (i := 1017) (by decide +kernel))) rfl
theorem ml_X6_straps : Cond.selects yX6_straps.cls yX6_straps yX6_straps ∈ allw := aw (List.mem_append_right _ (List.mem_of_getElem? (i := 1018) (by decide +kernel))) rfl
theorem mm_X6_count : lkM yX6_count cX6_count 2 (some .int) 1 := ⟨aw (List.mem_append_right _ (List.mem_of_getElem? (i := 7) (by decide +kernel))) rfl, aw (List.mem_append_right _ (List.mem_of_getElem? (i := 1023) (by decide +kernel))) rfl, ⟨by decide +kernel, by decide +kernel, by decide +kernel⟩, by decide⟩
theorem pl_X6_count : plainFor yX6_count = true := by decide +kernel
theorem mi_X6_count : Cond.instanceMethod yX6_count ∈ allw := aw (List.mem_append_right _ (List.mem_of_getElem? (i := 1021) (by decide +kernel))) rfl
theorem ml_X6_count : Cond.selects yX6_count.cls yX6_count yX6_count ∈ allw := aw (List.mem_append_right _ (List.mem_of_getElem? (i := 1022) (by decide +kernel))) rfl
theorem mm_X6_jobsThat : lkM yX6_jobsThat cX6_jobsThat 5 (some .int) 1 := ⟨aw (List.mem_append_right _ (List.mem_of_getElem? (i := 7) (by decide +kernel))) rfl, aw (List.mem_append_right _ (List.mem_of_getElem? (i := 1027) (by decide +kernel))) rfl, ⟨by decide +kernel, by decide +kernel, by decide +kernel⟩, by decide⟩
theorem pl_X6_jobsThat : plainFor yX6_jobsThat = true := by decide +kernel
theorem mi_X6_jobsThat : Cond.instanceMethod yX6_jobsThat ∈ allw := aw (List.mem_append_right _ (List.mem_of_getElem? (i := 1026) (by decide +kernel))) rfl
theorem ml_X6_jobsThat : Cond.selects yX6_jobsThat.cls yX6_jobsThat yX6_jobsThat ∈ allw := aw (List.mem_append_left _ (List.mem_of_getElem? (i := 57) (by decide +kernel))) rfl
theorem mm_X6_why : lkM yX6_why cX6_why 4 (some .int) 3 := ⟨aw (List.mem_append_right _ (List.mem_of_getElem? (i := 7) (by decide +kernel))) rfl, aw (List.mem_append_right _ (List.mem_of_getElem? (i := 1031) (by decide +kernel))) rfl, ⟨by decide +kernel, by decide +kernel, by decide +kernel⟩, by decide⟩
theorem pl_X6_why : plainFor yX6_why = true := by decide +kernel
theorem mi_X6_why : Cond.instanceMethod yX6_why ∈ allw := aw (List.mem_append_right _ (List.mem_of_getElem? (i := 1029) (by decide +kernel))) rfl
theorem ml_X6_why : Cond.selects yX6_why.cls yX6_why yX6_why ∈ allw := aw (List.mem_append_right _ (List.mem_of_getElem? (i := 1030) (by decide +kernel))) rfl
theorem mm_X6_crew : lkM yX6_crew cX6_crew 3 (some .int) 2 := ⟨aw (List.mem_append_right _ (List.mem_of_getElem? (i := 7) (by decide +kernel))) rfl, aw (List.mem_append_right _ (List.mem_of_getElem? (i := 1035) (by decide +kernel))) rfl, ⟨by decide +kernel, by decide +kernel, by decide +kernel⟩, by decide⟩
theorem pl_X6_crew : plainFor yX6_crew = true := by decide +kernel
theorem mi_X6_crew : Cond.instanceMethod yX6_crew ∈ allw := aw (List.mem_append_right _ (List.mem_of_getElem? (i := 1033) (by decide +kernel))) rfl
theorem ml_X6_crew : Cond.selects yX6_crew.cls yX6_crew yX6_crew ∈ allw := aw (List.mem_append_right _ (List.mem_of_getElem? (i := 1034) (by decide +kernel))) rfl
theorem mm_X6_bestStraps : lkM yX6_bestStraps cX6_bestStraps 2 (some .int) 1 := ⟨aw (List.mem_append_right _ (List.mem_of_getElem? (i := 7) (by decide +kernel))) rfl, aw (List.mem_append_right _ (List.mem_of_getElem? (i := 1039) (by decide +kernel))) rfl, ⟨by decide +kernel, by decide +kernel, by decide +kernel⟩, by decide⟩
theorem pl_X6_bestStraps : plainFor yX6_bestStraps = true := by decide +kernel
theorem mi_X6_bestStraps : Cond.instanceMethod yX6_bestStraps ∈ allw := aw (List.mem_append_right _ (List.mem_of_getElem? (i := 1037) (by decide +kernel))) rfl
theorem ml_X6_bestStraps : Cond.selects yX6_bestStraps.cls yX6_bestStraps yX6_bestStraps ∈ allw := aw (List.mem_append_right _ (List.mem_of_getElem? (i := 1038) (by decide +kernel))) rfl
theorem mm_X6_doneIn : lkM yX6_doneIn cX6_doneIn 4 (some .int) 1 := ⟨aw (List.mem_append_right _ (List.mem_of_getElem? (i := 7) (by decide +kernel))) rfl, aw (List.mem_append_right _ (List.mem_of_getElem? (i := 1043) (by decide +kernel))) rfl, ⟨by decide +kernel, by decide +kernel, by decide +kernel⟩, by decide⟩
theorem pl_X6_doneIn : plainFor yX6_doneIn = true := by decide +kernel
theorem mi_X6_doneIn : Cond.instanceMethod yX6_doneIn ∈ allw := aw (List.mem_append_right _ (List.mem_of_getElem? (i := 1041) (by decide +kernel))) rfl
theorem ml_X6_doneIn : Cond.selects yX6_doneIn.cls yX6_doneIn yX6_doneIn ∈ allw := aw (List.mem_append_right _ (List.mem_of_getElem? (i := 1042) (by decide +kernel))) rfl
theorem mm_X6_putAside : lkM yX6_putAside cX6_putAside 2 none 0 := ⟨aw (List.mem_append_right _ (List.mem_of_getElem? (i := 7) (by decide +kernel))) rfl, aw (List.mem_append_right _ (List.mem_of_getElem? (i := 1047) (by decide +kernel))) rfl, ⟨by decide +kernel, by decide +kernel, by decide +kernel⟩, by decide⟩
theorem pl_X6_putAside : plainFor yX6_putAside = true := by decide +kernel
theorem mi_X6_putAside : Cond.instanceMethod yX6_putAside ∈ allw := aw (List.mem_append_right _ (List.mem_of_getElem? (i := 1046) (by decide +kernel))) rfl
theorem ml_X6_putAside : Cond.selects yX6_putAside.cls yX6_putAside yX6_putAside ∈ allw := aw (List.mem_append_left _ (List.mem_of_getElem? (i := 58) (by decide +kernel))) rfl
theorem mm_X6_takeBack : lkM yX6_takeBack cX6_takeBack 2 none 0 := ⟨aw (List.mem_append_right _ (List.mem_of_getElem? (i := 7) (by decide +kernel))) rfl, aw (List.mem_append_right _ (List.mem_of_getElem? (i := 1051) (by decide +kernel))) rfl, ⟨by decide +kernel, by decide +kernel, by decide +kernel⟩, by decide⟩
theorem pl_X6_takeBack : plainFor yX6_takeBack = true := by decide +kernel
theorem mi_X6_takeBack : Cond.instanceMethod yX6_takeBack ∈ allw := aw (List.mem_append_right _ (List.mem_of_getElem? (i := 1050) (by decide +kernel))) rfl
theorem ml_X6_takeBack : Cond.selects yX6_takeBack.cls yX6_takeBack yX6_takeBack ∈ allw := aw (List.mem_append_left _ (List.mem_of_getElem? (i := 59) (by decide +kernel))) rfl
theorem mm_X6_ifAssigned : lkM yX6_ifAssigned cX6_ifAssigned 2 (some .int) 0 := ⟨aw (List.mem_append_right _ (List.mem_of_getElem? (i := 7) (by decide +kernel))) rfl, aw (List.mem_append_right _ (List.mem_of_getElem? (i := 1055) (by decide +kernel))) rfl, ⟨by decide +kernel, by decide +kernel, by decide +kernel⟩, by decide⟩
theorem pl_X6_ifAssigned : plainFor yX6_ifAssigned = true := by decide +kernel
theorem mi_X6_ifAssigned : Cond.instanceMethod yX6_ifAssigned ∈ allw := aw (List.mem_append_right _ (List.mem_of_getElem? (i := 1053) (by decide +kernel))) rfl
theorem ml_X6_ifAssigned : Cond.selects yX6_ifAssigned.cls yX6_ifAssigned yX6_ifAssigned ∈ allw := aw (List.mem_append_right _ (List.mem_of_getElem? (i := 1054) (by decide +kernel))) rfl
theorem mm_X6_put : lkM yX6_put cX6_put 8 (some .int) 1 := ⟨aw (List.mem_append_right _ (List.mem_of_getElem? (i := 7) (by decide +kernel))) rfl, aw (List.mem_append_right _ (List.mem_of_getElem? (i := 1059) (by decide +kernel))) rfl, ⟨by decide +kernel, by decide +kernel, by decide +kernel⟩, by decide⟩
theorem pl_X6_put : plainFor yX6_put = true := by decide +kernel
theorem mi_X6_put : Cond.instanceMethod yX6_put ∈ allw := aw (List.mem_append_right _ (List.mem_of_getElem? (i := 1057) (by decide +kernel))) rfl
theorem ml_X6_put : Cond.selects yX6_put.cls yX6_put yX6_put ∈ allw := aw (List.mem_append_right _ (List.mem_of_getElem? (i := 1058) (by decide +kernel))) rfl
theorem mm_X6_wipe : lkM yX6_wipe cX6_wipe 2 (some .int) 0 := ⟨aw (List.mem_append_right _ (List.mem_of_getElem? (i := 7) (by decide +kernel))) rfl, aw (List.mem_append_right _ (List.mem_of_getElem? (i := 1064) (by decide +kernel))) rfl, ⟨by decide +kernel, by decide +kernel, by decide +kernel⟩, by decide⟩
theorem pl_X6_wipe : plainFor yX6_wipe = true := by decide +kernel
theorem mi_X6_wipe : Cond.instanceMethod yX6_wipe ∈ allw := aw (List.mem_append_right _ (List.mem_of_getElem? (i := 1062) (by decide +kernel))) rfl
theorem ml_X6_wipe : Cond.selects yX6_wipe.cls yX6_wipe yX6_wipe ∈ allw := aw (List.mem_append_right _ (List.mem_of_getElem? (i := 1063) (by decide +kernel))) rfl
theorem mm_X6_fault : lkM yX6_fault cX6_fault 1 (some .int) 0 := ⟨aw (List.mem_append_right _ (List.mem_of_getElem? (i := 7) (by decide +kernel))) rfl, aw (List.mem_append_right _ (List.mem_of_getElem? (i := 1068) (by decide +kernel))) rfl, ⟨by decide +kernel, by decide +kernel, by decide +kernel⟩, by decide⟩
theorem pl_X6_fault : plainFor yX6_fault = true := by decide +kernel
theorem mi_X6_fault : Cond.instanceMethod yX6_fault ∈ allw := aw (List.mem_append_right _ (List.mem_of_getElem? (i := 1066) (by decide +kernel))) rfl
theorem ml_X6_fault : Cond.selects yX6_fault.cls yX6_fault yX6_fault ∈ allw := aw (List.mem_append_right _ (List.mem_of_getElem? (i := 1067) (by decide +kernel))) rfl
theorem mm_X6_reads : lkM yX6_reads cX6_reads 1 (some .int) 0 := ⟨aw (List.mem_append_right _ (List.mem_of_getElem? (i := 7) (by decide +kernel))) rfl, aw (List.mem_append_right _ (List.mem_of_getElem? (i := 1072) (by decide +kernel))) rfl, ⟨by decide +kernel, by decide +kernel, by decide +kernel⟩, by decide⟩
theorem pl_X6_reads : plainFor yX6_reads = true := by decide +kernel
theorem mi_X6_reads : Cond.instanceMethod yX6_reads ∈ allw := aw (List.mem_append_right _ (List.mem_of_getElem? (i := 1071) (by decide +kernel))) rfl
theorem ml_X6_reads : Cond.selects yX6_reads.cls yX6_reads yX6_reads ∈ allw := aw (List.mem_append_left _ (List.mem_of_getElem? (i := 60) (by decide +kernel))) rfl
theorem mm_X6_readsOrder : lkM yX6_readsOrder cX6_readsOrder 3 none 0 := ⟨aw (List.mem_append_right _ (List.mem_of_getElem? (i := 7) (by decide +kernel))) rfl, aw (List.mem_append_right _ (List.mem_of_getElem? (i := 1076) (by decide +kernel))) rfl, ⟨by decide +kernel, by decide +kernel, by decide +kernel⟩, by decide⟩
theorem pl_X6_readsOrder : plainFor yX6_readsOrder = true := by decide +kernel
theorem mi_X6_readsOrder : Cond.instanceMethod yX6_readsOrder ∈ allw := aw (List.mem_append_right _ (List.mem_of_getElem? (i := 1075) (by decide +kernel))) rfl
theorem ml_X6_readsOrder : Cond.selects yX6_readsOrder.cls yX6_readsOrder yX6_readsOrder ∈ allw := aw (List.mem_append_left _ (List.mem_of_getElem? (i := 61) (by decide +kernel))) rfl
theorem mm_X6_letter : lkM yX6_letter cX6_letter 1 (some .int) 0 := ⟨aw (List.mem_append_right _ (List.mem_of_getElem? (i := 7) (by decide +kernel))) rfl, aw (List.mem_append_right _ (List.mem_of_getElem? (i := 1080) (by decide +kernel))) rfl, ⟨by decide +kernel, by decide +kernel, by decide +kernel⟩, by decide⟩
theorem pl_X6_letter : plainFor yX6_letter = true := by decide +kernel
theorem mi_X6_letter : Cond.instanceMethod yX6_letter ∈ allw := aw (List.mem_append_right _ (List.mem_of_getElem? (i := 1079) (by decide +kernel))) rfl
theorem ml_X6_letter : Cond.selects yX6_letter.cls yX6_letter yX6_letter ∈ allw := aw (List.mem_append_left _ (List.mem_of_getElem? (i := 62) (by decide +kernel))) rfl
theorem mm_X6_isOrder : lkM yX6_isOrder cX6_isOrder 1 (some .boolean) 1 := ⟨aw (List.mem_append_right _ (List.mem_of_getElem? (i := 7) (by decide +kernel))) rfl, aw (List.mem_append_right _ (List.mem_of_getElem? (i := 1083) (by decide +kernel))) rfl, ⟨by decide +kernel, by decide +kernel, by decide +kernel⟩, by decide⟩
theorem pl_X6_isOrder : plainFor yX6_isOrder = true := by decide +kernel
theorem ms_X6_isOrder : Cond.static yX6_isOrder ∈ allw := aw (List.mem_append_right _ (List.mem_of_getElem? (i := 1082) (by decide +kernel))) rfl
theorem mm_X6_number : lkM yX6_number cX6_number 2 (some .int) 0 := ⟨aw (List.mem_append_right _ (List.mem_of_getElem? (i := 7) (by decide +kernel))) rfl, aw (List.mem_append_right _ (List.mem_of_getElem? (i := 1087) (by decide +kernel))) rfl, ⟨by decide +kernel, by decide +kernel, by decide +kernel⟩, by decide⟩
theorem pl_X6_number : plainFor yX6_number = true := by decide +kernel
theorem mi_X6_number : Cond.instanceMethod yX6_number ∈ allw := aw (List.mem_append_right _ (List.mem_of_getElem? (i := 1086) (by decide +kernel))) rfl
theorem ml_X6_number : Cond.selects yX6_number.cls yX6_number yX6_number ∈ allw := aw (List.mem_append_left _ (List.mem_of_getElem? (i := 63) (by decide +kernel))) rfl
theorem mm_X6_digit : lkM yX6_digit cX6_digit 2 (some .int) 0 := ⟨aw (List.mem_append_right _ (List.mem_of_getElem? (i := 7) (by decide +kernel))) rfl, aw (List.mem_append_right _ (List.mem_of_getElem? (i := 1091) (by decide +kernel))) rfl, ⟨by decide +kernel, by decide +kernel, by decide +kernel⟩, by decide⟩
theorem pl_X6_digit : plainFor yX6_digit = true := by decide +kernel
theorem mi_X6_digit : Cond.instanceMethod yX6_digit ∈ allw := aw (List.mem_append_right _ (List.mem_of_getElem? (i := 1090) (by decide +kernel))) rfl
theorem ml_X6_digit : Cond.selects yX6_digit.cls yX6_digit yX6_digit ∈ allw := aw (List.mem_append_left _ (List.mem_of_getElem? (i := 64) (by decide +kernel))) rfl
theorem mm_X6_readsJob : lkM yX6_readsJob cX6_readsJob 3 none 1 := ⟨aw (List.mem_append_right _ (List.mem_of_getElem? (i := 7) (by decide +kernel))) rfl, aw (List.mem_append_right _ (List.mem_of_getElem? (i := 1095) (by decide +kernel))) rfl, ⟨by decide +kernel, by decide +kernel, by decide +kernel⟩, by decide⟩
theorem pl_X6_readsJob : plainFor yX6_readsJob = true := by decide +kernel
theorem mi_X6_readsJob : Cond.instanceMethod yX6_readsJob ∈ allw := aw (List.mem_append_right _ (List.mem_of_getElem? (i := 1094) (by decide +kernel))) rfl
theorem ml_X6_readsJob : Cond.selects yX6_readsJob.cls yX6_readsJob yX6_readsJob ∈ allw := aw (List.mem_append_left _ (List.mem_of_getElem? (i := 65) (by decide +kernel))) rfl
theorem mm_X6_wants : lkM yX6_wants cX6_wants 2 none 1 := ⟨aw (List.mem_append_right _ (List.mem_of_getElem? (i := 7) (by decide +kernel))) rfl, aw (List.mem_append_right _ (List.mem_of_getElem? (i := 1099) (by decide +kernel))) rfl, ⟨by decide +kernel, by decide +kernel, by decide +kernel⟩, by decide⟩
theorem pl_X6_wants : plainFor yX6_wants = true := by decide +kernel
theorem mi_X6_wants : Cond.instanceMethod yX6_wants ∈ allw := aw (List.mem_append_right _ (List.mem_of_getElem? (i := 1098) (by decide +kernel))) rfl
theorem ml_X6_wants : Cond.selects yX6_wants.cls yX6_wants yX6_wants ∈ allw := aw (List.mem_append_left _ (List.mem_of_getElem? (i := 66) (by decide +kernel))) rfl
theorem mm_X6_readsCrew : lkM yX6_readsCrew cX6_readsCrew 3 none 1 := ⟨aw (List.mem_append_right _ (List.mem_of_getElem? (i := 7) (by decide +kernel))) rfl, aw (List.mem_append_right _ (List.mem_of_getElem? (i := 1103) (by decide +kernel))) rfl, ⟨by decide +kernel, by decide +kernel, by decide +kernel⟩, by decide⟩
theorem pl_X6_readsCrew : plainFor yX6_readsCrew = true := by decide +kernel
theorem mi_X6_readsCrew : Cond.instanceMethod yX6_readsCrew ∈ allw := aw (List.mem_append_right _ (List.mem_of_getElem? (i := 1102) (by decide +kernel))) rfl
theorem ml_X6_readsCrew : Cond.selects yX6_readsCrew.cls yX6_readsCrew yX6_readsCrew ∈ allw := aw (List.mem_append_left _ (List.mem_of_getElem? (i := 67) (by decide +kernel))) rfl
theorem mm_X6_carryOut : lkM yX6_carryOut cX6_carryOut 2 (some .int) 0 := ⟨aw (List.mem_append_right _ (List.mem_of_getElem? (i := 7) (by decide +kernel))) rfl, aw (List.mem_append_right _ (List.mem_of_getElem? (i := 1107) (by decide +kernel))) rfl, ⟨by decide +kernel, by decide +kernel, by decide +kernel⟩, by decide⟩
theorem pl_X6_carryOut : plainFor yX6_carryOut = true := by decide +kernel
theorem mi_X6_carryOut : Cond.instanceMethod yX6_carryOut ∈ allw := aw (List.mem_append_right _ (List.mem_of_getElem? (i := 1105) (by decide +kernel))) rfl
theorem ml_X6_carryOut : Cond.selects yX6_carryOut.cls yX6_carryOut yX6_carryOut ∈ allw := aw (List.mem_append_right _ (List.mem_of_getElem? (i := 1106) (by decide +kernel))) rfl
theorem mm_X6_refuses : lkM yX6_refuses cX6_refuses 4 (some .int) 1 := ⟨aw (List.mem_append_right _ (List.mem_of_getElem? (i := 7) (by decide +kernel))) rfl, aw (List.mem_append_right _ (List.mem_of_getElem? (i := 1111) (by decide +kernel))) rfl, ⟨by decide +kernel, by decide +kernel, by decide +kernel⟩, by decide⟩
theorem pl_X6_refuses : plainFor yX6_refuses = true := by decide +kernel
theorem mi_X6_refuses : Cond.instanceMethod yX6_refuses ∈ allw := aw (List.mem_append_right _ (List.mem_of_getElem? (i := 1110) (by decide +kernel))) rfl
theorem ml_X6_refuses : Cond.selects yX6_refuses.cls yX6_refuses yX6_refuses ∈ allw := aw (List.mem_append_left _ (List.mem_of_getElem? (i := 68) (by decide +kernel))) rfl
theorem mm_X6_does : lkM yX6_does cX6_does 4 none 1 := ⟨aw (List.mem_append_right _ (List.mem_of_getElem? (i := 7) (by decide +kernel))) rfl, aw (List.mem_append_right _ (List.mem_of_getElem? (i := 1115) (by decide +kernel))) rfl, ⟨by decide +kernel, by decide +kernel, by decide +kernel⟩, by decide⟩
theorem pl_X6_does : plainFor yX6_does = true := by decide +kernel
theorem mi_X6_does : Cond.instanceMethod yX6_does ∈ allw := aw (List.mem_append_right _ (List.mem_of_getElem? (i := 1114) (by decide +kernel))) rfl
theorem ml_X6_does : Cond.selects yX6_does.cls yX6_does yX6_does ∈ allw := aw (List.mem_append_left _ (List.mem_of_getElem? (i := 69) (by decide +kernel))) rfl
theorem mm_X6_undo : lkM yX6_undo cX6_undo 2 (some .int) 0 := ⟨aw (List.mem_append_right _ (List.mem_of_getElem? (i := 7) (by decide +kernel))) rfl, aw (List.mem_append_right _ (List.mem_of_getElem? (i := 1119) (by decide +kernel))) rfl, ⟨by decide +kernel, by decide +kernel, by decide +kernel⟩, by decide⟩
theorem pl_X6_undo : plainFor yX6_undo = true := by decide +kernel
theorem mi_X6_undo : Cond.instanceMethod yX6_undo ∈ allw := aw (List.mem_append_right _ (List.mem_of_getElem? (i := 1117) (by decide +kernel))) rfl
theorem ml_X6_undo : Cond.selects yX6_undo.cls yX6_undo yX6_undo ∈ allw := aw (List.mem_append_right _ (List.mem_of_getElem? (i := 1118) (by decide +kernel))) rfl
theorem mm_X6_save : lkM yX6_save cX6_save 3 (some .int) 1 := ⟨aw (List.mem_append_right _ (List.mem_of_getElem? (i := 7) (by decide +kernel))) rfl, aw (List.mem_append_right _ (List.mem_of_getElem? (i := 1123) (by decide +kernel))) rfl, ⟨by decide +kernel, by decide +kernel, by decide +kernel⟩, by decide⟩
theorem pl_X6_save : plainFor yX6_save = true := by decide +kernel
theorem mi_X6_save : Cond.instanceMethod yX6_save ∈ allw := aw (List.mem_append_right _ (List.mem_of_getElem? (i := 1121) (by decide +kernel))) rfl
theorem ml_X6_save : Cond.selects yX6_save.cls yX6_save yX6_save ∈ allw := aw (List.mem_append_right _ (List.mem_of_getElem? (i := 1122) (by decide +kernel))) rfl
theorem mm_X6_restore : lkM yX6_restore cX6_restore 3 (some .int) 1 := ⟨aw (List.mem_append_right _ (List.mem_of_getElem? (i := 7) (by decide +kernel))) rfl, aw (List.mem_append_right _ (List.mem_of_getElem? (i := 1127) (by decide +kernel))) rfl, ⟨by decide +kernel, by decide +kernel, by decide +kernel⟩, by decide⟩
theorem pl_X6_restore : plainFor yX6_restore = true := by decide +kernel
theorem mi_X6_restore : Cond.instanceMethod yX6_restore ∈ allw := aw (List.mem_append_right _ (List.mem_of_getElem? (i := 1125) (by decide +kernel))) rfl
theorem ml_X6_restore : Cond.selects yX6_restore.cls yX6_restore yX6_restore ∈ allw := aw (List.mem_append_right _ (List.mem_of_getElem? (i := 1126) (by decide +kernel))) rfl
