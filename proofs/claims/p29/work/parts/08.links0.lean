theorem w_in (w : Cond) (h : w ∈ lw_tbl) (g : goodWord w = true) : w ∈ allw := aw h g
theorem mm_X5_init : lkM yX5_init cX5_init 2 none 0 := ⟨aw (List.mem_append_right _ (List.mem_of_getElem? (i := 1) (by decide +kernel))) rfl, aw (List.mem_append_right _ (List.mem_of_getElem? (i := 14) (by decide +kernel))) rfl, ⟨by decide +kernel, by decide +kernel, by decide +kernel⟩, by decide⟩
theorem pl_X5_init : plainFor yX5_init = true := by decide +kernel
theorem mi_X5_init : Cond.instanceMethod yX5_init ∈ allw := aw (List.mem_append_right _ (List.mem_of_getElem? (i := 13) (by decide +kernel))) rfl
theorem mm_X0_init : lkM yX0_init cX0_init 2 none 0 := ⟨aw (List.mem_append_right _ (List.mem_of_getElem? (i := 2) (by decide +kernel))) rfl, aw (List.mem_append_right _ (List.mem_of_getElem? (i := 22) (by decide +kernel))) rfl, ⟨by decide +kernel, by decide +kernel, by decide +kernel⟩, by decide⟩
theorem pl_X0_init : plainFor yX0_init = true := by decide +kernel
theorem mi_X0_init : Cond.instanceMethod yX0_init ∈ allw := aw (List.mem_append_right _ (List.mem_of_getElem? (i := 21) (by decide +kernel))) rfl
theorem mm_X4_init : lkM yX4_init cX4_init 1 none 0 := ⟨aw (List.mem_append_right _ (List.mem_of_getElem? (i := 3) (by decide +kernel))) rfl, aw (List.mem_append_right _ (List.mem_of_getElem? (i := 31) (by decide +kernel))) rfl, ⟨by decide +kernel, by decide +kernel, by decide +kernel⟩, by decide⟩
theorem pl_X4_init : plainFor yX4_init = true := by decide +kernel
theorem mi_X4_init : Cond.instanceMethod yX4_init ∈ allw := aw (List.mem_append_right _ (List.mem_of_getElem? (i := 30) (by decide +kernel))) rfl
theorem mm_X2_init : lkM yX2_init cX2_init 1 none 0 := ⟨aw (List.mem_append_right _ (List.mem_of_getElem? (i := 4) (by decide +kernel))) rfl, aw (List.mem_append_right _ (List.mem_of_getElem? (i := 56) (by decide +kernel))) rfl, ⟨by decide +kernel, by decide +kernel, by decide +kernel⟩, by decide⟩
theorem pl_X2_init : plainFor yX2_init = true := by decide +kernel
theorem mi_X2_init : Cond.instanceMethod yX2_init ∈ allw := aw (List.mem_append_right _ (List.mem_of_getElem? (i := 55) (by decide +kernel))) rfl
theorem mm_X1_init : lkM yX1_init cX1_init 2 none 0 := ⟨aw (List.mem_append_right _ (List.mem_of_getElem? (i := 5) (by decide +kernel))) rfl, aw (List.mem_append_right _ (List.mem_of_getElem? (i := 149) (by decide +kernel))) rfl, ⟨by decide +kernel, by decide +kernel, by decide +kernel⟩, by decide⟩
theorem pl_X1_init : plainFor yX1_init = true := by decide +kernel
theorem mi_X1_init : Cond.instanceMethod yX1_init ∈ allw := aw (List.mem_append_right _ (List.mem_of_getElem? (i := 148) (by decide +kernel))) rfl
theorem mm_X3_init : lkM yX3_init cX3_init 1 none 0 := ⟨aw (List.mem_append_right _ (List.mem_of_getElem? (i := 6) (by decide +kernel))) rfl, aw (List.mem_append_right _ (List.mem_of_getElem? (i := 169) (by decide +kernel))) rfl, ⟨by decide +kernel, by decide +kernel, by decide +kernel⟩, by decide⟩
theorem pl_X3_init : plainFor yX3_init = true := by decide +kernel
theorem mi_X3_init : Cond.instanceMethod yX3_init ∈ allw := aw (List.mem_append_right _ (List.mem_of_getElem? (i := 168) (by decide +kernel))) rfl
theorem mm_X5_count : lkM yX5_count cX5_count 2 (some .int) 1 := ⟨aw (List.mem_append_right _ (List.mem_of_getElem? (i := 1) (by decide +kernel))) rfl, aw (List.mem_append_right _ (List.mem_of_getElem? (i := 213) (by decide +kernel))) rfl, ⟨by decide +kernel, by decide +kernel, by decide +kernel⟩, by decide⟩
theorem pl_X5_count : plainFor yX5_count = true := by decide +kernel
theorem mi_X5_count : Cond.instanceMethod yX5_count ∈ allw := aw (List.mem_append_right _ (List.mem_of_getElem? (i := 211) (by decide +kernel))) rfl
theorem ml_X5_count : Cond.selects yX5_count.cls yX5_count yX5_count ∈ allw := aw (List.mem_append_right _ (List.mem_of_getElem? (i := 212) (by decide +kernel))) rfl
theorem mm_X0_tellCount : lkM yX0_tellCount cX0_tellCount 2 (some .int) 1 := ⟨aw (List.mem_append_right _ (List.mem_of_getElem? (i := 2) (by decide +kernel))) rfl, aw (List.mem_append_right _ (List.mem_of_getElem? (i := 217) (by decide +kernel))) rfl, ⟨by decide +kernel, by decide +kernel, by decide +kernel⟩, by decide⟩
theorem pl_X0_tellCount : plainFor yX0_tellCount = true := by decide +kernel
theorem mi_X0_tellCount : Cond.instanceMethod yX0_tellCount ∈ allw := aw (List.mem_append_right _ (List.mem_of_getElem? (i := 215) (by decide +kernel))) rfl
theorem ml_X0_tellCount : Cond.selects yX0_tellCount.cls yX0_tellCount yX0_tellCount ∈ allw := aw (List.mem_append_right _ (List.mem_of_getElem? (i := 216) (by decide +kernel))) rfl
theorem mm_X0_busyPeople : lkM yX0_busyPeople cX0_busyPeople 3 (some .int) 0 := ⟨aw (List.mem_append_right _ (List.mem_of_getElem? (i := 2) (by decide +kernel))) rfl, aw (List.mem_append_right _ (List.mem_of_getElem? (i := 221) (by decide +kernel))) rfl, ⟨by decide +kernel, by decide +kernel, by decide +kernel⟩, by decide⟩
theorem pl_X0_busyPeople : plainFor yX0_busyPeople = true := by decide +kernel
theorem mi_X0_busyPeople : Cond.instanceMethod yX0_busyPeople ∈ allw := aw (List.mem_append_right _ (List.mem_of_getElem? (i := 219) (by decide +kernel))) rfl
theorem ml_X0_busyPeople : Cond.selects yX0_busyPeople.cls yX0_busyPeople yX0_busyPeople ∈ allw := aw (List.mem_append_right _ (List.mem_of_getElem? (i := 220) (by decide +kernel))) rfl
theorem mm_X0_jobsInState : lkM yX0_jobsInState cX0_jobsInState 4 (some .int) 1 := ⟨aw (List.mem_append_right _ (List.mem_of_getElem? (i := 2) (by decide +kernel))) rfl, aw (List.mem_append_right _ (List.mem_of_getElem? (i := 225) (by decide +kernel))) rfl, ⟨by decide +kernel, by decide +kernel, by decide +kernel⟩, by decide⟩
theorem pl_X0_jobsInState : plainFor yX0_jobsInState = true := by decide +kernel
theorem mi_X0_jobsInState : Cond.instanceMethod yX0_jobsInState ∈ allw := aw (List.mem_append_right _ (List.mem_of_getElem? (i := 224) (by decide +kernel))) rfl
theorem ml_X0_jobsInState : Cond.selects yX0_jobsInState.cls yX0_jobsInState yX0_jobsInState ∈ allw := aw (List.mem_append_left _ (List.mem_of_getElem? (i := 0) (by decide +kernel))) rfl
theorem mm_X0_lateJobs : lkM yX0_lateJobs cX0_lateJobs 3 (some .int) 0 := ⟨aw (List.mem_append_right _ (List.mem_of_getElem? (i := 2) (by decide +kernel))) rfl, aw (List.mem_append_right _ (List.mem_of_getElem? (i := 229) (by decide +kernel))) rfl, ⟨by decide +kernel, by decide +kernel, by decide +kernel⟩, by decide⟩
theorem pl_X0_lateJobs : plainFor yX0_lateJobs = true := by decide +kernel
theorem mi_X0_lateJobs : Cond.instanceMethod yX0_lateJobs ∈ allw := aw (List.mem_append_right _ (List.mem_of_getElem? (i := 228) (by decide +kernel))) rfl
theorem ml_X0_lateJobs : Cond.selects yX0_lateJobs.cls yX0_lateJobs yX0_lateJobs ∈ allw := aw (List.mem_append_left _ (List.mem_of_getElem? (i := 1) (by decide +kernel))) rfl
theorem mm_X2_isLate : lkM yX2_isLate cX2_isLate 2 (some .boolean) 1 := ⟨aw (List.mem_append_right _ (List.mem_of_getElem? (i := 4) (by decide +kernel))) rfl, aw (List.mem_append_right _ (List.mem_of_getElem? (i := 233) (by decide +kernel))) rfl, ⟨by decide +kernel, by decide +kernel, by decide +kernel⟩, by decide⟩
theorem pl_X2_isLate : plainFor yX2_isLate = true := by decide +kernel
theorem mi_X2_isLate : Cond.instanceMethod yX2_isLate ∈ allw := aw (List.mem_append_right _ (List.mem_of_getElem? (i := 231) (by decide +kernel))) rfl
theorem ml_X2_isLate : Cond.selects yX2_isLate.cls yX2_isLate yX2_isLate ∈ allw := aw (List.mem_append_right _ (List.mem_of_getElem? (i := 232) (by decide +kernel))) rfl
theorem mm_X5_undo : lkM yX5_undo cX5_undo 1 (some .int) 0 := ⟨aw (List.mem_append_right _ (List.mem_of_getElem? (i := 1) (by decide +kernel))) rfl, aw (List.mem_append_right _ (List.mem_of_getElem? (i := 237) (by decide +kernel))) rfl, ⟨by decide +kernel, by decide +kernel, by decide +kernel⟩, by decide⟩
theorem pl_X5_undo : plainFor yX5_undo = true := by decide +kernel
theorem mi_X5_undo : Cond.instanceMethod yX5_undo ∈ allw := aw (List.mem_append_right _ (List.mem_of_getElem? (i := 235) (by decide +kernel))) rfl
theorem ml_X5_undo : Cond.selects yX5_undo.cls yX5_undo yX5_undo ∈ allw := aw (List.mem_append_right _ (List.mem_of_getElem? (i := 236) (by decide +kernel))) rfl
theorem mm_X1_takeBack : lkM yX1_takeBack cX1_takeBack 2 (some .int) 1 := ⟨aw (List.mem_append_right _ (List.mem_of_getElem? (i := 5) (by decide +kernel))) rfl, aw (List.mem_append_right _ (List.mem_of_getElem? (i := 241) (by decide +kernel))) rfl, ⟨by decide +kernel, by decide +kernel, by decide +kernel⟩, by decide⟩
theorem pl_X1_takeBack : plainFor yX1_takeBack = true := by decide +kernel
theorem mi_X1_takeBack : Cond.instanceMethod yX1_takeBack ∈ allw := aw (List.mem_append_right _ (List.mem_of_getElem? (i := 239) (by decide +kernel))) rfl
theorem ml_X1_takeBack : Cond.selects yX1_takeBack.cls yX1_takeBack yX1_takeBack ∈ allw := aw (List.mem_append_right _ (List.mem_of_getElem? (i := 240) (by decide +kernel))) rfl
theorem mm_X1_row : lkM yX1_row cX1_row 2 (some .int) 1 := ⟨aw (List.mem_append_right _ (List.mem_of_getElem? (i := 5) (by decide +kernel))) rfl, aw (List.mem_append_right _ (List.mem_of_getElem? (i := 245) (by decide +kernel))) rfl, ⟨by decide +kernel, by decide +kernel, by decide +kernel⟩, by decide⟩
theorem pl_X1_row : plainFor yX1_row = true := by decide +kernel
theorem mi_X1_row : Cond.instanceMethod yX1_row ∈ allw := aw (List.mem_append_right _ (List.mem_of_getElem? (i := 244) (by decide +kernel))) rfl
theorem ml_X1_row : Cond.selects yX1_row.cls yX1_row yX1_row ∈ allw := aw (List.mem_append_left _ (List.mem_of_getElem? (i := 2) (by decide +kernel))) rfl
theorem mm_J9_floorMod_7cf53 : lkM yJ9_floorMod_7cf53 cJ9_floorMod_7cf53 3 (some .int) 2 := ⟨aw (List.mem_append_right _ (List.mem_of_getElem? (i := 7) (by decide +kernel))) rfl, aw (List.mem_append_right _ (List.mem_of_getElem? (i := 248) (by decide +kernel))) rfl, ⟨by decide +kernel, by decide +kernel, by decide +kernel⟩, by decide⟩
theorem pl_J9_floorMod_7cf53 : plainFor yJ9_floorMod_7cf53 = true := by decide +kernel
theorem ms_J9_floorMod_7cf53 : Cond.static yJ9_floorMod_7cf53 ∈ allw := aw (List.mem_append_right _ (List.mem_of_getElem? (i := 247) (by decide +kernel))) rfl
theorem mm_X0_copyFrom : lkM yX0_copyFrom cX0_copyFrom 3 none 1 := ⟨aw (List.mem_append_right _ (List.mem_of_getElem? (i := 2) (by decide +kernel))) rfl, aw (List.mem_append_right _ (List.mem_of_getElem? (i := 252) (by decide +kernel))) rfl, ⟨by decide +kernel, by decide +kernel, by decide +kernel⟩, by decide⟩
theorem pl_X0_copyFrom : plainFor yX0_copyFrom = true := by decide +kernel
theorem mi_X0_copyFrom : Cond.instanceMethod yX0_copyFrom ∈ allw := aw (List.mem_append_right _ (List.mem_of_getElem? (i := 250) (by decide +kernel))) rfl
theorem ml_X0_copyFrom : Cond.selects yX0_copyFrom.cls yX0_copyFrom yX0_copyFrom ∈ allw := aw (List.mem_append_right _ (List.mem_of_getElem? (i := 251) (by decide +kernel))) rfl
theorem mm_X4_copyFrom : lkM yX4_copyFrom cX4_copyFrom 2 none 1 := ⟨aw (List.mem_append_right _ (List.mem_of_getElem? (i := 3) (by decide +kernel))) rfl, aw (List.mem_append_right _ (List.mem_of_getElem? (i := 259) (by decide +kernel))) rfl, ⟨by decide +kernel, by decide +kernel, by decide +kernel⟩, by decide⟩
theorem pl_X4_copyFrom : plainFor yX4_copyFrom = true := by decide +kernel
theorem mi_X4_copyFrom : Cond.instanceMethod yX4_copyFrom ∈ allw := aw (List.mem_append_right _ (List.mem_of_getElem? (i := 257) (by decide +kernel))) rfl
theorem ml_X4_copyFrom : Cond.selects yX4_copyFrom.cls yX4_copyFrom yX4_copyFrom ∈ allw := aw (List.mem_append_right _ (List.mem_of_getElem? (i := 258) (by decide +kernel))) rfl
theorem mm_X2_copyFrom : lkM yX2_copyFrom cX2_copyFrom 2 none 1 := ⟨aw (List.mem_append_right _ (List.mem_of_getElem? (i := 4) (by decide +kernel))) rfl, aw (List.mem_append_right _ (List.mem_of_getElem? (i := 263) (by decide +kernel))) rfl, ⟨by decide +kernel, by decide +kernel, by decide +kernel⟩, by decide⟩
theorem pl_X2_copyFrom : plainFor yX2_copyFrom = true := by decide +kernel
theorem mi_X2_copyFrom : Cond.instanceMethod yX2_copyFrom ∈ allw := aw (List.mem_append_right _ (List.mem_of_getElem? (i := 261) (by decide +kernel))) rfl
theorem ml_X2_copyFrom : Cond.selects yX2_copyFrom.cls yX2_copyFrom yX2_copyFrom ∈ allw := aw (List.mem_append_right _ (List.mem_of_getElem? (i := 262) (by decide +kernel))) rfl
theorem mm_X5_save : lkM yX5_save cX5_save 2 (some .int) 1 := ⟨aw (List.mem_append_right _ (List.mem_of_getElem? (i := 1) (by decide +kernel))) rfl, aw (List.mem_append_right _ (List.mem_of_getElem? (i := 267) (by decide +kernel))) rfl, ⟨by decide +kernel, by decide +kernel, by decide +kernel⟩, by decide⟩
theorem pl_X5_save : plainFor yX5_save = true := by decide +kernel
theorem mi_X5_save : Cond.instanceMethod yX5_save ∈ allw := aw (List.mem_append_right _ (List.mem_of_getElem? (i := 265) (by decide +kernel))) rfl
theorem ml_X5_save : Cond.selects yX5_save.cls yX5_save yX5_save ∈ allw := aw (List.mem_append_right _ (List.mem_of_getElem? (i := 266) (by decide +kernel))) rfl
theorem mm_X5_isSlot : lkM yX5_isSlot cX5_isSlot 1 (some .boolean) 1 := ⟨aw (List.mem_append_right _ (List.mem_of_getElem? (i := 1) (by decide +kernel))) rfl, aw (List.mem_append_right _ (List.mem_of_getElem? (i := 270) (by decide +kernel))) rfl, ⟨by decide +kernel, by decide +kernel, by decide +kernel⟩, by decide⟩
theorem pl_X5_isSlot : plainFor yX5_isSlot = true := by decide +kernel
theorem ms_X5_isSlot : Cond.static yX5_isSlot ∈ allw := aw (List.mem_append_right _ (List.mem_of_getElem? (i := 269) (by decide +kernel))) rfl
theorem mm_X5_isWithin : lkM yX5_isWithin cX5_isWithin 3 (some .boolean) 3 := ⟨aw (List.mem_append_right _ (List.mem_of_getElem? (i := 1) (by decide +kernel))) rfl, aw (List.mem_append_right _ (List.mem_of_getElem? (i := 273) (by decide +kernel))) rfl, ⟨by decide +kernel, by decide +kernel, by decide +kernel⟩, by decide⟩
theorem pl_X5_isWithin : plainFor yX5_isWithin = true := by decide +kernel
theorem ms_X5_isWithin : Cond.static yX5_isWithin ∈ allw := aw (List.mem_append_right _ (List.mem_of_getElem? (i := 272) (by decide +kernel))) rfl
theorem mm_X5_restore : lkM yX5_restore cX5_restore 2 (some .int) 1 := ⟨aw (List.mem_append_right _ (List.mem_of_getElem? (i := 1) (by decide +kernel))) rfl, aw (List.mem_append_right _ (List.mem_of_getElem? (i := 278) (by decide +kernel))) rfl, ⟨by decide +kernel, by decide +kernel, by decide +kernel⟩, by decide⟩
theorem pl_X5_restore : plainFor yX5_restore = true := by decide +kernel
theorem mi_X5_restore : Cond.instanceMethod yX5_restore ∈ allw := aw (List.mem_append_right _ (List.mem_of_getElem? (i := 276) (by decide +kernel))) rfl
theorem ml_X5_restore : Cond.selects yX5_restore.cls yX5_restore yX5_restore ∈ allw := aw (List.mem_append_right _ (List.mem_of_getElem? (i := 277) (by decide +kernel))) rfl
theorem mm_X1_note : lkM yX1_note cX1_note 2 none 1 := ⟨aw (List.mem_append_right _ (List.mem_of_getElem? (i := 5) (by decide +kernel))) rfl, aw (List.mem_append_right _ (List.mem_of_getElem? (i := 282) (by decide +kernel))) rfl, ⟨by decide +kernel, by decide +kernel, by decide +kernel⟩, by decide⟩
theorem pl_X1_note : plainFor yX1_note = true := by decide +kernel
theorem mi_X1_note : Cond.instanceMethod yX1_note ∈ allw := aw (List.mem_append_right _ (List.mem_of_getElem? (i := 280) (by decide +kernel))) rfl
theorem ml_X1_note : Cond.selects yX1_note.cls yX1_note yX1_note ∈ allw := aw (List.mem_append_right _ (List.mem_of_getElem? (i := 281) (by decide +kernel))) rfl
theorem mm_X1_keepUnlessError : lkM yX1_keepUnlessError cX1_keepUnlessError 2 (some .int) 1 := ⟨aw (List.mem_append_right _ (List.mem_of_getElem? (i := 5) (by decide +kernel))) rfl, aw (List.mem_append_right _ (List.mem_of_getElem? (i := 286) (by decide +kernel))) rfl, ⟨by decide +kernel, by decide +kernel, by decide +kernel⟩, by decide⟩
theorem pl_X1_keepUnlessError : plainFor yX1_keepUnlessError = true := by decide +kernel
theorem mi_X1_keepUnlessError : Cond.instanceMethod yX1_keepUnlessError ∈ allw := aw (List.mem_append_right _ (List.mem_of_getElem? (i := 284) (by decide +kernel))) rfl
theorem ml_X1_keepUnlessError : Cond.selects yX1_keepUnlessError.cls yX1_keepUnlessError yX1_keepUnlessError ∈ allw := aw (List.mem_append_right _ (List.mem_of_getElem? (i := 285) (by decide +kernel))) rfl
theorem mm_L_cell : lkM yL_cell cL_cell 2 (some .int) 2 := ⟨aw (List.mem_append_right _ (List.mem_of_getElem? (i := 0) (by decide +kernel))) rfl, aw (List.mem_append_right _ (List.mem_of_getElem? (i := 289) (by decide +kernel))) rfl, ⟨by decide +kernel, by decide +kernel, by decide +kernel⟩, by decide⟩
theorem pl_L_cell : plainFor yL_cell = true := by decide +kernel
theorem ms_L_cell : Cond.static yL_cell ∈ allw := aw (List.mem_append_right _ (List.mem_of_getElem? (i := 288) (by decide +kernel))) rfl
theorem mm_L_told : lkM yL_told cL_told 5 (some .long) 1 := ⟨aw (List.mem_append_right _ (List.mem_of_getElem? (i := 0) (by decide +kernel))) rfl, aw (List.mem_append_right _ (List.mem_of_getElem? (i := 292) (by decide +kernel))) rfl, ⟨by decide +kernel, by decide +kernel, by decide +kernel⟩, by decide⟩
theorem pl_L_told : plainFor yL_told = true := by decide +kernel
theorem ms_L_told : Cond.static yL_told ∈ allw := aw (List.mem_append_right _ (List.mem_of_getElem? (i := 291) (by decide +kernel))) rfl
theorem mm_X5_of : lkM yX5_of cX5_of 3 (some .int) 2 := ⟨aw (List.mem_append_right _ (List.mem_of_getElem? (i := 1) (by decide +kernel))) rfl, aw (List.mem_append_right _ (List.mem_of_getElem? (i := 298) (by decide +kernel))) rfl, ⟨by decide +kernel, by decide +kernel, by decide +kernel⟩, by decide⟩
theorem pl_X5_of : plainFor yX5_of = true := by decide +kernel
theorem mi_X5_of : Cond.instanceMethod yX5_of ∈ allw := aw (List.mem_append_right _ (List.mem_of_getElem? (i := 296) (by decide +kernel))) rfl
theorem ml_X5_of : Cond.selects yX5_of.cls yX5_of yX5_of ∈ allw := aw (List.mem_append_right _ (List.mem_of_getElem? (i := 297) (by decide +kernel))) rfl
theorem mm_X0_hasPerson : lkM yX0_hasPerson cX0_hasPerson 2 (some .boolean) 1 := ⟨aw (List.mem_append_right _ (List.mem_of_getElem? (i := 2) (by decide +kernel))) rfl, aw (List.mem_append_right _ (List.mem_of_getElem? (i := 302) (by decide +kernel))) rfl, ⟨by decide +kernel, by decide +kernel, by decide +kernel⟩, by decide⟩
theorem pl_X0_hasPerson : plainFor yX0_hasPerson = true := by decide +kernel
theorem mi_X0_hasPerson : Cond.instanceMethod yX0_hasPerson ∈ allw := aw (List.mem_append_right _ (List.mem_of_getElem? (i := 300) (by decide +kernel))) rfl
theorem ml_X0_hasPerson : Cond.selects yX0_hasPerson.cls yX0_hasPerson yX0_hasPerson ∈ allw := aw (List.mem_append_right _ (List.mem_of_getElem? (i := 301) (by decide +kernel))) rfl
theorem mm_X4_tell : lkM yX4_tell cX4_tell 3 (some .int) 2 := ⟨aw (List.mem_append_right _ (List.mem_of_getElem? (i := 3) (by decide +kernel))) rfl, aw (List.mem_append_right _ (List.mem_of_getElem? (i := 306) (by decide +kernel))) rfl, ⟨by decide +kernel, by decide +kernel, by decide +kernel⟩, by decide⟩
theorem pl_X4_tell : plainFor yX4_tell = true := by decide +kernel
theorem mi_X4_tell : Cond.instanceMethod yX4_tell ∈ allw := aw (List.mem_append_right _ (List.mem_of_getElem? (i := 304) (by decide +kernel))) rfl
theorem ml_X4_tell : Cond.selects yX4_tell.cls yX4_tell yX4_tell ∈ allw := aw (List.mem_append_right _ (List.mem_of_getElem? (i := 305) (by decide +kernel))) rfl
theorem mm_X4_hoursOfRest : lkM yX4_hoursOfRest cX4_hoursOfRest 3 (some .int) 1 := ⟨aw (List.mem_append_right _ (List.mem_of_getElem? (i := 3) (by decide +kernel))) rfl, aw (List.mem_append_right _ (List.mem_of_getElem? (i := 310) (by decide +kernel))) rfl, ⟨by decide +kernel, by decide +kernel, by decide +kernel⟩, by decide⟩
theorem pl_X4_hoursOfRest : plainFor yX4_hoursOfRest = true := by decide +kernel
theorem mi_X4_hoursOfRest : Cond.instanceMethod yX4_hoursOfRest ∈ allw := aw (List.mem_append_right _ (List.mem_of_getElem? (i := 309) (by decide +kernel))) rfl
theorem ml_X4_hoursOfRest : Cond.selects yX4_hoursOfRest.cls yX4_hoursOfRest yX4_hoursOfRest ∈ allw := aw (List.mem_append_left _ (List.mem_of_getElem? (i := 3) (by decide +kernel))) rfl
theorem mm_X5_ofJob : lkM yX5_ofJob cX5_ofJob 3 (some .int) 2 := ⟨aw (List.mem_append_right _ (List.mem_of_getElem? (i := 1) (by decide +kernel))) rfl, aw (List.mem_append_right _ (List.mem_of_getElem? (i := 317) (by decide +kernel))) rfl, ⟨by decide +kernel, by decide +kernel, by decide +kernel⟩, by decide⟩
theorem pl_X5_ofJob : plainFor yX5_ofJob = true := by decide +kernel
theorem mi_X5_ofJob : Cond.instanceMethod yX5_ofJob ∈ allw := aw (List.mem_append_right _ (List.mem_of_getElem? (i := 315) (by decide +kernel))) rfl
theorem ml_X5_ofJob : Cond.selects yX5_ofJob.cls yX5_ofJob yX5_ofJob ∈ allw := aw (List.mem_append_right _ (List.mem_of_getElem? (i := 316) (by decide +kernel))) rfl
theorem mm_X0_hasJob : lkM yX0_hasJob cX0_hasJob 2 (some .boolean) 1 := ⟨aw (List.mem_append_right _ (List.mem_of_getElem? (i := 2) (by decide +kernel))) rfl, aw (List.mem_append_right _ (List.mem_of_getElem? (i := 321) (by decide +kernel))) rfl, ⟨by decide +kernel, by decide +kernel, by decide +kernel⟩, by decide⟩
theorem pl_X0_hasJob : plainFor yX0_hasJob = true := by decide +kernel
theorem mi_X0_hasJob : Cond.instanceMethod yX0_hasJob ∈ allw := aw (List.mem_append_right _ (List.mem_of_getElem? (i := 319) (by decide +kernel))) rfl
theorem ml_X0_hasJob : Cond.selects yX0_hasJob.cls yX0_hasJob yX0_hasJob ∈ allw := aw (List.mem_append_right _ (List.mem_of_getElem? (i := 320) (by decide +kernel))) rfl
theorem mm_X0_tellOfJob : lkM yX0_tellOfJob cX0_tellOfJob 3 (some .int) 2 := ⟨aw (List.mem_append_right _ (List.mem_of_getElem? (i := 2) (by decide +kernel))) rfl, aw (List.mem_append_right _ (List.mem_of_getElem? (i := 325) (by decide +kernel))) rfl, ⟨by decide +kernel, by decide +kernel, by decide +kernel⟩, by decide⟩
theorem pl_X0_tellOfJob : plainFor yX0_tellOfJob = true := by decide +kernel
theorem mi_X0_tellOfJob : Cond.instanceMethod yX0_tellOfJob ∈ allw := aw (List.mem_append_right _ (List.mem_of_getElem? (i := 323) (by decide +kernel))) rfl
theorem ml_X0_tellOfJob : Cond.selects yX0_tellOfJob.cls yX0_tellOfJob yX0_tellOfJob ∈ allw := aw (List.mem_append_right _ (List.mem_of_getElem? (i := 324) (by decide +kernel))) rfl
theorem mm_X2_wasBegun : lkM yX2_wasBegun cX2_wasBegun 1 (some .boolean) 0 := ⟨aw (List.mem_append_right _ (List.mem_of_getElem? (i := 4) (by decide +kernel))) rfl, aw (List.mem_append_right _ (List.mem_of_getElem? (i := 329) (by decide +kernel))) rfl, ⟨by decide +kernel, by decide +kernel, by decide +kernel⟩, by decide⟩
theorem pl_X2_wasBegun : plainFor yX2_wasBegun = true := by decide +kernel
theorem mi_X2_wasBegun : Cond.instanceMethod yX2_wasBegun ∈ allw := aw (List.mem_append_right _ (List.mem_of_getElem? (i := 327) (by decide +kernel))) rfl
theorem ml_X2_wasBegun : Cond.selects yX2_wasBegun.cls yX2_wasBegun yX2_wasBegun ∈ allw := aw (List.mem_append_right _ (List.mem_of_getElem? (i := 328) (by decide +kernel))) rfl
theorem mm_X0_loadNow : lkM yX0_loadNow cX0_loadNow 2 (some .int) 1 := ⟨aw (List.mem_append_right _ (List.mem_of_getElem? (i := 2) (by decide +kernel))) rfl, aw (List.mem_append_right _ (List.mem_of_getElem? (i := 333) (by decide +kernel))) rfl, ⟨by decide +kernel, by decide +kernel, by decide +kernel⟩, by decide⟩
theorem pl_X0_loadNow : plainFor yX0_loadNow = true := by decide +kernel
theorem mi_X0_loadNow : Cond.instanceMethod yX0_loadNow ∈ allw := aw (List.mem_append_right _ (List.mem_of_getElem? (i := 331) (by decide +kernel))) rfl
theorem ml_X0_loadNow : Cond.selects yX0_loadNow.cls yX0_loadNow yX0_loadNow ∈ allw := aw (List.mem_append_right _ (List.mem_of_getElem? (i := 332) (by decide +kernel))) rfl
theorem mm_X5_straps : lkM yX5_straps cX5_straps 3 (some .int) 2 := ⟨aw (List.mem_append_right _ (List.mem_of_getElem? (i := 1) (by decide +kernel))) rfl, aw (List.mem_append_right _ (List.mem_of_getElem? (i := 337) (by decide +kernel))) rfl, ⟨by decide +kernel, by decide +kernel, by decide +kernel⟩, by decide⟩
theorem pl_X5_straps : plainFor yX5_straps = true := by decide +kernel
theorem mi_X5_straps : Cond.instanceMethod yX5_straps ∈ allw := aw (List.mem_append_right _ (List.mem_of_getElem? (i := 335) (by decide +kernel))) rfl
theorem ml_X5_straps : Cond.selects yX5_straps.cls yX5_straps yX5_straps ∈ allw := aw (List.mem_append_right _ (List.mem_of_getElem? (i := 336) (by decide +kernel))) rfl
theorem mm_X5_isKind : lkM yX5_isKind cX5_isKind 1 (some .boolean) 1 := ⟨aw (List.mem_append_right _ (List.mem_of_getElem? (i := 1) (by decide +kernel))) rfl, aw (List.mem_append_right _ (List.mem_of_getElem? (i := 340) (by decide +kernel))) rfl, ⟨by decide +kernel, by decide +kernel, by decide +kernel⟩, by decide⟩
theorem pl_X5_isKind : plainFor yX5_isKind = true := by decide +kernel
theorem ms_X5_isKind : Cond.static yX5_isKind ∈ allw := aw (List.mem_append_right _ (List.mem_of_getElem? (i := 339) (by decide +kernel))) rfl
theorem mm_L_act : lkM yL_act cL_act 4 (some .int) 3 := ⟨aw (List.mem_append_right _ (List.mem_of_getElem? (i := 0) (by decide +kernel))) rfl, aw (List.mem_append_right _ (List.mem_of_getElem? (i := 343) (by decide +kernel))) rfl, ⟨by decide +kernel, by decide +kernel, by decide +kernel⟩, by decide⟩
theorem pl_L_act : plainFor yL_act = true := by decide +kernel
theorem ms_L_act : Cond.static yL_act ∈ allw := aw (List.mem_append_right _ (List.mem_of_getElem? (i := 342) (by decide +kernel))) rfl
theorem mm_L_low : lkM yL_low cL_low 2 (some .int) 2 := ⟨aw (List.mem_append_right _ (List.mem_of_getElem? (i := 0) (by decide +kernel))) rfl, aw (List.mem_append_right _ (List.mem_of_getElem? (i := 346) (by decide +kernel))) rfl, ⟨by decide +kernel, by decide +kernel, by decide +kernel⟩, by decide⟩
theorem pl_L_low : plainFor yL_low = true := by decide +kernel
theorem ms_L_low : Cond.static yL_low ∈ allw := aw (List.mem_append_right _ (List.mem_of_getElem? (i := 345) (by decide +kernel))) rfl
theorem mm_X5_set : lkM yX5_set cX5_set 3 (some .int) 2 := ⟨aw (List.mem_append_right _ (List.mem_of_getElem? (i := 1) (by decide +kernel))) rfl, aw (List.mem_append_right _ (List.mem_of_getElem? (i := 351) (by decide +kernel))) rfl, ⟨by decide +kernel, by decide +kernel, by decide +kernel⟩, by decide⟩
theorem pl_X5_set : plainFor yX5_set = true := by decide +kernel
theorem mi_X5_set : Cond.instanceMethod yX5_set ∈ allw := aw (List.mem_append_right _ (List.mem_of_getElem? (i := 349) (by decide +kernel))) rfl
theorem ml_X5_set : Cond.selects yX5_set.cls yX5_set yX5_set ∈ allw := aw (List.mem_append_right _ (List.mem_of_getElem? (i := 350) (by decide +kernel))) rfl
theorem mm_X0_changeSetting : lkM yX0_changeSetting cX0_changeSetting 4 (some .int) 2 := ⟨aw (List.mem_append_right _ (List.mem_of_getElem? (i := 2) (by decide +kernel))) rfl, aw (List.mem_append_right _ (List.mem_of_getElem? (i := 355) (by decide +kernel))) rfl, ⟨by decide +kernel, by decide +kernel, by decide +kernel⟩, by decide⟩
theorem pl_X0_changeSetting : plainFor yX0_changeSetting = true := by decide +kernel
theorem mi_X0_changeSetting : Cond.instanceMethod yX0_changeSetting ∈ allw := aw (List.mem_append_right _ (List.mem_of_getElem? (i := 353) (by decide +kernel))) rfl
theorem ml_X0_changeSetting : Cond.selects yX0_changeSetting.cls yX0_changeSetting yX0_changeSetting ∈ allw := aw (List.mem_append_right _ (List.mem_of_getElem? (i := 354) (by decide +kernel))) rfl
theorem mm_X5_person : lkM yX5_person cX5_person 2 (some .int) 1 := ⟨aw (List.mem_append_right _ (List.mem_of_getElem? (i := 1) (by decide +kernel))) rfl, aw (List.mem_append_right _ (List.mem_of_getElem? (i := 364) (by decide +kernel))) rfl, ⟨by decide +kernel, by decide +kernel, by decide +kernel⟩, by decide⟩
theorem pl_X5_person : plainFor yX5_person = true := by decide +kernel
theorem mi_X5_person : Cond.instanceMethod yX5_person ∈ allw := aw (List.mem_append_right _ (List.mem_of_getElem? (i := 362) (by decide +kernel))) rfl
theorem ml_X5_person : Cond.selects yX5_person.cls yX5_person yX5_person ∈ allw := aw (List.mem_append_right _ (List.mem_of_getElem? (i := 363) (by decide +kernel))) rfl
theorem mm_X0_addPerson : lkM yX0_addPerson cX0_addPerson 2 (some .int) 1 := ⟨aw (List.mem_append_right _ (List.mem_of_getElem? (i := 2) (by decide +kernel))) rfl, aw (List.mem_append_right _ (List.mem_of_getElem? (i := 368) (by decide +kernel))) rfl, ⟨by decide +kernel, by decide +kernel, by decide +kernel⟩, by decide⟩
theorem pl_X0_addPerson : plainFor yX0_addPerson = true := by decide +kernel
theorem mi_X0_addPerson : Cond.instanceMethod yX0_addPerson ∈ allw := aw (List.mem_append_right _ (List.mem_of_getElem? (i := 366) (by decide +kernel))) rfl
theorem ml_X0_addPerson : Cond.selects yX0_addPerson.cls yX0_addPerson yX0_addPerson ∈ allw := aw (List.mem_append_right _ (List.mem_of_getElem? (i := 367) (by decide +kernel))) rfl
theorem mm_X4_come : lkM yX4_come cX4_come 2 none 1 := ⟨aw (List.mem_append_right _ (List.mem_of_getElem? (i := 3) (by decide +kernel))) rfl, aw (List.mem_append_right _ (List.mem_of_getElem? (i := 372) (by decide +kernel))) rfl, ⟨by decide +kernel, by decide +kernel, by decide +kernel⟩, by decide⟩
theorem pl_X4_come : plainFor yX4_come = true := by decide +kernel
theorem mi_X4_come : Cond.instanceMethod yX4_come ∈ allw := aw (List.mem_append_right _ (List.mem_of_getElem? (i := 370) (by decide +kernel))) rfl
theorem ml_X4_come : Cond.selects yX4_come.cls yX4_come yX4_come ∈ allw := aw (List.mem_append_right _ (List.mem_of_getElem? (i := 371) (by decide +kernel))) rfl
theorem mm_X5_job : lkM yX5_job cX5_job 6 (some .int) 5 := ⟨aw (List.mem_append_right _ (List.mem_of_getElem? (i := 1) (by decide +kernel))) rfl, aw (List.mem_append_right _ (List.mem_of_getElem? (i := 376) (by decide +kernel))) rfl, ⟨by decide +kernel, by decide +kernel, by decide +kernel⟩, by decide⟩
theorem pl_X5_job : plainFor yX5_job = true := by decide +kernel
theorem mi_X5_job : Cond.instanceMethod yX5_job ∈ allw := aw (List.mem_append_right _ (List.mem_of_getElem? (i := 374) (by decide +kernel))) rfl
theorem ml_X5_job : Cond.selects yX5_job.cls yX5_job yX5_job ∈ allw := aw (List.mem_append_right _ (List.mem_of_getElem? (i := 375) (by decide +kernel))) rfl
theorem mm_X0_addJob : lkM yX0_addJob cX0_addJob 6 (some .int) 5 := ⟨aw (List.mem_append_right _ (List.mem_of_getElem? (i := 2) (by decide +kernel))) rfl, aw (List.mem_append_right _ (List.mem_of_getElem? (i := 380) (by decide +kernel))) rfl, ⟨by decide +kernel, by decide +kernel, by decide +kernel⟩, by decide⟩
theorem pl_X0_addJob : plainFor yX0_addJob = true := by decide +kernel
theorem mi_X0_addJob : Cond.instanceMethod yX0_addJob ∈ allw := aw (List.mem_append_right _ (List.mem_of_getElem? (i := 378) (by decide +kernel))) rfl
theorem ml_X0_addJob : Cond.selects yX0_addJob.cls yX0_addJob yX0_addJob ∈ allw := aw (List.mem_append_right _ (List.mem_of_getElem? (i := 379) (by decide +kernel))) rfl
theorem mm_X2_come : lkM yX2_come cX2_come 6 none 5 := ⟨aw (List.mem_append_right _ (List.mem_of_getElem? (i := 4) (by decide +kernel))) rfl, aw (List.mem_append_right _ (List.mem_of_getElem? (i := 384) (by decide +kernel))) rfl, ⟨by decide +kernel, by decide +kernel, by decide +kernel⟩, by decide⟩
theorem pl_X2_come : plainFor yX2_come = true := by decide +kernel
theorem mi_X2_come : Cond.instanceMethod yX2_come ∈ allw := aw (List.mem_append_right _ (List.mem_of_getElem? (i := 382) (by decide +kernel))) rfl
theorem ml_X2_come : Cond.selects yX2_come.cls yX2_come yX2_come ∈ allw := aw (List.mem_append_right _ (List.mem_of_getElem? (i := 383) (by decide +kernel))) rfl
theorem mm_X5_buy : lkM yX5_buy cX5_buy 2 (some .int) 1 := ⟨aw (List.mem_append_right _ (List.mem_of_getElem? (i := 1) (by decide +kernel))) rfl, aw (List.mem_append_right _ (List.mem_of_getElem? (i := 388) (by decide +kernel))) rfl, ⟨by decide +kernel, by decide +kernel, by decide +kernel⟩, by decide⟩
theorem pl_X5_buy : plainFor yX5_buy = true := by decide +kernel
theorem mi_X5_buy : Cond.instanceMethod yX5_buy ∈ allw := aw (List.mem_append_right _ (List.mem_of_getElem? (i := 386) (by decide +kernel))) rfl
theorem ml_X5_buy : Cond.selects yX5_buy.cls yX5_buy yX5_buy ∈ allw := aw (List.mem_append_right _ (List.mem_of_getElem? (i := 387) (by decide +kernel))) rfl
theorem mm_X0_addStraps : lkM yX0_addStraps cX0_addStraps 2 (some .int) 1 := ⟨aw (List.mem_append_right _ (List.mem_of_getElem? (i := 2) (by decide +kernel))) rfl, aw (List.mem_append_right _ (List.mem_of_getElem? (i := 392) (by decide +kernel))) rfl, ⟨by decide +kernel, by decide +kernel, by decide +kernel⟩, by decide⟩
theorem pl_X0_addStraps : plainFor yX0_addStraps = true := by decide +kernel
theorem mi_X0_addStraps : Cond.instanceMethod yX0_addStraps ∈ allw := aw (List.mem_append_right _ (List.mem_of_getElem? (i := 390) (by decide +kernel))) rfl
theorem ml_X0_addStraps : Cond.selects yX0_addStraps.cls yX0_addStraps yX0_addStraps ∈ allw := aw (List.mem_append_right _ (List.mem_of_getElem? (i := 391) (by decide +kernel))) rfl
theorem mm_X5_begin : lkM yX5_begin cX5_begin 4 (some .int) 3 := ⟨aw (List.mem_append_right _ (List.mem_of_getElem? (i := 1) (by decide +kernel))) rfl, aw (List.mem_append_right _ (List.mem_of_getElem? (i := 397) (by decide +kernel))) rfl, ⟨by decide +kernel, by decide +kernel, by decide +kernel⟩, by decide⟩
theorem pl_X5_begin : plainFor yX5_begin = true := by decide +kernel
theorem mi_X5_begin : Cond.instanceMethod yX5_begin ∈ allw := aw (List.mem_append_right _ (List.mem_of_getElem? (i := 395) (by decide +kernel))) rfl
theorem ml_X5_begin : Cond.selects yX5_begin.cls yX5_begin yX5_begin ∈ allw := aw (List.mem_append_right _ (List.mem_of_getElem? (i := 396) (by decide +kernel))) rfl
theorem mm_X0_beginJob : lkM yX0_beginJob cX0_beginJob 6 (some .int) 3 := ⟨aw (List.mem_append_right _ (List.mem_of_getElem? (i := 2) (by decide +kernel))) rfl, aw (List.mem_append_right _ (List.mem_of_getElem? (i := 401) (by decide +kernel))) rfl, ⟨by decide +kernel, by decide +kernel, by decide +kernel⟩, by decide⟩
theorem pl_X0_beginJob : plainFor yX0_beginJob = true := by decide +kernel
theorem mi_X0_beginJob : Cond.instanceMethod yX0_beginJob ∈ allw := aw (List.mem_append_right _ (List.mem_of_getElem? (i := 399) (by decide +kernel))) rfl
theorem ml_X0_beginJob : Cond.selects yX0_beginJob.cls yX0_beginJob yX0_beginJob ∈ allw := aw (List.mem_append_right _ (List.mem_of_getElem? (i := 400) (by decide +kernel))) rfl
theorem mm_X0_whyNot : lkM yX0_whyNot cX0_whyNot 4 (some .int) 3 := ⟨aw (List.mem_append_right _ (List.mem_of_getElem? (i := 2) (by decide +kernel))) rfl, aw (List.mem_append_right _ (List.mem_of_getElem? (i := 405) (by decide +kernel))) rfl, ⟨by decide +kernel, by decide +kernel, by decide +kernel⟩, by decide⟩
theorem pl_X0_whyNot : plainFor yX0_whyNot = true := by decide +kernel
theorem mi_X0_whyNot : Cond.instanceMethod yX0_whyNot ∈ allw := aw (List.mem_append_right _ (List.mem_of_getElem? (i := 403) (by decide +kernel))) rfl
theorem ml_X0_whyNot : Cond.selects yX0_whyNot.cls yX0_whyNot yX0_whyNot ∈ allw := aw (List.mem_append_right _ (List.mem_of_getElem? (i := 404) (by decide +kernel))) rfl
theorem mm_X5_isKindOrNone : lkM yX5_isKindOrNone cX5_isKindOrNone 1 (some .boolean) 1 := ⟨aw (List.mem_append_right _ (List.mem_of_getElem? (i := 1) (by decide +kernel))) rfl, aw (List.mem_append_right _ (List.mem_of_getElem? (i := 409) (by decide +kernel))) rfl, ⟨by decide +kernel, by decide +kernel, by decide +kernel⟩, by decide⟩
theorem pl_X5_isKindOrNone : plainFor yX5_isKindOrNone = true := by decide +kernel
theorem ms_X5_isKindOrNone : Cond.static yX5_isKindOrNone ∈ allw := aw (List.mem_append_right _ (List.mem_of_getElem? (i := 408) (by decide +kernel))) rfl
theorem mm_X0_isCrew : lkM yX0_isCrew cX0_isCrew 3 (some .boolean) 1 := ⟨aw (List.mem_append_right _ (List.mem_of_getElem? (i := 2) (by decide +kernel))) rfl, aw (List.mem_append_right _ (List.mem_of_getElem? (i := 413) (by decide +kernel))) rfl, ⟨by decide +kernel, by decide +kernel, by decide +kernel⟩, by decide⟩
theorem pl_X0_isCrew : plainFor yX0_isCrew = true := by decide +kernel
theorem mi_X0_isCrew : Cond.instanceMethod yX0_isCrew ∈ allw := aw (List.mem_append_right _ (List.mem_of_getElem? (i := 412) (by decide +kernel))) rfl
theorem ml_X0_isCrew : Cond.selects yX0_isCrew.cls yX0_isCrew yX0_isCrew ∈ allw := aw (List.mem_append_left _ (List.mem_of_getElem? (i := 4) (by decide +kernel))) rfl
theorem mm_J6_bitCount_0f7a4 : lkM yJ6_bitCount_0f7a4 cJ6_bitCount_0f7a4 1 (some .int) 1 := ⟨aw (List.mem_append_right _ (List.mem_of_getElem? (i := 9) (by decide +kernel))) rfl, aw (List.mem_append_right _ (List.mem_of_getElem? (i := 416) (by decide +kernel))) rfl, ⟨by decide +kernel, by decide +kernel, by decide +kernel⟩, by decide⟩
theorem pl_J6_bitCount_0f7a4 : plainFor yJ6_bitCount_0f7a4 = true := by decide +kernel
theorem ms_J6_bitCount_0f7a4 : Cond.static yJ6_bitCount_0f7a4 ∈ allw := aw (List.mem_append_right _ (List.mem_of_getElem? (i := 415) (by decide +kernel))) rfl
theorem mm_X0_canHaveStraps : lkM yX0_canHaveStraps cX0_canHaveStraps 3 (some .boolean) 2 := ⟨aw (List.mem_append_right _ (List.mem_of_getElem? (i := 2) (by decide +kernel))) rfl, aw (List.mem_append_right _ (List.mem_of_getElem? (i := 423) (by decide +kernel))) rfl, ⟨by decide +kernel, by decide +kernel, by decide +kernel⟩, by decide⟩
theorem pl_X0_canHaveStraps : plainFor yX0_canHaveStraps = true := by decide +kernel
theorem mi_X0_canHaveStraps : Cond.instanceMethod yX0_canHaveStraps ∈ allw := aw (List.mem_append_right _ (List.mem_of_getElem? (i := 421) (by decide +kernel))) rfl
theorem ml_X0_canHaveStraps : Cond.selects yX0_canHaveStraps.cls yX0_canHaveStraps yX0_canHaveStraps ∈ allw := aw (List.mem_append_right _ (List.mem_of_getElem? (i := 422) (by decide +kernel))) rfl
theorem mm_X0_strengthOf : lkM yX0_strengthOf cX0_strengthOf 4 (some .int) 1 := ⟨aw (List.mem_append_right _ (List.mem_of_getElem? (i := 2) (by decide +kernel))) rfl, aw (List.mem_append_right _ (List.mem_of_getElem? (i := 427) (by decide +kernel))) rfl, ⟨by decide +kernel, by decide +kernel, by decide +kernel⟩, by decide⟩
theorem pl_X0_strengthOf : plainFor yX0_strengthOf = true := by decide +kernel
theorem mi_X0_strengthOf : Cond.instanceMethod yX0_strengthOf ∈ allw := aw (List.mem_append_right _ (List.mem_of_getElem? (i := 425) (by decide +kernel))) rfl
theorem ml_X0_strengthOf : Cond.selects yX0_strengthOf.cls yX0_strengthOf yX0_strengthOf ∈ allw := aw (List.mem_append_right _ (List.mem_of_getElem? (i := 426) (by decide +kernel))) rfl
theorem mm_X5_isIn : lkM yX5_isIn cX5_isIn 2 (some .boolean) 2 := ⟨aw (List.mem_append_right _ (List.mem_of_getElem? (i := 1) (by decide +kernel))) rfl, aw (List.mem_append_right _ (List.mem_of_getElem? (i := 430) (by decide +kernel))) rfl, ⟨by decide +kernel, by decide +kernel, by decide +kernel⟩, by decide⟩
theorem pl_X5_isIn : plainFor yX5_isIn = true := by decide +kernel
theorem ms_X5_isIn : Cond.static yX5_isIn ∈ allw := aw (List.mem_append_right _ (List.mem_of_getElem? (i := 429) (by decide +kernel))) rfl
theorem mm_X0_loadWith : lkM yX0_loadWith cX0_loadWith 4 (some .int) 2 := ⟨aw (List.mem_append_right _ (List.mem_of_getElem? (i := 2) (by decide +kernel))) rfl, aw (List.mem_append_right _ (List.mem_of_getElem? (i := 434) (by decide +kernel))) rfl, ⟨by decide +kernel, by decide +kernel, by decide +kernel⟩, by decide⟩
theorem pl_X0_loadWith : plainFor yX0_loadWith = true := by decide +kernel
theorem mi_X0_loadWith : Cond.instanceMethod yX0_loadWith ∈ allw := aw (List.mem_append_right _ (List.mem_of_getElem? (i := 432) (by decide +kernel))) rfl
theorem ml_X0_loadWith : Cond.selects yX0_loadWith.cls yX0_loadWith yX0_loadWith ∈ allw := aw (List.mem_append_right _ (List.mem_of_getElem? (i := 433) (by decide +kernel))) rfl
theorem mm_X0_placeCrew : lkM yX0_placeCrew cX0_placeCrew 4 none 2 := ⟨aw (List.mem_append_right _ (List.mem_of_getElem? (i := 2) (by decide +kernel))) rfl, aw (List.mem_append_right _ (List.mem_of_getElem? (i := 440) (by decide +kernel))) rfl, ⟨by decide +kernel, by decide +kernel, by decide +kernel⟩, by decide⟩
theorem pl_X0_placeCrew : plainFor yX0_placeCrew = true := by decide +kernel
theorem mi_X0_placeCrew : Cond.instanceMethod yX0_placeCrew ∈ allw := aw (List.mem_append_right _ (List.mem_of_getElem? (i := 439) (by decide +kernel))) rfl
theorem ml_X0_placeCrew : Cond.selects yX0_placeCrew.cls yX0_placeCrew yX0_placeCrew ∈ allw := aw (List.mem_append_left _ (List.mem_of_getElem? (i := 5) (by decide +kernel))) rfl
theorem mm_X5_assign : lkM yX5_assign cX5_assign 1 (some .int) 0 := ⟨aw (List.mem_append_right _ (List.mem_of_getElem? (i := 1) (by decide +kernel))) rfl, aw (List.mem_append_right _ (List.mem_of_getElem? (i := 444) (by decide +kernel))) rfl, ⟨by decide +kernel, by decide +kernel, by decide +kernel⟩, by decide⟩
theorem pl_X5_assign : plainFor yX5_assign = true := by decide +kernel
theorem mi_X5_assign : Cond.instanceMethod yX5_assign ∈ allw := aw (List.mem_append_right _ (List.mem_of_getElem? (i := 442) (by decide +kernel))) rfl
theorem ml_X5_assign : Cond.selects yX5_assign.cls yX5_assign yX5_assign ∈ allw := aw (List.mem_append_right _ (List.mem_of_getElem? (i := 443) (by decide +kernel))) rfl
theorem mm_X0_assignJobs : lkM yX0_assignJobs cX0_assignJobs 6 (some .int) 0 := ⟨aw (List.mem_append_right _ (List.mem_of_getElem? (i := 2) (by decide +kernel))) rfl, aw (List.mem_append_right _ (List.mem_of_getElem? (i := 448) (by decide +kernel))) rfl, ⟨by decide +kernel, by decide +kernel, by decide +kernel⟩, by decide⟩
theorem pl_X0_assignJobs : plainFor yX0_assignJobs = true := by decide +kernel
theorem mi_X0_assignJobs : Cond.instanceMethod yX0_assignJobs ∈ allw := aw (List.mem_append_right _ (List.mem_of_getElem? (i := 446) (by decide +kernel))) rfl
theorem ml_X0_assignJobs : Cond.selects yX0_assignJobs.cls yX0_assignJobs yX0_assignJobs ∈ allw := aw (List.mem_append_right _ (List.mem_of_getElem? (i := 447) (by decide +kernel))) rfl
theorem mm_X0_nextWaiting : lkM yX0_nextWaiting cX0_nextWaiting 5 (some .int) 1 := ⟨aw (List.mem_append_right _ (List.mem_of_getElem? (i := 2) (by decide +kernel))) rfl, aw (List.mem_append_right _ (List.mem_of_getElem? (i := 452) (by decide +kernel))) rfl, ⟨by decide +kernel, by decide +kernel, by decide +kernel⟩, by decide⟩
theorem pl_X0_nextWaiting : plainFor yX0_nextWaiting = true := by decide +kernel
theorem mi_X0_nextWaiting : Cond.instanceMethod yX0_nextWaiting ∈ allw := aw (List.mem_append_right _ (List.mem_of_getElem? (i := 451) (by decide +kernel))) rfl
theorem ml_X0_nextWaiting : Cond.selects yX0_nextWaiting.cls yX0_nextWaiting yX0_nextWaiting ∈ allw := aw (List.mem_append_left _ (List.mem_of_getElem? (i := 6) (by decide +kernel))) rfl
theorem mm_X0_isAhead : lkM yX0_isAhead cX0_isAhead 3 (some .boolean) 2 := ⟨aw (List.mem_append_right _ (List.mem_of_getElem? (i := 2) (by decide +kernel))) rfl, aw (List.mem_append_right _ (List.mem_of_getElem? (i := 456) (by decide +kernel))) rfl, ⟨by decide +kernel, by decide +kernel, by decide +kernel⟩, by decide⟩
theorem pl_X0_isAhead : plainFor yX0_isAhead = true := by decide +kernel
theorem mi_X0_isAhead : Cond.instanceMethod yX0_isAhead ∈ allw := aw (List.mem_append_right _ (List.mem_of_getElem? (i := 455) (by decide +kernel))) rfl
theorem ml_X0_isAhead : Cond.selects yX0_isAhead.cls yX0_isAhead yX0_isAhead ∈ allw := aw (List.mem_append_left _ (List.mem_of_getElem? (i := 7) (by decide +kernel))) rfl
theorem mm_X2_isAheadOfLater : lkM yX2_isAheadOfLater cX2_isAheadOfLater 2 (some .boolean) 1 := ⟨aw (List.mem_append_right _ (List.mem_of_getElem? (i := 4) (by decide +kernel))) rfl, aw (List.mem_append_right _ (List.mem_of_getElem? (i := 460) (by decide +kernel))) rfl, ⟨by decide +kernel, by decide +kernel, by decide +kernel⟩, by decide⟩
theorem pl_X2_isAheadOfLater : plainFor yX2_isAheadOfLater = true := by decide +kernel
theorem mi_X2_isAheadOfLater : Cond.instanceMethod yX2_isAheadOfLater ∈ allw := aw (List.mem_append_right _ (List.mem_of_getElem? (i := 458) (by decide +kernel))) rfl
theorem ml_X2_isAheadOfLater : Cond.selects yX2_isAheadOfLater.cls yX2_isAheadOfLater yX2_isAheadOfLater ∈ allw := aw (List.mem_append_right _ (List.mem_of_getElem? (i := 459) (by decide +kernel))) rfl
theorem mm_X0_fewestPeopleStraps : lkM yX0_fewestPeopleStraps cX0_fewestPeopleStraps 6 (some .int) 1 := ⟨aw (List.mem_append_right _ (List.mem_of_getElem? (i := 2) (by decide +kernel))) rfl, aw (List.mem_append_right _ (List.mem_of_getElem? (i := 464) (by decide +kernel))) rfl, ⟨by decide +kernel, by decide +kernel, by decide +kernel⟩, by decide⟩
theorem pl_X0_fewestPeopleStraps : plainFor yX0_fewestPeopleStraps = true := by decide +kernel
theorem mi_X0_fewestPeopleStraps : Cond.instanceMethod yX0_fewestPeopleStraps ∈ allw := aw (List.mem_append_right _ (List.mem_of_getElem? (i := 462) (by decide +kernel))) rfl
theorem ml_X0_fewestPeopleStraps : Cond.selects yX0_fewestPeopleStraps.cls yX0_fewestPeopleStraps yX0_fewestPeopleStraps ∈ allw := aw (List.mem_append_right _ (List.mem_of_getElem? (i := 463) (by decide +kernel))) rfl
theorem mm_X0_crewByItself : lkM yX0_crewByItself cX0_crewByItself 9 (some .int) 2 := ⟨aw (List.mem_append_right _ (List.mem_of_getElem? (i := 2) (by decide +kernel))) rfl, aw (List.mem_append_right _ (List.mem_of_getElem? (i := 468) (by decide +kernel))) rfl, ⟨by decide +kernel, by decide +kernel, by decide +kernel⟩, by decide⟩
theorem pl_X0_crewByItself : plainFor yX0_crewByItself = true := by decide +kernel
theorem mi_X0_crewByItself : Cond.instanceMethod yX0_crewByItself ∈ allw := aw (List.mem_append_right _ (List.mem_of_getElem? (i := 466) (by decide +kernel))) rfl
theorem ml_X0_crewByItself : Cond.selects yX0_crewByItself.cls yX0_crewByItself yX0_crewByItself ∈ allw := aw (List.mem_append_right _ (List.mem_of_getElem? (i := 467) (by decide +kernel))) rfl
theorem mm_X0_strongestOutside : lkM yX0_strongestOutside cX0_strongestOutside 5 (some .int) 1 := ⟨aw (List.mem_append_right _ (List.mem_of_getElem? (i := 2) (by decide +kernel))) rfl, aw (List.mem_append_right _ (List.mem_of_getElem? (i := 472) (by decide +kernel))) rfl, ⟨by decide +kernel, by decide +kernel, by decide +kernel⟩, by decide⟩
theorem pl_X0_strongestOutside : plainFor yX0_strongestOutside = true := by decide +kernel
theorem mi_X0_strongestOutside : Cond.instanceMethod yX0_strongestOutside ∈ allw := aw (List.mem_append_right _ (List.mem_of_getElem? (i := 471) (by decide +kernel))) rfl
theorem ml_X0_strongestOutside : Cond.selects yX0_strongestOutside.cls yX0_strongestOutside yX0_strongestOutside ∈ allw := aw (List.mem_append_left _ (List.mem_of_getElem? (i := 8) (by decide +kernel))) rfl
theorem mm_X5_delay : lkM yX5_delay cX5_delay 3 (some .int) 2 := ⟨aw (List.mem_append_right _ (List.mem_of_getElem? (i := 1) (by decide +kernel))) rfl, aw (List.mem_append_right _ (List.mem_of_getElem? (i := 478) (by decide +kernel))) rfl, ⟨by decide +kernel, by decide +kernel, by decide +kernel⟩, by decide⟩
theorem pl_X5_delay : plainFor yX5_delay = true := by decide +kernel
theorem mi_X5_delay : Cond.instanceMethod yX5_delay ∈ allw := aw (List.mem_append_right _ (List.mem_of_getElem? (i := 476) (by decide +kernel))) rfl
theorem ml_X5_delay : Cond.selects yX5_delay.cls yX5_delay yX5_delay ∈ allw := aw (List.mem_append_right _ (List.mem_of_getElem? (i := 477) (by decide +kernel))) rfl
theorem mm_X0_delayJob : lkM yX0_delayJob cX0_delayJob 3 (some .int) 2 := ⟨aw (List.mem_append_right _ (List.mem_of_getElem? (i := 2) (by decide +kernel))) rfl, aw (List.mem_append_right _ (List.mem_of_getElem? (i := 482) (by decide +kernel))) rfl, ⟨by decide +kernel, by decide +kernel, by decide +kernel⟩, by decide⟩
theorem pl_X0_delayJob : plainFor yX0_delayJob = true := by decide +kernel
theorem mi_X0_delayJob : Cond.instanceMethod yX0_delayJob ∈ allw := aw (List.mem_append_right _ (List.mem_of_getElem? (i := 480) (by decide +kernel))) rfl
theorem ml_X0_delayJob : Cond.selects yX0_delayJob.cls yX0_delayJob yX0_delayJob ∈ allw := aw (List.mem_append_right _ (List.mem_of_getElem? (i := 481) (by decide +kernel))) rfl
theorem mm_X5_callOff : lkM yX5_callOff cX5_callOff 2 (some .int) 1 := ⟨aw (List.mem_append_right _ (List.mem_of_getElem? (i := 1) (by decide +kernel))) rfl, aw (List.mem_append_right _ (List.mem_of_getElem? (i := 486) (by decide +kernel))) rfl, ⟨by decide +kernel, by decide +kernel, by decide +kernel⟩, by decide⟩
theorem pl_X5_callOff : plainFor yX5_callOff = true := by decide +kernel
theorem mi_X5_callOff : Cond.instanceMethod yX5_callOff ∈ allw := aw (List.mem_append_right _ (List.mem_of_getElem? (i := 484) (by decide +kernel))) rfl
theorem ml_X5_callOff : Cond.selects yX5_callOff.cls yX5_callOff yX5_callOff ∈ allw := aw (List.mem_append_right _ (List.mem_of_getElem? (i := 485) (by decide +kernel))) rfl
theorem mm_X0_callOffJob : lkM yX0_callOffJob cX0_callOffJob 3 (some .int) 1 := ⟨aw (List.mem_append_right _ (List.mem_of_getElem? (i := 2) (by decide +kernel))) rfl, aw (List.mem_append_right _ (List.mem_of_getElem? (i := 490) (by decide +kernel))) rfl, ⟨by decide +kernel, by decide +kernel, by decide +kernel⟩, by decide⟩
theorem pl_X0_callOffJob : plainFor yX0_callOffJob = true := by decide +kernel
theorem mi_X0_callOffJob : Cond.instanceMethod yX0_callOffJob ∈ allw := aw (List.mem_append_right _ (List.mem_of_getElem? (i := 488) (by decide +kernel))) rfl
theorem ml_X0_callOffJob : Cond.selects yX0_callOffJob.cls yX0_callOffJob yX0_callOffJob ∈ allw := aw (List.mem_append_right _ (List.mem_of_getElem? (i := 489) (by decide +kernel))) rfl
theorem mm_X0_endJob : lkM yX0_endJob cX0_endJob 3 none 2 := ⟨aw (List.mem_append_right _ (List.mem_of_getElem? (i := 2) (by decide +kernel))) rfl, aw (List.mem_append_right _ (List.mem_of_getElem? (i := 494) (by decide +kernel))) rfl, ⟨by decide +kernel, by decide +kernel, by decide +kernel⟩, by decide⟩
theorem pl_X0_endJob : plainFor yX0_endJob = true := by decide +kernel
theorem mi_X0_endJob : Cond.instanceMethod yX0_endJob ∈ allw := aw (List.mem_append_right _ (List.mem_of_getElem? (i := 493) (by decide +kernel))) rfl
theorem ml_X0_endJob : Cond.selects yX0_endJob.cls yX0_endJob yX0_endJob ∈ allw := aw (List.mem_append_left _ (List.mem_of_getElem? (i := 9) (by decide +kernel))) rfl
theorem mm_X5_pass : lkM yX5_pass cX5_pass 2 (some .int) 1 := ⟨aw (List.mem_append_right _ (List.mem_of_getElem? (i := 1) (by decide +kernel))) rfl, aw (List.mem_append_right _ (List.mem_of_getElem? (i := 498) (by decide +kernel))) rfl, ⟨by decide +kernel, by decide +kernel, by decide +kernel⟩, by decide⟩
theorem pl_X5_pass : plainFor yX5_pass = true := by decide +kernel
theorem mi_X5_pass : Cond.instanceMethod yX5_pass ∈ allw := aw (List.mem_append_right _ (List.mem_of_getElem? (i := 496) (by decide +kernel))) rfl
theorem ml_X5_pass : Cond.selects yX5_pass.cls yX5_pass yX5_pass ∈ allw := aw (List.mem_append_right _ (List.mem_of_getElem? (i := 497) (by decide +kernel))) rfl
theorem mm_X0_passHours : lkM yX0_passHours cX0_passHours 4 (some .int) 1 := ⟨aw (List.mem_append_right _ (List.mem_of_getElem? (i := 2) (by decide +kernel))) rfl, aw (List.mem_append_right _ (List.mem_of_getElem? (i := 502) (by decide +kernel))) rfl, ⟨by decide +kernel, by decide +kernel, by decide +kernel⟩, by decide⟩
theorem pl_X0_passHours : plainFor yX0_passHours = true := by decide +kernel
theorem mi_X0_passHours : Cond.instanceMethod yX0_passHours ∈ allw := aw (List.mem_append_right _ (List.mem_of_getElem? (i := 500) (by decide +kernel))) rfl
theorem ml_X0_passHours : Cond.selects yX0_passHours.cls yX0_passHours yX0_passHours ∈ allw := aw (List.mem_append_right _ (List.mem_of_getElem? (i := 501) (by decide +kernel))) rfl
theorem mm_X0_passOneHour : lkM yX0_passOneHour cX0_passOneHour 4 (some .int) 0 := ⟨aw (List.mem_append_right _ (List.mem_of_getElem? (i := 2) (by decide +kernel))) rfl, aw (List.mem_append_right _ (List.mem_of_getElem? (i := 506) (by decide +kernel))) rfl, ⟨by decide +kernel, by decide +kernel, by decide +kernel⟩, by decide⟩
theorem pl_X0_passOneHour : plainFor yX0_passOneHour = true := by decide +kernel
theorem mi_X0_passOneHour : Cond.instanceMethod yX0_passOneHour ∈ allw := aw (List.mem_append_right _ (List.mem_of_getElem? (i := 505) (by decide +kernel))) rfl
theorem ml_X0_passOneHour : Cond.selects yX0_passOneHour.cls yX0_passOneHour yX0_passOneHour ∈ allw := aw (List.mem_append_left _ (List.mem_of_getElem? (i := 10) (by decide +kernel))) rfl
theorem mm_X0_workOneHour : lkM yX0_workOneHour cX0_workOneHour 3 (some .boolean) 1 := ⟨aw (List.mem_append_right _ (List.mem_of_getElem? (i := 2) (by decide +kernel))) rfl, aw (List.mem_append_right _ (List.mem_of_getElem? (i := 510) (by decide +kernel))) rfl, ⟨by decide +kernel, by decide +kernel, by decide +kernel⟩, by decide⟩
theorem pl_X0_workOneHour : plainFor yX0_workOneHour = true := by decide +kernel
theorem mi_X0_workOneHour : Cond.instanceMethod yX0_workOneHour ∈ allw := aw (List.mem_append_right _ (List.mem_of_getElem? (i := 508) (by decide +kernel))) rfl
theorem ml_X0_workOneHour : Cond.selects yX0_workOneHour.cls yX0_workOneHour yX0_workOneHour ∈ allw := aw (List.mem_append_right _ (List.mem_of_getElem? (i := 509) (by decide +kernel))) rfl
theorem mm_X0_restPeople : lkM yX0_restPeople cX0_restPeople 3 none 1 := ⟨aw (List.mem_append_right _ (List.mem_of_getElem? (i := 2) (by decide +kernel))) rfl, aw (List.mem_append_right _ (List.mem_of_getElem? (i := 514) (by decide +kernel))) rfl, ⟨by decide +kernel, by decide +kernel, by decide +kernel⟩, by decide⟩
theorem pl_X0_restPeople : plainFor yX0_restPeople = true := by decide +kernel
theorem mi_X0_restPeople : Cond.instanceMethod yX0_restPeople ∈ allw := aw (List.mem_append_right _ (List.mem_of_getElem? (i := 513) (by decide +kernel))) rfl
theorem ml_X0_restPeople : Cond.selects yX0_restPeople.cls yX0_restPeople yX0_restPeople ∈ allw := aw (List.mem_append_left _ (List.mem_of_getElem? (i := 11) (by decide +kernel))) rfl
theorem mm_X4_rest : lkM yX4_rest cX4_rest 2 none 1 := ⟨aw (List.mem_append_right _ (List.mem_of_getElem? (i := 3) (by decide +kernel))) rfl, aw (List.mem_append_right _ (List.mem_of_getElem? (i := 518) (by decide +kernel))) rfl, ⟨by decide +kernel, by decide +kernel, by decide +kernel⟩, by decide⟩
theorem pl_X4_rest : plainFor yX4_rest = true := by decide +kernel
theorem mi_X4_rest : Cond.instanceMethod yX4_rest ∈ allw := aw (List.mem_append_right _ (List.mem_of_getElem? (i := 516) (by decide +kernel))) rfl
theorem ml_X4_rest : Cond.selects yX4_rest.cls yX4_rest yX4_rest ∈ allw := aw (List.mem_append_right _ (List.mem_of_getElem? (i := 517) (by decide +kernel))) rfl
theorem mm_X0_carryHour : lkM yX0_carryHour cX0_carryHour 4 none 2 := ⟨aw (List.mem_append_right _ (List.mem_of_getElem? (i := 2) (by decide +kernel))) rfl, aw (List.mem_append_right _ (List.mem_of_getElem? (i := 525) (by decide +kernel))) rfl, ⟨by decide +kernel, by decide +kernel, by decide +kernel⟩, by decide⟩
theorem pl_X0_carryHour : plainFor yX0_carryHour = true := by decide +kernel
theorem mi_X0_carryHour : Cond.instanceMethod yX0_carryHour ∈ allw := aw (List.mem_append_right _ (List.mem_of_getElem? (i := 524) (by decide +kernel))) rfl
theorem ml_X0_carryHour : Cond.selects yX0_carryHour.cls yX0_carryHour yX0_carryHour ∈ allw := aw (List.mem_append_left _ (List.mem_of_getElem? (i := 12) (by decide +kernel))) rfl
theorem mm_X4_carry : lkM yX4_carry cX4_carry 2 none 1 := ⟨aw (List.mem_append_right _ (List.mem_of_getElem? (i := 3) (by decide +kernel))) rfl, aw (List.mem_append_right _ (List.mem_of_getElem? (i := 529) (by decide +kernel))) rfl, ⟨by decide +kernel, by decide +kernel, by decide +kernel⟩, by decide⟩
theorem pl_X4_carry : plainFor yX4_carry = true := by decide +kernel
theorem mi_X4_carry : Cond.instanceMethod yX4_carry ∈ allw := aw (List.mem_append_right _ (List.mem_of_getElem? (i := 527) (by decide +kernel))) rfl
theorem ml_X4_carry : Cond.selects yX4_carry.cls yX4_carry yX4_carry ∈ allw := aw (List.mem_append_right _ (List.mem_of_getElem? (i := 528) (by decide +kernel))) rfl
theorem mm_L_holds : lkM yL_holds cL_holds 8 (some .boolean) 1 := ⟨aw (List.mem_append_right _ (List.mem_of_getElem? (i := 0) (by decide +kernel))) rfl, aw (List.mem_append_right _ (List.mem_of_getElem? (i := 532) (by decide +kernel))) rfl, ⟨by decide +kernel, by decide +kernel, by decide +kernel⟩, by decide⟩
theorem pl_L_holds : plainFor yL_holds = true := by decide +kernel
theorem ms_L_holds : Cond.static yL_holds ∈ allw := aw (List.mem_append_right _ (List.mem_of_getElem? (i := 531) (by decide +kernel))) rfl
theorem mm_L_isLifted : lkM yL_isLifted cL_isLifted 8 (some .boolean) 1 := ⟨aw (List.mem_append_right _ (List.mem_of_getElem? (i := 0) (by decide +kernel))) rfl, aw (List.mem_append_right _ (List.mem_of_getElem? (i := 535) (by decide +kernel))) rfl, ⟨by decide +kernel, by decide +kernel, by decide +kernel⟩, by decide⟩
theorem pl_L_isLifted : plainFor yL_isLifted = true := by decide +kernel
theorem ms_L_isLifted : Cond.static yL_isLifted ∈ allw := aw (List.mem_append_right _ (List.mem_of_getElem? (i := 534) (by decide +kernel))) rfl
