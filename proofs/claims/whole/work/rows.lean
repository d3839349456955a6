section
-- ===== PART A: goes FIRST, ahead of the names: the tables' words, and 'selects' of the private methods out of them =====
/-- a private method of a class that the tables say can be made, by its rows of tables_1 -/
def lw_okq (q : MethodName × Nat) : Prop := (q.1.cls ≠ "java/lang/invoke/MethodHandle" ∧ q.1.cls ≠ "java/lang/invoke/VarHandle") ∧ Cond.instantiable q.1.cls q.2 ∈ tables_1 ∧ Cond.privateMethod q.1 ∈ tables_1 ∧ Cond.instanceMethod q.1 ∈ tables_1
theorem lw_p0 : lw_okq (⟨"PianoCrews$Firm", "isCrew", "(I)Z"⟩, 10) := ⟨⟨by decide +kernel, by decide +kernel⟩, List.mem_of_getElem? (i := 25) (by decide +kernel), List.mem_of_getElem? (i := 320) (by decide +kernel), List.mem_of_getElem? (i := 321) (by decide +kernel)⟩
theorem lw_p1 : lw_okq (⟨"PianoCrews$Firm", "placeCrew", "(II)V"⟩, 10) := ⟨⟨by decide +kernel, by decide +kernel⟩, List.mem_of_getElem? (i := 25) (by decide +kernel), List.mem_of_getElem? (i := 355) (by decide +kernel), List.mem_of_getElem? (i := 356) (by decide +kernel)⟩
theorem lw_p2 : lw_okq (⟨"PianoCrews$Firm", "nextWaiting", "(I)I"⟩, 10) := ⟨⟨by decide +kernel, by decide +kernel⟩, List.mem_of_getElem? (i := 25) (by decide +kernel), List.mem_of_getElem? (i := 367) (by decide +kernel), List.mem_of_getElem? (i := 368) (by decide +kernel)⟩
theorem lw_p3 : lw_okq (⟨"PianoCrews$Firm", "isAhead", "(II)Z"⟩, 10) := ⟨⟨by decide +kernel, by decide +kernel⟩, List.mem_of_getElem? (i := 25) (by decide +kernel), List.mem_of_getElem? (i := 371) (by decide +kernel), List.mem_of_getElem? (i := 372) (by decide +kernel)⟩
theorem lw_p4 : lw_okq (⟨"PianoCrews$Firm", "strongestOutside", "(I)I"⟩, 10) := ⟨⟨by decide +kernel, by decide +kernel⟩, List.mem_of_getElem? (i := 25) (by decide +kernel), List.mem_of_getElem? (i := 387) (by decide +kernel), List.mem_of_getElem? (i := 388) (by decide +kernel)⟩
theorem lw_p5 : lw_okq (⟨"PianoCrews$Firm", "endJob", "(LPianoCrews$Job;I)V"⟩, 10) := ⟨⟨by decide +kernel, by decide +kernel⟩, List.mem_of_getElem? (i := 25) (by decide +kernel), List.mem_of_getElem? (i := 412) (by decide +kernel), List.mem_of_getElem? (i := 413) (by decide +kernel)⟩
theorem lw_p6 : lw_okq (⟨"PianoCrews$Firm", "passOneHour", "()I"⟩, 10) := ⟨⟨by decide +kernel, by decide +kernel⟩, List.mem_of_getElem? (i := 25) (by decide +kernel), List.mem_of_getElem? (i := 424) (by decide +kernel), List.mem_of_getElem? (i := 425) (by decide +kernel)⟩
theorem lw_p7 : lw_okq (⟨"PianoCrews$Firm", "restPeople", "(I)V"⟩, 10) := ⟨⟨by decide +kernel, by decide +kernel⟩, List.mem_of_getElem? (i := 25) (by decide +kernel), List.mem_of_getElem? (i := 432) (by decide +kernel), List.mem_of_getElem? (i := 433) (by decide +kernel)⟩
theorem lw_p8 : lw_okq (⟨"PianoCrews$Firm", "carryHour", "(IZ)V"⟩, 10) := ⟨⟨by decide +kernel, by decide +kernel⟩, List.mem_of_getElem? (i := 25) (by decide +kernel), List.mem_of_getElem? (i := 443) (by decide +kernel), List.mem_of_getElem? (i := 444) (by decide +kernel)⟩
theorem lw_p9 : lw_okq (⟨"PianoCrews$Person", "hoursOfRest", "(I)I"⟩, 5) := ⟨⟨by decide +kernel, by decide +kernel⟩, List.mem_of_getElem? (i := 34) (by decide +kernel), List.mem_of_getElem? (i := 463) (by decide +kernel), List.mem_of_getElem? (i := 464) (by decide +kernel)⟩
theorem lw_p10 : lw_okq (⟨"PianoCrews$Firm", "jobsInState", "(I)I"⟩, 10) := ⟨⟨by decide +kernel, by decide +kernel⟩, List.mem_of_getElem? (i := 25) (by decide +kernel), List.mem_of_getElem? (i := 504) (by decide +kernel), List.mem_of_getElem? (i := 505) (by decide +kernel)⟩
theorem lw_p11 : lw_okq (⟨"PianoCrews$Firm", "lateJobs", "()I"⟩, 10) := ⟨⟨by decide +kernel, by decide +kernel⟩, List.mem_of_getElem? (i := 25) (by decide +kernel), List.mem_of_getElem? (i := 508) (by decide +kernel), List.mem_of_getElem? (i := 509) (by decide +kernel)⟩
theorem lw_p12 : lw_okq (⟨"PianoCrews$Pad", "signHere", "()I"⟩, 8) := ⟨⟨by decide +kernel, by decide +kernel⟩, List.mem_of_getElem? (i := 173) (by decide +kernel), List.mem_of_getElem? (i := 577) (by decide +kernel), List.mem_of_getElem? (i := 578) (by decide +kernel)⟩
theorem lw_p13 : lw_okq (⟨"PianoCrews$Pad", "readForm", "(Ljava/lang/String;)Z"⟩, 8) := ⟨⟨by decide +kernel, by decide +kernel⟩, List.mem_of_getElem? (i := 173) (by decide +kernel), List.mem_of_getElem? (i := 672) (by decide +kernel), List.mem_of_getElem? (i := 673) (by decide +kernel)⟩
theorem lw_p14 : lw_okq (⟨"PianoCrews$Pad", "readNumber", "(I)Z"⟩, 8) := ⟨⟨by decide +kernel, by decide +kernel⟩, List.mem_of_getElem? (i := 173) (by decide +kernel), List.mem_of_getElem? (i := 697) (by decide +kernel), List.mem_of_getElem? (i := 698) (by decide +kernel)⟩
theorem lw_p15 : lw_okq (⟨"PianoCrews$Pad", "isDigitHere", "()Z"⟩, 8) := ⟨⟨by decide +kernel, by decide +kernel⟩, List.mem_of_getElem? (i := 173) (by decide +kernel), List.mem_of_getElem? (i := 701) (by decide +kernel), List.mem_of_getElem? (i := 702) (by decide +kernel)⟩
def lw_privs_1 : List (MethodName × Nat) := [(⟨"PianoCrews$Firm", "isCrew", "(I)Z"⟩, 10), (⟨"PianoCrews$Firm", "placeCrew", "(II)V"⟩, 10), (⟨"PianoCrews$Firm", "nextWaiting", "(I)I"⟩, 10), (⟨"PianoCrews$Firm", "isAhead", "(II)Z"⟩, 10), (⟨"PianoCrews$Firm", "strongestOutside", "(I)I"⟩, 10), (⟨"PianoCrews$Firm", "endJob", "(LPianoCrews$Job;I)V"⟩, 10), (⟨"PianoCrews$Firm", "passOneHour", "()I"⟩, 10), (⟨"PianoCrews$Firm", "restPeople", "(I)V"⟩, 10), (⟨"PianoCrews$Firm", "carryHour", "(IZ)V"⟩, 10), (⟨"PianoCrews$Person", "hoursOfRest", "(I)I"⟩, 5), (⟨"PianoCrews$Firm", "jobsInState", "(I)I"⟩, 10), (⟨"PianoCrews$Firm", "lateJobs", "()I"⟩, 10), (⟨"PianoCrews$Pad", "signHere", "()I"⟩, 8), (⟨"PianoCrews$Pad", "readForm", "(Ljava/lang/String;)Z"⟩, 8), (⟨"PianoCrews$Pad", "readNumber", "(I)Z"⟩, 8), (⟨"PianoCrews$Pad", "isDigitHere", "()Z"⟩, 8)]
theorem lw_r1 : ∀ q ∈ lw_privs_1, lw_okq q := List.forall_mem_cons.mpr ⟨lw_p0, List.forall_mem_cons.mpr ⟨lw_p1, List.forall_mem_cons.mpr ⟨lw_p2, List.forall_mem_cons.mpr ⟨lw_p3, List.forall_mem_cons.mpr ⟨lw_p4, List.forall_mem_cons.mpr ⟨lw_p5, List.forall_mem_cons.mpr ⟨lw_p6, List.forall_mem_cons.mpr ⟨lw_p7, List.forall_mem_cons.mpr ⟨lw_p8, List.forall_mem_cons.mpr ⟨lw_p9, List.forall_mem_cons.mpr ⟨lw_p10, List.forall_mem_cons.mpr ⟨lw_p11, List.forall_mem_cons.mpr ⟨lw_p12, List.forall_mem_cons.mpr ⟨lw_p13, List.forall_mem_cons.mpr ⟨lw_p14, List.forall_mem_cons.mpr ⟨lw_p15, fun _ h => absurd h List.not_mem_nil⟩⟩⟩⟩⟩⟩⟩⟩⟩⟩⟩⟩⟩⟩⟩⟩
theorem lw_p16 : lw_okq (⟨"PianoCrews$Pad", "takeDigit", "()I"⟩, 8) := ⟨⟨by decide +kernel, by decide +kernel⟩, List.mem_of_getElem? (i := 173) (by decide +kernel), List.mem_of_getElem? (i := 705) (by decide +kernel), List.mem_of_getElem? (i := 706) (by decide +kernel)⟩
theorem lw_p17 : lw_okq (⟨"PianoCrews$Pad", "readCrew", "()Z"⟩, 8) := ⟨⟨by decide +kernel, by decide +kernel⟩, List.mem_of_getElem? (i := 173) (by decide +kernel), List.mem_of_getElem? (i := 713) (by decide +kernel), List.mem_of_getElem? (i := 714) (by decide +kernel)⟩
theorem lw_p18 : lw_okq (⟨"PianoCrews", "obeyOrder", "()I"⟩, 6) := ⟨⟨by decide +kernel, by decide +kernel⟩, List.mem_of_getElem? (i := 17) (by decide +kernel), List.mem_of_getElem? (i := 724) (by decide +kernel), List.mem_of_getElem? (i := 725) (by decide +kernel)⟩
theorem lw_p19 : lw_okq (⟨"PianoCrewsModel", "records", "()V"⟩, 13) := ⟨⟨by decide +kernel, by decide +kernel⟩, List.mem_of_getElem? (i := 753) (by decide +kernel), List.mem_of_getElem? (i := 812) (by decide +kernel), List.mem_of_getElem? (i := 813) (by decide +kernel)⟩
theorem lw_p20 : lw_okq (⟨"PianoCrewsModel", "refusesPerson", "(I)I"⟩, 13) := ⟨⟨by decide +kernel, by decide +kernel⟩, List.mem_of_getElem? (i := 753) (by decide +kernel), List.mem_of_getElem? (i := 820) (by decide +kernel), List.mem_of_getElem? (i := 821) (by decide +kernel)⟩
theorem lw_p21 : lw_okq (⟨"PianoCrewsModel", "addsPerson", "(I)I"⟩, 13) := ⟨⟨by decide +kernel, by decide +kernel⟩, List.mem_of_getElem? (i := 753) (by decide +kernel), List.mem_of_getElem? (i := 824) (by decide +kernel), List.mem_of_getElem? (i := 825) (by decide +kernel)⟩
theorem lw_p22 : lw_okq (⟨"PianoCrewsModel", "layPerson", "(III)V"⟩, 13) := ⟨⟨by decide +kernel, by decide +kernel⟩, List.mem_of_getElem? (i := 753) (by decide +kernel), List.mem_of_getElem? (i := 828) (by decide +kernel), List.mem_of_getElem? (i := 829) (by decide +kernel)⟩
theorem lw_p23 : lw_okq (⟨"PianoCrewsModel", "refusesJob", "(IIIII)I"⟩, 13) := ⟨⟨by decide +kernel, by decide +kernel⟩, List.mem_of_getElem? (i := 753) (by decide +kernel), List.mem_of_getElem? (i := 840) (by decide +kernel), List.mem_of_getElem? (i := 841) (by decide +kernel)⟩
theorem lw_p24 : lw_okq (⟨"PianoCrewsModel", "addsJob", "(IIIII)I"⟩, 13) := ⟨⟨by decide +kernel, by decide +kernel⟩, List.mem_of_getElem? (i := 753) (by decide +kernel), List.mem_of_getElem? (i := 844) (by decide +kernel), List.mem_of_getElem? (i := 845) (by decide +kernel)⟩
theorem lw_p25 : lw_okq (⟨"PianoCrewsModel", "lay", "(III)V"⟩, 13) := ⟨⟨by decide +kernel, by decide +kernel⟩, List.mem_of_getElem? (i := 753) (by decide +kernel), List.mem_of_getElem? (i := 848) (by decide +kernel), List.mem_of_getElem? (i := 849) (by decide +kernel)⟩
theorem lw_p26 : lw_okq (⟨"PianoCrewsModel", "refusesBegin", "(III)I"⟩, 13) := ⟨⟨by decide +kernel, by decide +kernel⟩, List.mem_of_getElem? (i := 753) (by decide +kernel), List.mem_of_getElem? (i := 856) (by decide +kernel), List.mem_of_getElem? (i := 857) (by decide +kernel)⟩
theorem lw_p27 : lw_okq (⟨"PianoCrewsModel", "isJob", "(I)Z"⟩, 13) := ⟨⟨by decide +kernel, by decide +kernel⟩, List.mem_of_getElem? (i := 753) (by decide +kernel), List.mem_of_getElem? (i := 860) (by decide +kernel), List.mem_of_getElem? (i := 861) (by decide +kernel)⟩
theorem lw_p28 : lw_okq (⟨"PianoCrewsModel", "reason", "(III)I"⟩, 13) := ⟨⟨by decide +kernel, by decide +kernel⟩, List.mem_of_getElem? (i := 753) (by decide +kernel), List.mem_of_getElem? (i := 867) (by decide +kernel), List.mem_of_getElem? (i := 868) (by decide +kernel)⟩
theorem lw_p29 : lw_okq (⟨"PianoCrewsModel", "ofJobs", "(II)I"⟩, 13) := ⟨⟨by decide +kernel, by decide +kernel⟩, List.mem_of_getElem? (i := 753) (by decide +kernel), List.mem_of_getElem? (i := 871) (by decide +kernel), List.mem_of_getElem? (i := 872) (by decide +kernel)⟩
theorem lw_p30 : lw_okq (⟨"PianoCrewsModel", "busy", "()I"⟩, 13) := ⟨⟨by decide +kernel, by decide +kernel⟩, List.mem_of_getElem? (i := 753) (by decide +kernel), List.mem_of_getElem? (i := 878) (by decide +kernel), List.mem_of_getElem? (i := 879) (by decide +kernel)⟩
theorem lw_p31 : lw_okq (⟨"PianoCrewsModel", "canHave", "(II)Z"⟩, 13) := ⟨⟨by decide +kernel, by decide +kernel⟩, List.mem_of_getElem? (i := 753) (by decide +kernel), List.mem_of_getElem? (i := 882) (by decide +kernel), List.mem_of_getElem? (i := 883) (by decide +kernel)⟩
def lw_privs_2 : List (MethodName × Nat) := [(⟨"PianoCrews$Pad", "takeDigit", "()I"⟩, 8), (⟨"PianoCrews$Pad", "readCrew", "()Z"⟩, 8), (⟨"PianoCrews", "obeyOrder", "()I"⟩, 6), (⟨"PianoCrewsModel", "records", "()V"⟩, 13), (⟨"PianoCrewsModel", "refusesPerson", "(I)I"⟩, 13), (⟨"PianoCrewsModel", "addsPerson", "(I)I"⟩, 13), (⟨"PianoCrewsModel", "layPerson", "(III)V"⟩, 13), (⟨"PianoCrewsModel", "refusesJob", "(IIIII)I"⟩, 13), (⟨"PianoCrewsModel", "addsJob", "(IIIII)I"⟩, 13), (⟨"PianoCrewsModel", "lay", "(III)V"⟩, 13), (⟨"PianoCrewsModel", "refusesBegin", "(III)I"⟩, 13), (⟨"PianoCrewsModel", "isJob", "(I)Z"⟩, 13), (⟨"PianoCrewsModel", "reason", "(III)I"⟩, 13), (⟨"PianoCrewsModel", "ofJobs", "(II)I"⟩, 13), (⟨"PianoCrewsModel", "busy", "()I"⟩, 13), (⟨"PianoCrewsModel", "canHave", "(II)Z"⟩, 13)]
theorem lw_r2 : ∀ q ∈ lw_privs_2, lw_okq q := List.forall_mem_cons.mpr ⟨lw_p16, List.forall_mem_cons.mpr ⟨lw_p17, List.forall_mem_cons.mpr ⟨lw_p18, List.forall_mem_cons.mpr ⟨lw_p19, List.forall_mem_cons.mpr ⟨lw_p20, List.forall_mem_cons.mpr ⟨lw_p21, List.forall_mem_cons.mpr ⟨lw_p22, List.forall_mem_cons.mpr ⟨lw_p23, List.forall_mem_cons.mpr ⟨lw_p24, List.forall_mem_cons.mpr ⟨lw_p25, List.forall_mem_cons.mpr ⟨lw_p26, List.forall_mem_cons.mpr ⟨lw_p27, List.forall_mem_cons.mpr ⟨lw_p28, List.forall_mem_cons.mpr ⟨lw_p29, List.forall_mem_cons.mpr ⟨lw_p30, List.forall_mem_cons.mpr ⟨lw_p31, fun _ h => absurd h List.not_mem_nil⟩⟩⟩⟩⟩⟩⟩⟩⟩⟩⟩⟩⟩⟩⟩⟩
theorem lw_p32 : lw_okq (⟨"PianoCrewsModel", "freeStraps", "(I)I"⟩, 13) := ⟨⟨by decide +kernel, by decide +kernel⟩, List.mem_of_getElem? (i := 753) (by decide +kernel), List.mem_of_getElem? (i := 886) (by decide +kernel), List.mem_of_getElem? (i := 887) (by decide +kernel)⟩
theorem lw_p33 : lw_okq (⟨"PianoCrewsModel", "strength", "(I)I"⟩, 13) := ⟨⟨by decide +kernel, by decide +kernel⟩, List.mem_of_getElem? (i := 753) (by decide +kernel), List.mem_of_getElem? (i := 890) (by decide +kernel), List.mem_of_getElem? (i := 891) (by decide +kernel)⟩
theorem lw_p34 : lw_okq (⟨"PianoCrewsModel", "ofPerson", "(II)I"⟩, 13) := ⟨⟨by decide +kernel, by decide +kernel⟩, List.mem_of_getElem? (i := 753) (by decide +kernel), List.mem_of_getElem? (i := 894) (by decide +kernel), List.mem_of_getElem? (i := 895) (by decide +kernel)⟩
theorem lw_p35 : lw_okq (⟨"PianoCrewsModel", "loadBy", "(II)I"⟩, 13) := ⟨⟨by decide +kernel, by decide +kernel⟩, List.mem_of_getElem? (i := 753) (by decide +kernel), List.mem_of_getElem? (i := 898) (by decide +kernel), List.mem_of_getElem? (i := 899) (by decide +kernel)⟩
theorem lw_p36 : lw_okq (⟨"PianoCrewsModel", "begins", "(III)I"⟩, 13) := ⟨⟨by decide +kernel, by decide +kernel⟩, List.mem_of_getElem? (i := 753) (by decide +kernel), List.mem_of_getElem? (i := 902) (by decide +kernel), List.mem_of_getElem? (i := 903) (by decide +kernel)⟩
theorem lw_p37 : lw_okq (⟨"PianoCrewsModel", "assigns", "()I"⟩, 13) := ⟨⟨by decide +kernel, by decide +kernel⟩, List.mem_of_getElem? (i := 753) (by decide +kernel), List.mem_of_getElem? (i := 910) (by decide +kernel), List.mem_of_getElem? (i := 911) (by decide +kernel)⟩
theorem lw_p38 : lw_okq (⟨"PianoCrewsModel", "waitingAt", "(II)I"⟩, 13) := ⟨⟨by decide +kernel, by decide +kernel⟩, List.mem_of_getElem? (i := 753) (by decide +kernel), List.mem_of_getElem? (i := 914) (by decide +kernel), List.mem_of_getElem? (i := 915) (by decide +kernel)⟩
theorem lw_p39 : lw_okq (⟨"PianoCrewsModel", "isAhead", "(II)Z"⟩, 13) := ⟨⟨by decide +kernel, by decide +kernel⟩, List.mem_of_getElem? (i := 753) (by decide +kernel), List.mem_of_getElem? (i := 918) (by decide +kernel), List.mem_of_getElem? (i := 919) (by decide +kernel)⟩
theorem lw_p40 : lw_okq (⟨"PianoCrewsModel", "strapsFor", "(I)I"⟩, 13) := ⟨⟨by decide +kernel, by decide +kernel⟩, List.mem_of_getElem? (i := 753) (by decide +kernel), List.mem_of_getElem? (i := 922) (by decide +kernel), List.mem_of_getElem? (i := 923) (by decide +kernel)⟩
theorem lw_p41 : lw_okq (⟨"PianoCrewsModel", "crewFor", "(II)I"⟩, 13) := ⟨⟨by decide +kernel, by decide +kernel⟩, List.mem_of_getElem? (i := 753) (by decide +kernel), List.mem_of_getElem? (i := 926) (by decide +kernel), List.mem_of_getElem? (i := 927) (by decide +kernel)⟩
theorem lw_p42 : lw_okq (⟨"PianoCrewsModel", "strongestBut", "(I)I"⟩, 13) := ⟨⟨by decide +kernel, by decide +kernel⟩, List.mem_of_getElem? (i := 753) (by decide +kernel), List.mem_of_getElem? (i := 930) (by decide +kernel), List.mem_of_getElem? (i := 931) (by decide +kernel)⟩
theorem lw_p43 : lw_okq (⟨"PianoCrewsModel", "refusesDelay", "(II)I"⟩, 13) := ⟨⟨by decide +kernel, by decide +kernel⟩, List.mem_of_getElem? (i := 753) (by decide +kernel), List.mem_of_getElem? (i := 938) (by decide +kernel), List.mem_of_getElem? (i := 939) (by decide +kernel)⟩
theorem lw_p44 : lw_okq (⟨"PianoCrewsModel", "delays", "(II)I"⟩, 13) := ⟨⟨by decide +kernel, by decide +kernel⟩, List.mem_of_getElem? (i := 753) (by decide +kernel), List.mem_of_getElem? (i := 942) (by decide +kernel), List.mem_of_getElem? (i := 943) (by decide +kernel)⟩
theorem lw_p45 : lw_okq (⟨"PianoCrewsModel", "refusesCall", "(I)I"⟩, 13) := ⟨⟨by decide +kernel, by decide +kernel⟩, List.mem_of_getElem? (i := 753) (by decide +kernel), List.mem_of_getElem? (i := 950) (by decide +kernel), List.mem_of_getElem? (i := 951) (by decide +kernel)⟩
theorem lw_p46 : lw_okq (⟨"PianoCrewsModel", "callsOff", "(I)I"⟩, 13) := ⟨⟨by decide +kernel, by decide +kernel⟩, List.mem_of_getElem? (i := 753) (by decide +kernel), List.mem_of_getElem? (i := 954) (by decide +kernel), List.mem_of_getElem? (i := 955) (by decide +kernel)⟩
theorem lw_p47 : lw_okq (⟨"PianoCrewsModel", "refusesHours", "(I)I"⟩, 13) := ⟨⟨by decide +kernel, by decide +kernel⟩, List.mem_of_getElem? (i := 753) (by decide +kernel), List.mem_of_getElem? (i := 962) (by decide +kernel), List.mem_of_getElem? (i := 963) (by decide +kernel)⟩
def lw_privs_3 : List (MethodName × Nat) := [(⟨"PianoCrewsModel", "freeStraps", "(I)I"⟩, 13), (⟨"PianoCrewsModel", "strength", "(I)I"⟩, 13), (⟨"PianoCrewsModel", "ofPerson", "(II)I"⟩, 13), (⟨"PianoCrewsModel", "loadBy", "(II)I"⟩, 13), (⟨"PianoCrewsModel", "begins", "(III)I"⟩, 13), (⟨"PianoCrewsModel", "assigns", "()I"⟩, 13), (⟨"PianoCrewsModel", "waitingAt", "(II)I"⟩, 13), (⟨"PianoCrewsModel", "isAhead", "(II)Z"⟩, 13), (⟨"PianoCrewsModel", "strapsFor", "(I)I"⟩, 13), (⟨"PianoCrewsModel", "crewFor", "(II)I"⟩, 13), (⟨"PianoCrewsModel", "strongestBut", "(I)I"⟩, 13), (⟨"PianoCrewsModel", "refusesDelay", "(II)I"⟩, 13), (⟨"PianoCrewsModel", "delays", "(II)I"⟩, 13), (⟨"PianoCrewsModel", "refusesCall", "(I)I"⟩, 13), (⟨"PianoCrewsModel", "callsOff", "(I)I"⟩, 13), (⟨"PianoCrewsModel", "refusesHours", "(I)I"⟩, 13)]
theorem lw_r3 : ∀ q ∈ lw_privs_3, lw_okq q := List.forall_mem_cons.mpr ⟨lw_p32, List.forall_mem_cons.mpr ⟨lw_p33, List.forall_mem_cons.mpr ⟨lw_p34, List.forall_mem_cons.mpr ⟨lw_p35, List.forall_mem_cons.mpr ⟨lw_p36, List.forall_mem_cons.mpr ⟨lw_p37, List.forall_mem_cons.mpr ⟨lw_p38, List.forall_mem_cons.mpr ⟨lw_p39, List.forall_mem_cons.mpr ⟨lw_p40, List.forall_mem_cons.mpr ⟨lw_p41, List.forall_mem_cons.mpr ⟨lw_p42, List.forall_mem_cons.mpr ⟨lw_p43, List.forall_mem_cons.mpr ⟨lw_p44, List.forall_mem_cons.mpr ⟨lw_p45, List.forall_mem_cons.mpr ⟨lw_p46, List.forall_mem_cons.mpr ⟨lw_p47, fun _ h => absurd h List.not_mem_nil⟩⟩⟩⟩⟩⟩⟩⟩⟩⟩⟩⟩⟩⟩⟩⟩
theorem lw_p48 : lw_okq (⟨"PianoCrewsModel", "passes", "(I)I"⟩, 13) := ⟨⟨by decide +kernel, by decide +kernel⟩, List.mem_of_getElem? (i := 753) (by decide +kernel), List.mem_of_getElem? (i := 966) (by decide +kernel), List.mem_of_getElem? (i := 967) (by decide +kernel)⟩
theorem lw_p49 : lw_okq (⟨"PianoCrewsModel", "goesBy", "()I"⟩, 13) := ⟨⟨by decide +kernel, by decide +kernel⟩, List.mem_of_getElem? (i := 753) (by decide +kernel), List.mem_of_getElem? (i := 970) (by decide +kernel), List.mem_of_getElem? (i := 971) (by decide +kernel)⟩
theorem lw_p50 : lw_okq (⟨"PianoCrewsModel", "works", "(I)Z"⟩, 13) := ⟨⟨by decide +kernel, by decide +kernel⟩, List.mem_of_getElem? (i := 753) (by decide +kernel), List.mem_of_getElem? (i := 974) (by decide +kernel), List.mem_of_getElem? (i := 975) (by decide +kernel)⟩
theorem lw_p51 : lw_okq (⟨"PianoCrewsModel", "rest", "(I)V"⟩, 13) := ⟨⟨by decide +kernel, by decide +kernel⟩, List.mem_of_getElem? (i := 753) (by decide +kernel), List.mem_of_getElem? (i := 978) (by decide +kernel), List.mem_of_getElem? (i := 979) (by decide +kernel)⟩
theorem lw_p52 : lw_okq (⟨"PianoCrewsModel", "carry", "(I)V"⟩, 13) := ⟨⟨by decide +kernel, by decide +kernel⟩, List.mem_of_getElem? (i := 753) (by decide +kernel), List.mem_of_getElem? (i := 982) (by decide +kernel), List.mem_of_getElem? (i := 983) (by decide +kernel)⟩
theorem lw_p53 : lw_okq (⟨"PianoCrewsModel", "ends", "(I)V"⟩, 13) := ⟨⟨by decide +kernel, by decide +kernel⟩, List.mem_of_getElem? (i := 753) (by decide +kernel), List.mem_of_getElem? (i := 986) (by decide +kernel), List.mem_of_getElem? (i := 987) (by decide +kernel)⟩
theorem lw_p54 : lw_okq (⟨"PianoCrewsModel", "jobOf", "(I)I"⟩, 13) := ⟨⟨by decide +kernel, by decide +kernel⟩, List.mem_of_getElem? (i := 753) (by decide +kernel), List.mem_of_getElem? (i := 994) (by decide +kernel), List.mem_of_getElem? (i := 995) (by decide +kernel)⟩
theorem lw_p55 : lw_okq (⟨"PianoCrewsModel", "isLate", "(I)Z"⟩, 13) := ⟨⟨by decide +kernel, by decide +kernel⟩, List.mem_of_getElem? (i := 753) (by decide +kernel), List.mem_of_getElem? (i := 1002) (by decide +kernel), List.mem_of_getElem? (i := 1003) (by decide +kernel)⟩
theorem lw_p56 : lw_okq (⟨"PianoCrewsModel", "jobsThat", "(I)I"⟩, 13) := ⟨⟨by decide +kernel, by decide +kernel⟩, List.mem_of_getElem? (i := 753) (by decide +kernel), List.mem_of_getElem? (i := 1018) (by decide +kernel), List.mem_of_getElem? (i := 1019) (by decide +kernel)⟩
theorem lw_p57 : lw_okq (⟨"PianoCrewsModel", "putAside", "()V"⟩, 13) := ⟨⟨by decide +kernel, by decide +kernel⟩, List.mem_of_getElem? (i := 753) (by decide +kernel), List.mem_of_getElem? (i := 1038) (by decide +kernel), List.mem_of_getElem? (i := 1039) (by decide +kernel)⟩
theorem lw_p58 : lw_okq (⟨"PianoCrewsModel", "takeBack", "()V"⟩, 13) := ⟨⟨by decide +kernel, by decide +kernel⟩, List.mem_of_getElem? (i := 753) (by decide +kernel), List.mem_of_getElem? (i := 1042) (by decide +kernel), List.mem_of_getElem? (i := 1043) (by decide +kernel)⟩
theorem lw_p59 : lw_okq (⟨"PianoCrewsModel", "reads", "()I"⟩, 13) := ⟨⟨by decide +kernel, by decide +kernel⟩, List.mem_of_getElem? (i := 753) (by decide +kernel), List.mem_of_getElem? (i := 1063) (by decide +kernel), List.mem_of_getElem? (i := 1064) (by decide +kernel)⟩
theorem lw_p60 : lw_okq (⟨"PianoCrewsModel", "readsOrder", "()V"⟩, 13) := ⟨⟨by decide +kernel, by decide +kernel⟩, List.mem_of_getElem? (i := 753) (by decide +kernel), List.mem_of_getElem? (i := 1067) (by decide +kernel), List.mem_of_getElem? (i := 1068) (by decide +kernel)⟩
theorem lw_p61 : lw_okq (⟨"PianoCrewsModel", "letter", "()I"⟩, 13) := ⟨⟨by decide +kernel, by decide +kernel⟩, List.mem_of_getElem? (i := 753) (by decide +kernel), List.mem_of_getElem? (i := 1071) (by decide +kernel), List.mem_of_getElem? (i := 1072) (by decide +kernel)⟩
theorem lw_p62 : lw_okq (⟨"PianoCrewsModel", "number", "()I"⟩, 13) := ⟨⟨by decide +kernel, by decide +kernel⟩, List.mem_of_getElem? (i := 753) (by decide +kernel), List.mem_of_getElem? (i := 1078) (by decide +kernel), List.mem_of_getElem? (i := 1079) (by decide +kernel)⟩
theorem lw_p63 : lw_okq (⟨"PianoCrewsModel", "digit", "()I"⟩, 13) := ⟨⟨by decide +kernel, by decide +kernel⟩, List.mem_of_getElem? (i := 753) (by decide +kernel), List.mem_of_getElem? (i := 1082) (by decide +kernel), List.mem_of_getElem? (i := 1083) (by decide +kernel)⟩
def lw_privs_4 : List (MethodName × Nat) := [(⟨"PianoCrewsModel", "passes", "(I)I"⟩, 13), (⟨"PianoCrewsModel", "goesBy", "()I"⟩, 13), (⟨"PianoCrewsModel", "works", "(I)Z"⟩, 13), (⟨"PianoCrewsModel", "rest", "(I)V"⟩, 13), (⟨"PianoCrewsModel", "carry", "(I)V"⟩, 13), (⟨"PianoCrewsModel", "ends", "(I)V"⟩, 13), (⟨"PianoCrewsModel", "jobOf", "(I)I"⟩, 13), (⟨"PianoCrewsModel", "isLate", "(I)Z"⟩, 13), (⟨"PianoCrewsModel", "jobsThat", "(I)I"⟩, 13), (⟨"PianoCrewsModel", "putAside", "()V"⟩, 13), (⟨"PianoCrewsModel", "takeBack", "()V"⟩, 13), (⟨"PianoCrewsModel", "reads", "()I"⟩, 13), (⟨"PianoCrewsModel", "readsOrder", "()V"⟩, 13), (⟨"PianoCrewsModel", "letter", "()I"⟩, 13), (⟨"PianoCrewsModel", "number", "()I"⟩, 13), (⟨"PianoCrewsModel", "digit", "()I"⟩, 13)]
theorem lw_r4 : ∀ q ∈ lw_privs_4, lw_okq q := List.forall_mem_cons.mpr ⟨lw_p48, List.forall_mem_cons.mpr ⟨lw_p49, List.forall_mem_cons.mpr ⟨lw_p50, List.forall_mem_cons.mpr ⟨lw_p51, List.forall_mem_cons.mpr ⟨lw_p52, List.forall_mem_cons.mpr ⟨lw_p53, List.forall_mem_cons.mpr ⟨lw_p54, List.forall_mem_cons.mpr ⟨lw_p55, List.forall_mem_cons.mpr ⟨lw_p56, List.forall_mem_cons.mpr ⟨lw_p57, List.forall_mem_cons.mpr ⟨lw_p58, List.forall_mem_cons.mpr ⟨lw_p59, List.forall_mem_cons.mpr ⟨lw_p60, List.forall_mem_cons.mpr ⟨lw_p61, List.forall_mem_cons.mpr ⟨lw_p62, List.forall_mem_cons.mpr ⟨lw_p63, fun _ h => absurd h List.not_mem_nil⟩⟩⟩⟩⟩⟩⟩⟩⟩⟩⟩⟩⟩⟩⟩⟩
theorem lw_p64 : lw_okq (⟨"PianoCrewsModel", "readsJob", "(I)V"⟩, 13) := ⟨⟨by decide +kernel, by decide +kernel⟩, List.mem_of_getElem? (i := 753) (by decide +kernel), List.mem_of_getElem? (i := 1086) (by decide +kernel), List.mem_of_getElem? (i := 1087) (by decide +kernel)⟩
theorem lw_p65 : lw_okq (⟨"PianoCrewsModel", "wants", "(I)V"⟩, 13) := ⟨⟨by decide +kernel, by decide +kernel⟩, List.mem_of_getElem? (i := 753) (by decide +kernel), List.mem_of_getElem? (i := 1090) (by decide +kernel), List.mem_of_getElem? (i := 1091) (by decide +kernel)⟩
theorem lw_p66 : lw_okq (⟨"PianoCrewsModel", "readsCrew", "(I)V"⟩, 13) := ⟨⟨by decide +kernel, by decide +kernel⟩, List.mem_of_getElem? (i := 753) (by decide +kernel), List.mem_of_getElem? (i := 1094) (by decide +kernel), List.mem_of_getElem? (i := 1095) (by decide +kernel)⟩
theorem lw_p67 : lw_okq (⟨"PianoCrewsModel", "refuses", "(I)I"⟩, 13) := ⟨⟨by decide +kernel, by decide +kernel⟩, List.mem_of_getElem? (i := 753) (by decide +kernel), List.mem_of_getElem? (i := 1102) (by decide +kernel), List.mem_of_getElem? (i := 1103) (by decide +kernel)⟩
theorem lw_p68 : lw_okq (⟨"PianoCrewsModel", "does", "(I)V"⟩, 13) := ⟨⟨by decide +kernel, by decide +kernel⟩, List.mem_of_getElem? (i := 753) (by decide +kernel), List.mem_of_getElem? (i := 1106) (by decide +kernel), List.mem_of_getElem? (i := 1107) (by decide +kernel)⟩
def lw_privs_5 : List (MethodName × Nat) := [(⟨"PianoCrewsModel", "readsJob", "(I)V"⟩, 13), (⟨"PianoCrewsModel", "wants", "(I)V"⟩, 13), (⟨"PianoCrewsModel", "readsCrew", "(I)V"⟩, 13), (⟨"PianoCrewsModel", "refuses", "(I)I"⟩, 13), (⟨"PianoCrewsModel", "does", "(I)V"⟩, 13)]
theorem lw_r5 : ∀ q ∈ lw_privs_5, lw_okq q := List.forall_mem_cons.mpr ⟨lw_p64, List.forall_mem_cons.mpr ⟨lw_p65, List.forall_mem_cons.mpr ⟨lw_p66, List.forall_mem_cons.mpr ⟨lw_p67, List.forall_mem_cons.mpr ⟨lw_p68, fun _ h => absurd h List.not_mem_nil⟩⟩⟩⟩⟩
def lw_privs : List (MethodName × Nat) := lw_privs_1 ++ (lw_privs_2 ++ (lw_privs_3 ++ (lw_privs_4 ++ (lw_privs_5))))
def lw_tbl : List Cond := k2_sels lw_privs ++ tables_1
theorem lw_privs_ok : ∀ q ∈ lw_privs, lw_okq q := by
  show ∀ q ∈ lw_privs_1 ++ (lw_privs_2 ++ (lw_privs_3 ++ (lw_privs_4 ++ (lw_privs_5)))), lw_okq q
  exact List.forall_mem_append.mpr ⟨lw_r1, List.forall_mem_append.mpr ⟨lw_r2, List.forall_mem_append.mpr ⟨lw_r3, List.forall_mem_append.mpr ⟨lw_r4, lw_r5⟩⟩⟩⟩
end
section
def RX0 : String := "PianoCrews$Firm"
def TX0 : u_T := fun k => match k with
  | 0 => ("PianoCrews$Firm", "settings", "[I", true)
  | 1 => ("PianoCrews$Firm", "owned", "[I", true)
  | 2 => ("PianoCrews$Firm", "free", "[I", true)
  | 3 => ("PianoCrews$Firm", "people", "[LPianoCrews$Person;", true)
  | 4 => ("PianoCrews$Firm", "jobs", "[LPianoCrews$Job;", true)
  | 5 => ("PianoCrews$Firm", "personCount", "I", false)
  | 6 => ("PianoCrews$Firm", "jobCount", "I", false)
  | 7 => ("PianoCrews$Firm", "hoursSoFar", "I", false)
  | 8 => ("PianoCrews$Firm", "hoursCarried", "I", false)
  | _ => ("PianoCrews$Firm", "hoursPaused", "I", false)
def tyX0 : Nat → FieldType := fun k => match k with
  | 0 => .array .int
  | 1 => .array .int
  | 2 => .array .int
  | 3 => .array (.object "PianoCrews$Person")
  | 4 => .array (.object "PianoCrews$Job")
  | 5 => .int
  | 6 => .int
  | 7 => .int
  | 8 => .int
  | _ => .int
theorem nmX0 : ∀ a, a < 10 → ∀ b, b < 10 → a ≠ b → (TX0 a).2.1 ≠ (TX0 b).2.1 := by decide +kernel
theorem tyX0_ok : ∀ k, k < 10 → parseFieldDescriptor (TX0 k).2.2.1 = some (tyX0 k) := by decide +kernel
abbrev cX0_init : ByteArray := prog_2_method_1_code
def yX0_init : MethodName := ⟨RX0, "<init>", "()V"⟩
abbrev cX0_copyFrom : ByteArray := prog_2_method_2_code
def yX0_copyFrom : MethodName := ⟨RX0, "copyFrom", "(LPianoCrews$Firm;)V"⟩
abbrev cX0_hasPerson : ByteArray := prog_2_method_3_code
def yX0_hasPerson : MethodName := ⟨RX0, "hasPerson", "(I)Z"⟩
abbrev cX0_hasJob : ByteArray := prog_2_method_4_code
def yX0_hasJob : MethodName := ⟨RX0, "hasJob", "(I)Z"⟩
abbrev cX0_changeSetting : ByteArray := prog_2_method_5_code
def yX0_changeSetting : MethodName := ⟨RX0, "changeSetting", "(II)I"⟩
abbrev cX0_addPerson : ByteArray := prog_2_method_6_code
def yX0_addPerson : MethodName := ⟨RX0, "addPerson", "(I)I"⟩
abbrev cX0_addStraps : ByteArray := prog_2_method_7_code
def yX0_addStraps : MethodName := ⟨RX0, "addStraps", "(I)I"⟩
abbrev cX0_addJob : ByteArray := prog_2_method_8_code
def yX0_addJob : MethodName := ⟨RX0, "addJob", "(IIIII)I"⟩
abbrev cX0_loadNow : ByteArray := prog_2_method_9_code
def yX0_loadNow : MethodName := ⟨RX0, "loadNow", "(LPianoCrews$Job;)I"⟩
abbrev cX0_loadWith : ByteArray := prog_2_method_10_code
def yX0_loadWith : MethodName := ⟨RX0, "loadWith", "(LPianoCrews$Job;I)I"⟩
abbrev cX0_canHaveStraps : ByteArray := prog_2_method_11_code
def yX0_canHaveStraps : MethodName := ⟨RX0, "canHaveStraps", "(LPianoCrews$Job;I)Z"⟩
abbrev cX0_busyPeople : ByteArray := prog_2_method_12_code
def yX0_busyPeople : MethodName := ⟨RX0, "busyPeople", "()I"⟩
abbrev cX0_strengthOf : ByteArray := prog_2_method_13_code
def yX0_strengthOf : MethodName := ⟨RX0, "strengthOf", "(I)I"⟩
abbrev cX0_isCrew : ByteArray := prog_2_method_14_code
def yX0_isCrew : MethodName := ⟨RX0, "isCrew", "(I)Z"⟩
abbrev cX0_whyNot : ByteArray := prog_2_method_15_code
def yX0_whyNot : MethodName := ⟨RX0, "whyNot", "(III)I"⟩
abbrev cX0_strongestOutside : ByteArray := prog_2_method_16_code
def yX0_strongestOutside : MethodName := ⟨RX0, "strongestOutside", "(I)I"⟩
abbrev cX0_crewByItself : ByteArray := prog_2_method_17_code
def yX0_crewByItself : MethodName := ⟨RX0, "crewByItself", "(LPianoCrews$Job;I)I"⟩
abbrev cX0_fewestPeopleStraps : ByteArray := prog_2_method_18_code
def yX0_fewestPeopleStraps : MethodName := ⟨RX0, "fewestPeopleStraps", "(LPianoCrews$Job;)I"⟩
abbrev cX0_beginJob : ByteArray := prog_2_method_19_code
def yX0_beginJob : MethodName := ⟨RX0, "beginJob", "(III)I"⟩
abbrev cX0_placeCrew : ByteArray := prog_2_method_20_code
def yX0_placeCrew : MethodName := ⟨RX0, "placeCrew", "(II)V"⟩
abbrev cX0_assignJobs : ByteArray := prog_2_method_21_code
def yX0_assignJobs : MethodName := ⟨RX0, "assignJobs", "()I"⟩
abbrev cX0_isAhead : ByteArray := prog_2_method_22_code
def yX0_isAhead : MethodName := ⟨RX0, "isAhead", "(II)Z"⟩
abbrev cX0_nextWaiting : ByteArray := prog_2_method_23_code
def yX0_nextWaiting : MethodName := ⟨RX0, "nextWaiting", "(I)I"⟩
abbrev cX0_waitingAt : ByteArray := prog_2_method_24_code
def yX0_waitingAt : MethodName := ⟨RX0, "waitingAt", "(I)I"⟩
abbrev cX0_delayJob : ByteArray := prog_2_method_25_code
def yX0_delayJob : MethodName := ⟨RX0, "delayJob", "(II)I"⟩
abbrev cX0_callOffJob : ByteArray := prog_2_method_26_code
def yX0_callOffJob : MethodName := ⟨RX0, "callOffJob", "(I)I"⟩
abbrev cX0_endJob : ByteArray := prog_2_method_27_code
def yX0_endJob : MethodName := ⟨RX0, "endJob", "(LPianoCrews$Job;I)V"⟩
abbrev cX0_passHours : ByteArray := prog_2_method_28_code
def yX0_passHours : MethodName := ⟨RX0, "passHours", "(I)I"⟩
abbrev cX0_passOneHour : ByteArray := prog_2_method_29_code
def yX0_passOneHour : MethodName := ⟨RX0, "passOneHour", "()I"⟩
abbrev cX0_workOneHour : ByteArray := prog_2_method_30_code
def yX0_workOneHour : MethodName := ⟨RX0, "workOneHour", "(LPianoCrews$Job;)Z"⟩
abbrev cX0_restPeople : ByteArray := prog_2_method_31_code
def yX0_restPeople : MethodName := ⟨RX0, "restPeople", "(I)V"⟩
abbrev cX0_carryHour : ByteArray := prog_2_method_32_code
def yX0_carryHour : MethodName := ⟨RX0, "carryHour", "(IZ)V"⟩
abbrev cX0_tellOfJob : ByteArray := prog_2_method_33_code
def yX0_tellOfJob : MethodName := ⟨RX0, "tellOfJob", "(LPianoCrews$Job;I)I"⟩
abbrev cX0_tellCount : ByteArray := prog_2_method_34_code
def yX0_tellCount : MethodName := ⟨RX0, "tellCount", "(I)I"⟩
abbrev cX0_jobsInState : ByteArray := prog_2_method_35_code
def yX0_jobsInState : MethodName := ⟨RX0, "jobsInState", "(I)I"⟩
abbrev cX0_lateJobs : ByteArray := prog_2_method_36_code
def yX0_lateJobs : MethodName := ⟨RX0, "lateJobs", "()I"⟩
def RX1 : String := "PianoCrews$History"
def TX1 : u_T := fun k => match k with
  | 0 => ("PianoCrews$History", "states", "[LPianoCrews$Firm;", true)
  | 1 => ("PianoCrews$History", "oldest", "I", false)
  | _ => ("PianoCrews$History", "count", "I", false)
def tyX1 : Nat → FieldType := fun k => match k with
  | 0 => .array (.object "PianoCrews$Firm")
  | 1 => .int
  | _ => .int
theorem nmX1 : ∀ a, a < 3 → ∀ b, b < 3 → a ≠ b → (TX1 a).2.1 ≠ (TX1 b).2.1 := by decide +kernel
theorem tyX1_ok : ∀ k, k < 3 → parseFieldDescriptor (TX1 k).2.2.1 = some (tyX1 k) := by decide +kernel
abbrev cX1_init : ByteArray := prog_3_method_1_code
def yX1_init : MethodName := ⟨RX1, "<init>", "()V"⟩
abbrev cX1_note : ByteArray := prog_3_method_2_code
def yX1_note : MethodName := ⟨RX1, "note", "(LPianoCrews$Firm;)V"⟩
abbrev cX1_keepUnlessError : ByteArray := prog_3_method_3_code
def yX1_keepUnlessError : MethodName := ⟨RX1, "keepUnlessError", "(I)I"⟩
abbrev cX1_takeBack : ByteArray := prog_3_method_4_code
def yX1_takeBack : MethodName := ⟨RX1, "takeBack", "(LPianoCrews$Firm;)I"⟩
def RX2 : String := "PianoCrews$Job"
def TX2 : u_T := fun k => match k with
  | 0 => ("PianoCrews$Job", "weight", "I", false)
  | 1 => ("PianoCrews$Job", "floor", "I", false)
  | 2 => ("PianoCrews$Job", "hoursLeft", "I", false)
  | 3 => ("PianoCrews$Job", "priority", "I", false)
  | 4 => ("PianoCrews$Job", "deadline", "I", false)
  | 5 => ("PianoCrews$Job", "state", "I", false)
  | 6 => ("PianoCrews$Job", "load", "I", false)
  | 7 => ("PianoCrews$Job", "crew", "I", false)
  | 8 => ("PianoCrews$Job", "kind", "I", false)
  | 9 => ("PianoCrews$Job", "delay", "I", false)
  | 10 => ("PianoCrews$Job", "hoursPaused", "I", false)
  | _ => ("PianoCrews$Job", "doneAt", "I", false)
def tyX2 : Nat → FieldType := fun k => match k with
  | 0 => .int
  | 1 => .int
  | 2 => .int
  | 3 => .int
  | 4 => .int
  | 5 => .int
  | 6 => .int
  | 7 => .int
  | 8 => .int
  | 9 => .int
  | 10 => .int
  | _ => .int
theorem nmX2 : ∀ a, a < 12 → ∀ b, b < 12 → a ≠ b → (TX2 a).2.1 ≠ (TX2 b).2.1 := by decide +kernel
theorem tyX2_ok : ∀ k, k < 12 → parseFieldDescriptor (TX2 k).2.2.1 = some (tyX2 k) := by decide +kernel
abbrev cX2_init : ByteArray := prog_4_method_1_code
def yX2_init : MethodName := ⟨RX2, "<init>", "()V"⟩
abbrev cX2_come : ByteArray := prog_4_method_2_code
def yX2_come : MethodName := ⟨RX2, "come", "(IIIII)V"⟩
abbrev cX2_copyFrom : ByteArray := prog_4_method_3_code
def yX2_copyFrom : MethodName := ⟨RX2, "copyFrom", "(LPianoCrews$Job;)V"⟩
abbrev cX2_wasBegun : ByteArray := prog_4_method_4_code
def yX2_wasBegun : MethodName := ⟨RX2, "wasBegun", "()Z"⟩
abbrev cX2_isLate : ByteArray := prog_4_method_5_code
def yX2_isLate : MethodName := ⟨RX2, "isLate", "(I)Z"⟩
abbrev cX2_isAheadOfLater : ByteArray := prog_4_method_6_code
def yX2_isAheadOfLater : MethodName := ⟨RX2, "isAheadOfLater", "(LPianoCrews$Job;)Z"⟩
def RX3 : String := "PianoCrews$Pad"
def TX3 : u_T := fun k => match k with
  | 0 => ("PianoCrews$Pad", "signs", "[I", true)
  | 1 => ("PianoCrews$Pad", "numbers", "[I", true)
  | 2 => ("PianoCrews$Pad", "numbersRead", "I", false)
  | 3 => ("PianoCrews$Pad", "at", "I", false)
  | 4 => ("PianoCrews$Pad", "length", "I", false)
  | 5 => ("PianoCrews$Pad", "orderSign", "I", false)
  | 6 => ("PianoCrews$Pad", "crew", "I", false)
  | _ => ("PianoCrews$Pad", "kind", "I", false)
def tyX3 : Nat → FieldType := fun k => match k with
  | 0 => .array .int
  | 1 => .array .int
  | 2 => .int
  | 3 => .int
  | 4 => .int
  | 5 => .int
  | 6 => .int
  | _ => .int
theorem nmX3 : ∀ a, a < 8 → ∀ b, b < 8 → a ≠ b → (TX3 a).2.1 ≠ (TX3 b).2.1 := by decide +kernel
theorem tyX3_ok : ∀ k, k < 8 → parseFieldDescriptor (TX3 k).2.2.1 = some (tyX3 k) := by decide +kernel
abbrev cX3_init : ByteArray := prog_5_method_1_code
def yX3_init : MethodName := ⟨RX3, "<init>", "()V"⟩
abbrev cX3_append : ByteArray := prog_5_method_2_code
def yX3_append : MethodName := ⟨RX3, "append", "(J)I"⟩
abbrev cX3_signsIn : ByteArray := prog_5_method_3_code
def yX3_signsIn : MethodName := ⟨RX3, "signsIn", "(J)I"⟩
abbrev cX3_signOf : ByteArray := prog_5_method_4_code
def yX3_signOf : MethodName := ⟨RX3, "signOf", "(JI)I"⟩
abbrev cX3_empty : ByteArray := prog_5_method_5_code
def yX3_empty : MethodName := ⟨RX3, "empty", "()I"⟩
abbrev cX3_startReading : ByteArray := prog_5_method_6_code
def yX3_startReading : MethodName := ⟨RX3, "startReading", "()V"⟩
abbrev cX3_number : ByteArray := prog_5_method_7_code
def yX3_number : MethodName := ⟨RX3, "number", "(I)I"⟩
abbrev cX3_findFault : ByteArray := prog_5_method_8_code
def yX3_findFault : MethodName := ⟨RX3, "findFault", "()I"⟩
abbrev cX3_readOrder : ByteArray := prog_5_method_9_code
def yX3_readOrder : MethodName := ⟨RX3, "readOrder", "()Z"⟩
abbrev cX3_skip : ByteArray := prog_5_method_10_code
def yX3_skip : MethodName := ⟨RX3, "skip", "(I)Z"⟩
abbrev cX3_signHere : ByteArray := prog_5_method_11_code
def yX3_signHere : MethodName := ⟨RX3, "signHere", "()I"⟩
abbrev cX3_formOf : ByteArray := prog_5_method_12_code
def yX3_formOf : MethodName := ⟨RX3, "formOf", "(I)Ljava/lang/String;"⟩
abbrev cX3_readForm : ByteArray := prog_5_method_13_code
def yX3_readForm : MethodName := ⟨RX3, "readForm", "(Ljava/lang/String;)Z"⟩
abbrev cX3_readNumber : ByteArray := prog_5_method_14_code
def yX3_readNumber : MethodName := ⟨RX3, "readNumber", "(I)Z"⟩
abbrev cX3_readCrew : ByteArray := prog_5_method_15_code
def yX3_readCrew : MethodName := ⟨RX3, "readCrew", "()Z"⟩
abbrev cX3_isDigitHere : ByteArray := prog_5_method_16_code
def yX3_isDigitHere : MethodName := ⟨RX3, "isDigitHere", "()Z"⟩
abbrev cX3_takeDigit : ByteArray := prog_5_method_17_code
def yX3_takeDigit : MethodName := ⟨RX3, "takeDigit", "()I"⟩
def RX4 : String := "PianoCrews$Person"
def TX4 : u_T := fun k => match k with
  | 0 => ("PianoCrews$Person", "full", "I", false)
  | 1 => ("PianoCrews$Person", "strength", "I", false)
  | 2 => ("PianoCrews$Person", "job", "I", false)
  | 3 => ("PianoCrews$Person", "hoursCarried", "I", false)
  | _ => ("PianoCrews$Person", "jobsDone", "I", false)
def tyX4 : Nat → FieldType := fun k => match k with
  | 0 => .int
  | 1 => .int
  | 2 => .int
  | 3 => .int
  | _ => .int
theorem nmX4 : ∀ a, a < 5 → ∀ b, b < 5 → a ≠ b → (TX4 a).2.1 ≠ (TX4 b).2.1 := by decide +kernel
theorem tyX4_ok : ∀ k, k < 5 → parseFieldDescriptor (TX4 k).2.2.1 = some (tyX4 k) := by decide +kernel
abbrev cX4_init : ByteArray := prog_6_method_1_code
def yX4_init : MethodName := ⟨RX4, "<init>", "()V"⟩
abbrev cX4_come : ByteArray := prog_6_method_2_code
def yX4_come : MethodName := ⟨RX4, "come", "(I)V"⟩
abbrev cX4_copyFrom : ByteArray := prog_6_method_3_code
def yX4_copyFrom : MethodName := ⟨RX4, "copyFrom", "(LPianoCrews$Person;)V"⟩
abbrev cX4_rest : ByteArray := prog_6_method_4_code
def yX4_rest : MethodName := ⟨RX4, "rest", "(I)V"⟩
abbrev cX4_carry : ByteArray := prog_6_method_5_code
def yX4_carry : MethodName := ⟨RX4, "carry", "(I)V"⟩
abbrev cX4_tell : ByteArray := prog_6_method_6_code
def yX4_tell : MethodName := ⟨RX4, "tell", "(II)I"⟩
abbrev cX4_hoursOfRest : ByteArray := prog_6_method_7_code
def yX4_hoursOfRest : MethodName := ⟨RX4, "hoursOfRest", "(I)I"⟩
def RX5 : String := "PianoCrews"
def TX5 : u_T := fun k => match k with
  | 0 => ("PianoCrews", "firm", "LPianoCrews$Firm;", true)
  | 1 => ("PianoCrews", "trial", "LPianoCrews$Firm;", true)
  | 2 => ("PianoCrews", "slots", "[LPianoCrews$Firm;", true)
  | 3 => ("PianoCrews", "saved", "[Z", true)
  | 4 => ("PianoCrews", "history", "LPianoCrews$History;", true)
  | _ => ("PianoCrews", "pad", "LPianoCrews$Pad;", true)
def tyX5 : Nat → FieldType := fun k => match k with
  | 0 => .object "PianoCrews$Firm"
  | 1 => .object "PianoCrews$Firm"
  | 2 => .array (.object "PianoCrews$Firm")
  | 3 => .array .boolean
  | 4 => .object "PianoCrews$History"
  | _ => .object "PianoCrews$Pad"
theorem nmX5 : ∀ a, a < 6 → ∀ b, b < 6 → a ≠ b → (TX5 a).2.1 ≠ (TX5 b).2.1 := by decide +kernel
theorem tyX5_ok : ∀ k, k < 6 → parseFieldDescriptor (TX5 k).2.2.1 = some (tyX5 k) := by decide +kernel
abbrev cX5_init : ByteArray := prog_1_method_1_code
def yX5_init : MethodName := ⟨RX5, "<init>", "()V"⟩
abbrev cX5_set : ByteArray := prog_1_method_2_code
def yX5_set : MethodName := ⟨RX5, "set", "(II)I"⟩
abbrev cX5_person : ByteArray := prog_1_method_3_code
def yX5_person : MethodName := ⟨RX5, "person", "(I)I"⟩
abbrev cX5_buy : ByteArray := prog_1_method_4_code
def yX5_buy : MethodName := ⟨RX5, "buy", "(I)I"⟩
abbrev cX5_job : ByteArray := prog_1_method_5_code
def yX5_job : MethodName := ⟨RX5, "job", "(IIIII)I"⟩
abbrev cX5_begin : ByteArray := prog_1_method_6_code
def yX5_begin : MethodName := ⟨RX5, "begin", "(III)I"⟩
abbrev cX5_assign : ByteArray := prog_1_method_7_code
def yX5_assign : MethodName := ⟨RX5, "assign", "()I"⟩
abbrev cX5_delay : ByteArray := prog_1_method_8_code
def yX5_delay : MethodName := ⟨RX5, "delay", "(II)I"⟩
abbrev cX5_callOff : ByteArray := prog_1_method_9_code
def yX5_callOff : MethodName := ⟨RX5, "callOff", "(I)I"⟩
abbrev cX5_pass : ByteArray := prog_1_method_10_code
def yX5_pass : MethodName := ⟨RX5, "pass", "(I)I"⟩
abbrev cX5_of : ByteArray := prog_1_method_11_code
def yX5_of : MethodName := ⟨RX5, "of", "(II)I"⟩
abbrev cX5_ofJob : ByteArray := prog_1_method_12_code
def yX5_ofJob : MethodName := ⟨RX5, "ofJob", "(II)I"⟩
abbrev cX5_waiting : ByteArray := prog_1_method_13_code
def yX5_waiting : MethodName := ⟨RX5, "waiting", "(I)I"⟩
abbrev cX5_straps : ByteArray := prog_1_method_14_code
def yX5_straps : MethodName := ⟨RX5, "straps", "(II)I"⟩
abbrev cX5_count : ByteArray := prog_1_method_15_code
def yX5_count : MethodName := ⟨RX5, "count", "(I)I"⟩
abbrev cX5_why : ByteArray := prog_1_method_16_code
def yX5_why : MethodName := ⟨RX5, "why", "(III)I"⟩
abbrev cX5_crew : ByteArray := prog_1_method_17_code
def yX5_crew : MethodName := ⟨RX5, "crew", "(II)I"⟩
abbrev cX5_bestStraps : ByteArray := prog_1_method_18_code
def yX5_bestStraps : MethodName := ⟨RX5, "bestStraps", "(I)I"⟩
abbrev cX5_doneIn : ByteArray := prog_1_method_19_code
def yX5_doneIn : MethodName := ⟨RX5, "doneIn", "(I)I"⟩
abbrev cX5_ifAssigned : ByteArray := prog_1_method_20_code
def yX5_ifAssigned : MethodName := ⟨RX5, "ifAssigned", "()I"⟩
abbrev cX5_put : ByteArray := prog_1_method_21_code
def yX5_put : MethodName := ⟨RX5, "put", "(J)I"⟩
abbrev cX5_wipe : ByteArray := prog_1_method_22_code
def yX5_wipe : MethodName := ⟨RX5, "wipe", "()I"⟩
abbrev cX5_fault : ByteArray := prog_1_method_23_code
def yX5_fault : MethodName := ⟨RX5, "fault", "()I"⟩
abbrev cX5_carryOut : ByteArray := prog_1_method_24_code
def yX5_carryOut : MethodName := ⟨RX5, "carryOut", "()I"⟩
abbrev cX5_obeyOrder : ByteArray := prog_1_method_25_code
def yX5_obeyOrder : MethodName := ⟨RX5, "obeyOrder", "()I"⟩
abbrev cX5_undo : ByteArray := prog_1_method_26_code
def yX5_undo : MethodName := ⟨RX5, "undo", "()I"⟩
abbrev cX5_save : ByteArray := prog_1_method_27_code
def yX5_save : MethodName := ⟨RX5, "save", "(I)I"⟩
abbrev cX5_restore : ByteArray := prog_1_method_28_code
def yX5_restore : MethodName := ⟨RX5, "restore", "(I)I"⟩
abbrev cX5_isSlot : ByteArray := prog_1_method_29_code
def yX5_isSlot : MethodName := ⟨RX5, "isSlot", "(I)Z"⟩
abbrev cX5_isKind : ByteArray := prog_1_method_30_code
def yX5_isKind : MethodName := ⟨RX5, "isKind", "(I)Z"⟩
abbrev cX5_isKindOrNone : ByteArray := prog_1_method_31_code
def yX5_isKindOrNone : MethodName := ⟨RX5, "isKindOrNone", "(I)Z"⟩
abbrev cX5_isWithin : ByteArray := prog_1_method_32_code
def yX5_isWithin : MethodName := ⟨RX5, "isWithin", "(III)Z"⟩
abbrev cX5_isIn : ByteArray := prog_1_method_33_code
def yX5_isIn : MethodName := ⟨RX5, "isIn", "(II)Z"⟩
def RX6 : String := "PianoCrewsModel"
def TX6 : u_T := fun k => match k with
  | 0 => ("PianoCrewsModel", "thrown", "I", false)
  | 1 => ("PianoCrewsModel", "s", "[I", true)
  | 2 => ("PianoCrewsModel", "aside", "[I", true)
  | 3 => ("PianoCrewsModel", "undos", "[I", true)
  | 4 => ("PianoCrewsModel", "undoMany", "I", false)
  | 5 => ("PianoCrewsModel", "slots", "[I", true)
  | 6 => ("PianoCrewsModel", "hasSlot", "[Z", true)
  | 7 => ("PianoCrewsModel", "pad", "[I", true)
  | 8 => ("PianoCrewsModel", "length", "I", false)
  | 9 => ("PianoCrewsModel", "at", "I", false)
  | 10 => ("PianoCrewsModel", "isWell", "Z", false)
  | 11 => ("PianoCrewsModel", "read", "[I", true)
  | _ => ("PianoCrewsModel", "readMany", "I", false)
def tyX6 : Nat → FieldType := fun k => match k with
  | 0 => .int
  | 1 => .array .int
  | 2 => .array .int
  | 3 => .array .int
  | 4 => .int
  | 5 => .array .int
  | 6 => .array .boolean
  | 7 => .array .int
  | 8 => .int
  | 9 => .int
  | 10 => .boolean
  | 11 => .array .int
  | _ => .int
theorem nmX6 : ∀ a, a < 13 → ∀ b, b < 13 → a ≠ b → (TX6 a).2.1 ≠ (TX6 b).2.1 := by decide +kernel
theorem tyX6_ok : ∀ k, k < 13 → parseFieldDescriptor (TX6 k).2.2.1 = some (tyX6 k) := by decide +kernel
abbrev cX6_init : ByteArray := prog_8_method_1_code
def yX6_init : MethodName := ⟨RX6, "<init>", "()V"⟩
abbrev cX6_in : ByteArray := prog_8_method_3_code
def yX6_in : MethodName := ⟨RX6, "in", "(III)Z"⟩
abbrev cX6_ones : ByteArray := prog_8_method_4_code
def yX6_ones : MethodName := ⟨RX6, "ones", "(I)I"⟩
abbrev cX6_ofPerson : ByteArray := prog_8_method_5_code
def yX6_ofPerson : MethodName := ⟨RX6, "ofPerson", "(II)I"⟩
abbrev cX6_layPerson : ByteArray := prog_8_method_6_code
def yX6_layPerson : MethodName := ⟨RX6, "layPerson", "(III)V"⟩
abbrev cX6_ofJobs : ByteArray := prog_8_method_7_code
def yX6_ofJobs : MethodName := ⟨RX6, "ofJobs", "(II)I"⟩
abbrev cX6_lay : ByteArray := prog_8_method_8_code
def yX6_lay : MethodName := ⟨RX6, "lay", "(III)V"⟩
abbrev cX6_isJob : ByteArray := prog_8_method_9_code
def yX6_isJob : MethodName := ⟨RX6, "isJob", "(I)Z"⟩
abbrev cX6_isStraps : ByteArray := prog_8_method_10_code
def yX6_isStraps : MethodName := ⟨RX6, "isStraps", "(I)Z"⟩
abbrev cX6_records : ByteArray := prog_8_method_11_code
def yX6_records : MethodName := ⟨RX6, "records", "()V"⟩
abbrev cX6_putAside : ByteArray := prog_8_method_12_code
def yX6_putAside : MethodName := ⟨RX6, "putAside", "()V"⟩
abbrev cX6_takeBack : ByteArray := prog_8_method_13_code
def yX6_takeBack : MethodName := ⟨RX6, "takeBack", "()V"⟩
abbrev cX6_loadBy : ByteArray := prog_8_method_14_code
def yX6_loadBy : MethodName := ⟨RX6, "loadBy", "(II)I"⟩
abbrev cX6_busy : ByteArray := prog_8_method_15_code
def yX6_busy : MethodName := ⟨RX6, "busy", "()I"⟩
abbrev cX6_freeStraps : ByteArray := prog_8_method_16_code
def yX6_freeStraps : MethodName := ⟨RX6, "freeStraps", "(I)I"⟩
abbrev cX6_strength : ByteArray := prog_8_method_17_code
def yX6_strength : MethodName := ⟨RX6, "strength", "(I)I"⟩
abbrev cX6_canHave : ByteArray := prog_8_method_18_code
def yX6_canHave : MethodName := ⟨RX6, "canHave", "(II)Z"⟩
abbrev cX6_reason : ByteArray := prog_8_method_19_code
def yX6_reason : MethodName := ⟨RX6, "reason", "(III)I"⟩
abbrev cX6_strongestBut : ByteArray := prog_8_method_20_code
def yX6_strongestBut : MethodName := ⟨RX6, "strongestBut", "(I)I"⟩
abbrev cX6_crewFor : ByteArray := prog_8_method_21_code
def yX6_crewFor : MethodName := ⟨RX6, "crewFor", "(II)I"⟩
abbrev cX6_strapsFor : ByteArray := prog_8_method_22_code
def yX6_strapsFor : MethodName := ⟨RX6, "strapsFor", "(I)I"⟩
abbrev cX6_begins : ByteArray := prog_8_method_23_code
def yX6_begins : MethodName := ⟨RX6, "begins", "(III)I"⟩
abbrev cX6_isAhead : ByteArray := prog_8_method_24_code
def yX6_isAhead : MethodName := ⟨RX6, "isAhead", "(II)Z"⟩
abbrev cX6_waitingAt : ByteArray := prog_8_method_25_code
def yX6_waitingAt : MethodName := ⟨RX6, "waitingAt", "(II)I"⟩
abbrev cX6_assigns : ByteArray := prog_8_method_26_code
def yX6_assigns : MethodName := ⟨RX6, "assigns", "()I"⟩
abbrev cX6_rest : ByteArray := prog_8_method_27_code
def yX6_rest : MethodName := ⟨RX6, "rest", "(I)V"⟩
abbrev cX6_carry : ByteArray := prog_8_method_28_code
def yX6_carry : MethodName := ⟨RX6, "carry", "(I)V"⟩
abbrev cX6_ends : ByteArray := prog_8_method_29_code
def yX6_ends : MethodName := ⟨RX6, "ends", "(I)V"⟩
abbrev cX6_works : ByteArray := prog_8_method_30_code
def yX6_works : MethodName := ⟨RX6, "works", "(I)Z"⟩
abbrev cX6_goesBy : ByteArray := prog_8_method_31_code
def yX6_goesBy : MethodName := ⟨RX6, "goesBy", "()I"⟩
abbrev cX6_leastOf : ByteArray := prog_8_method_32_code
def yX6_leastOf : MethodName := ⟨RX6, "leastOf", "(I)I"⟩
abbrev cX6_mostOf : ByteArray := prog_8_method_33_code
def yX6_mostOf : MethodName := ⟨RX6, "mostOf", "(I)I"⟩
abbrev cX6_set : ByteArray := prog_8_method_34_code
def yX6_set : MethodName := ⟨RX6, "set", "(II)I"⟩
abbrev cX6_refusesPerson : ByteArray := prog_8_method_35_code
def yX6_refusesPerson : MethodName := ⟨RX6, "refusesPerson", "(I)I"⟩
abbrev cX6_addsPerson : ByteArray := prog_8_method_36_code
def yX6_addsPerson : MethodName := ⟨RX6, "addsPerson", "(I)I"⟩
abbrev cX6_person : ByteArray := prog_8_method_37_code
def yX6_person : MethodName := ⟨RX6, "person", "(I)I"⟩
abbrev cX6_buy : ByteArray := prog_8_method_38_code
def yX6_buy : MethodName := ⟨RX6, "buy", "(I)I"⟩
abbrev cX6_refusesJob : ByteArray := prog_8_method_39_code
def yX6_refusesJob : MethodName := ⟨RX6, "refusesJob", "(IIIII)I"⟩
abbrev cX6_addsJob : ByteArray := prog_8_method_40_code
def yX6_addsJob : MethodName := ⟨RX6, "addsJob", "(IIIII)I"⟩
abbrev cX6_job : ByteArray := prog_8_method_41_code
def yX6_job : MethodName := ⟨RX6, "job", "(IIIII)I"⟩
abbrev cX6_refusesBegin : ByteArray := prog_8_method_42_code
def yX6_refusesBegin : MethodName := ⟨RX6, "refusesBegin", "(III)I"⟩
abbrev cX6_begin : ByteArray := prog_8_method_43_code
def yX6_begin : MethodName := ⟨RX6, "begin", "(III)I"⟩
abbrev cX6_assign : ByteArray := prog_8_method_44_code
def yX6_assign : MethodName := ⟨RX6, "assign", "()I"⟩
abbrev cX6_refusesDelay : ByteArray := prog_8_method_45_code
def yX6_refusesDelay : MethodName := ⟨RX6, "refusesDelay", "(II)I"⟩
abbrev cX6_delays : ByteArray := prog_8_method_46_code
def yX6_delays : MethodName := ⟨RX6, "delays", "(II)I"⟩
abbrev cX6_delay : ByteArray := prog_8_method_47_code
def yX6_delay : MethodName := ⟨RX6, "delay", "(II)I"⟩
abbrev cX6_refusesCall : ByteArray := prog_8_method_48_code
def yX6_refusesCall : MethodName := ⟨RX6, "refusesCall", "(I)I"⟩
abbrev cX6_callsOff : ByteArray := prog_8_method_49_code
def yX6_callsOff : MethodName := ⟨RX6, "callsOff", "(I)I"⟩
abbrev cX6_callOff : ByteArray := prog_8_method_50_code
def yX6_callOff : MethodName := ⟨RX6, "callOff", "(I)I"⟩
abbrev cX6_refusesHours : ByteArray := prog_8_method_51_code
def yX6_refusesHours : MethodName := ⟨RX6, "refusesHours", "(I)I"⟩
abbrev cX6_passes : ByteArray := prog_8_method_52_code
def yX6_passes : MethodName := ⟨RX6, "passes", "(I)I"⟩
abbrev cX6_pass : ByteArray := prog_8_method_53_code
def yX6_pass : MethodName := ⟨RX6, "pass", "(I)I"⟩
abbrev cX6_jobOf : ByteArray := prog_8_method_54_code
def yX6_jobOf : MethodName := ⟨RX6, "jobOf", "(I)I"⟩
abbrev cX6_of : ByteArray := prog_8_method_55_code
def yX6_of : MethodName := ⟨RX6, "of", "(II)I"⟩
abbrev cX6_isLate : ByteArray := prog_8_method_56_code
def yX6_isLate : MethodName := ⟨RX6, "isLate", "(I)Z"⟩
abbrev cX6_ofJob : ByteArray := prog_8_method_57_code
def yX6_ofJob : MethodName := ⟨RX6, "ofJob", "(II)I"⟩
abbrev cX6_waiting : ByteArray := prog_8_method_58_code
def yX6_waiting : MethodName := ⟨RX6, "waiting", "(I)I"⟩
abbrev cX6_straps : ByteArray := prog_8_method_59_code
def yX6_straps : MethodName := ⟨RX6, "straps", "(II)I"⟩
abbrev cX6_jobsThat : ByteArray := prog_8_method_60_code
def yX6_jobsThat : MethodName := ⟨RX6, "jobsThat", "(I)I"⟩
abbrev cX6_count : ByteArray := prog_8_method_61_code
def yX6_count : MethodName := ⟨RX6, "count", "(I)I"⟩
abbrev cX6_why : ByteArray := prog_8_method_62_code
def yX6_why : MethodName := ⟨RX6, "why", "(III)I"⟩
abbrev cX6_crew : ByteArray := prog_8_method_63_code
def yX6_crew : MethodName := ⟨RX6, "crew", "(II)I"⟩
abbrev cX6_bestStraps : ByteArray := prog_8_method_64_code
def yX6_bestStraps : MethodName := ⟨RX6, "bestStraps", "(I)I"⟩
abbrev cX6_doneIn : ByteArray := prog_8_method_65_code
def yX6_doneIn : MethodName := ⟨RX6, "doneIn", "(I)I"⟩
abbrev cX6_ifAssigned : ByteArray := prog_8_method_66_code
def yX6_ifAssigned : MethodName := ⟨RX6, "ifAssigned", "()I"⟩
abbrev cX6_put : ByteArray := prog_8_method_67_code
def yX6_put : MethodName := ⟨RX6, "put", "(J)I"⟩
abbrev cX6_wipe : ByteArray := prog_8_method_68_code
def yX6_wipe : MethodName := ⟨RX6, "wipe", "()I"⟩
abbrev cX6_letter : ByteArray := prog_8_method_69_code
def yX6_letter : MethodName := ⟨RX6, "letter", "()I"⟩
abbrev cX6_wants : ByteArray := prog_8_method_70_code
def yX6_wants : MethodName := ⟨RX6, "wants", "(I)V"⟩
abbrev cX6_digit : ByteArray := prog_8_method_71_code
def yX6_digit : MethodName := ⟨RX6, "digit", "()I"⟩
abbrev cX6_number : ByteArray := prog_8_method_72_code
def yX6_number : MethodName := ⟨RX6, "number", "()I"⟩
abbrev cX6_readsCrew : ByteArray := prog_8_method_73_code
def yX6_readsCrew : MethodName := ⟨RX6, "readsCrew", "(I)V"⟩
abbrev cX6_readsJob : ByteArray := prog_8_method_74_code
def yX6_readsJob : MethodName := ⟨RX6, "readsJob", "(I)V"⟩
abbrev cX6_isOrder : ByteArray := prog_8_method_75_code
def yX6_isOrder : MethodName := ⟨RX6, "isOrder", "(I)Z"⟩
abbrev cX6_readsOrder : ByteArray := prog_8_method_76_code
def yX6_readsOrder : MethodName := ⟨RX6, "readsOrder", "()V"⟩
abbrev cX6_reads : ByteArray := prog_8_method_77_code
def yX6_reads : MethodName := ⟨RX6, "reads", "()I"⟩
abbrev cX6_fault : ByteArray := prog_8_method_78_code
def yX6_fault : MethodName := ⟨RX6, "fault", "()I"⟩
abbrev cX6_refuses : ByteArray := prog_8_method_79_code
def yX6_refuses : MethodName := ⟨RX6, "refuses", "(I)I"⟩
abbrev cX6_does : ByteArray := prog_8_method_80_code
def yX6_does : MethodName := ⟨RX6, "does", "(I)V"⟩
abbrev cX6_carryOut : ByteArray := prog_8_method_81_code
def yX6_carryOut : MethodName := ⟨RX6, "carryOut", "()I"⟩
abbrev cX6_undo : ByteArray := prog_8_method_82_code
def yX6_undo : MethodName := ⟨RX6, "undo", "()I"⟩
abbrev cX6_save : ByteArray := prog_8_method_83_code
def yX6_save : MethodName := ⟨RX6, "save", "(I)I"⟩
abbrev cX6_restore : ByteArray := prog_8_method_84_code
def yX6_restore : MethodName := ⟨RX6, "restore", "(I)I"⟩
def RJ11 : String := "java/lang/Character"
def TJ11 : u_T := fun k => match k with
  | _ => ("", "", "", false)
def tyJ11 : Nat → FieldType := fun k => match k with
  | _ => .int
theorem nmJ11 : ∀ a, a < 0 → ∀ b, b < 0 → a ≠ b → (TJ11 a).2.1 ≠ (TJ11 b).2.1 := by decide +kernel
theorem tyJ11_ok : ∀ k, k < 0 → parseFieldDescriptor (TJ11 k).2.2.1 = some (tyJ11 k) := by decide +kernel
abbrev cJ11_isValidCodePoint_9a6ad : ByteArray := prog_9_method_11_code
def yJ11_isValidCodePoint_9a6ad : MethodName := ⟨RJ11, "isValidCodePoint", "(I)Z"⟩
abbrev cJ11_highSurrogate_5068e : ByteArray := prog_9_method_28_code
def yJ11_highSurrogate_5068e : MethodName := ⟨RJ11, "highSurrogate", "(I)C"⟩
abbrev cJ11_lowSurrogate_5068e : ByteArray := prog_9_method_29_code
def yJ11_lowSurrogate_5068e : MethodName := ⟨RJ11, "lowSurrogate", "(I)C"⟩
def RJ6 : String := "java/lang/Integer"
def TJ6 : u_T := fun k => match k with
  | _ => ("", "", "", false)
def tyJ6 : Nat → FieldType := fun k => match k with
  | _ => .int
theorem nmJ6 : ∀ a, a < 0 → ∀ b, b < 0 → a ≠ b → (TJ6 a).2.1 ≠ (TJ6 b).2.1 := by decide +kernel
theorem tyJ6_ok : ∀ k, k < 0 → parseFieldDescriptor (TJ6 k).2.2.1 = some (tyJ6 k) := by decide +kernel
abbrev cJ6_bitCount_0f7a4 : ByteArray := prog_10_method_49_code
def yJ6_bitCount_0f7a4 : MethodName := ⟨RJ6, "bitCount", "(I)I"⟩
def RJ9 : String := "java/lang/Math"
def TJ9 : u_T := fun k => match k with
  | _ => ("", "", "", false)
def tyJ9 : Nat → FieldType := fun k => match k with
  | _ => .int
theorem nmJ9 : ∀ a, a < 0 → ∀ b, b < 0 → a ≠ b → (TJ9 a).2.1 ≠ (TJ9 b).2.1 := by decide +kernel
theorem tyJ9_ok : ∀ k, k < 0 → parseFieldDescriptor (TJ9 k).2.2.1 = some (tyJ9 k) := by decide +kernel
abbrev cJ9_max_7cf53 : ByteArray := prog_11_method_65_code
def yJ9_max_7cf53 : MethodName := ⟨RJ9, "max", "(II)I"⟩
abbrev cJ9_min_7cf53 : ByteArray := prog_11_method_69_code
def yJ9_min_7cf53 : MethodName := ⟨RJ9, "min", "(II)I"⟩
def RJ0 : String := "java/lang/String"
def TJ0 : u_T := fun k => match k with
  | _ => ("", "", "", false)
def tyJ0 : Nat → FieldType := fun k => match k with
  | _ => .int
theorem nmJ0 : ∀ a, a < 0 → ∀ b, b < 0 → a ≠ b → (TJ0 a).2.1 ≠ (TJ0 b).2.1 := by decide +kernel
theorem tyJ0_ok : ∀ k, k < 0 → parseFieldDescriptor (TJ0 k).2.2.1 = some (tyJ0 k) := by decide +kernel
abbrev cJ0_length_8abf5 : ByteArray := prog_12_method_54_code
def yJ0_length_8abf5 : MethodName := ⟨RJ0, "length", "()I"⟩
abbrev cJ0_charAt_5068e : ByteArray := prog_12_method_56_code
def yJ0_charAt_5068e : MethodName := ⟨RJ0, "charAt", "(I)C"⟩
abbrev cJ0_indexOf_0f7a4 : ByteArray := prog_12_method_79_code
def yJ0_indexOf_0f7a4 : MethodName := ⟨RJ0, "indexOf", "(I)I"⟩
abbrev cJ0_indexOf_7cf53 : ByteArray := prog_12_method_80_code
def yJ0_indexOf_7cf53 : MethodName := ⟨RJ0, "indexOf", "(II)I"⟩
abbrev cJ0_coder_7d493 : ByteArray := prog_12_method_152_code
def yJ0_coder_7d493 : MethodName := ⟨RJ0, "coder", "()B"⟩
abbrev cJ0_isLatin1_aae02 : ByteArray := prog_12_method_154_code
def yJ0_isLatin1_aae02 : MethodName := ⟨RJ0, "isLatin1", "()Z"⟩
abbrev cJ0_checkIndex_df160 : ByteArray := prog_12_method_155_code
def yJ0_checkIndex_df160 : MethodName := ⟨RJ0, "checkIndex", "(II)V"⟩
abbrev cJ0_checkBoundsBeginEnd_23922 : ByteArray := prog_12_method_158_code
def yJ0_checkBoundsBeginEnd_23922 : MethodName := ⟨RJ0, "checkBoundsBeginEnd", "(III)V"⟩
def RJ1 : String := "java/lang/StringLatin1"
def TJ1 : u_T := fun k => match k with
  | _ => ("", "", "", false)
def tyJ1 : Nat → FieldType := fun k => match k with
  | _ => .int
theorem nmJ1 : ∀ a, a < 0 → ∀ b, b < 0 → a ≠ b → (TJ1 a).2.1 ≠ (TJ1 b).2.1 := by decide +kernel
theorem tyJ1_ok : ∀ k, k < 0 → parseFieldDescriptor (TJ1 k).2.2.1 = some (tyJ1 k) := by decide +kernel
abbrev cJ1_charAt_3b067 : ByteArray := prog_13_method_2_code
def yJ1_charAt_3b067 : MethodName := ⟨RJ1, "charAt", "([BI)C"⟩
abbrev cJ1_canEncode_9a6ad : ByteArray := prog_13_method_4_code
def yJ1_canEncode_9a6ad : MethodName := ⟨RJ1, "canEncode", "(I)Z"⟩
abbrev cJ1_indexOf_4cfef : ByteArray := prog_13_method_22_code
def yJ1_indexOf_4cfef : MethodName := ⟨RJ1, "indexOf", "([BIII)I"⟩
abbrev cJ1_indexOfChar_4cfef : ByteArray := prog_13_method_23_code
def yJ1_indexOfChar_4cfef : MethodName := ⟨RJ1, "indexOfChar", "([BIII)I"⟩
def RJ2 : String := "java/lang/StringUTF16"
def TJ2 : u_T := fun k => match k with
  | _ => ("", "", "", false)
def tyJ2 : Nat → FieldType := fun k => match k with
  | _ => .int
theorem nmJ2 : ∀ a, a < 0 → ∀ b, b < 0 → a ≠ b → (TJ2 a).2.1 ≠ (TJ2 b).2.1 := by decide +kernel
theorem tyJ2_ok : ∀ k, k < 0 → parseFieldDescriptor (TJ2 k).2.2.1 = some (tyJ2 k) := by decide +kernel
abbrev cJ2_getChar_3b067 : ByteArray := prog_14_method_5_code
def yJ2_getChar_3b067 : MethodName := ⟨RJ2, "getChar", "([BI)C"⟩
abbrev cJ2_length_9d52b : ByteArray := prog_14_method_6_code
def yJ2_length_9d52b : MethodName := ⟨RJ2, "length", "([B)I"⟩
abbrev cJ2_indexOf_4cfef : ByteArray := prog_14_method_40_code
def yJ2_indexOf_4cfef : MethodName := ⟨RJ2, "indexOf", "([BIII)I"⟩
abbrev cJ2_indexOfChar_4cfef : ByteArray := prog_14_method_47_code
def yJ2_indexOfChar_4cfef : MethodName := ⟨RJ2, "indexOfChar", "([BIII)I"⟩
abbrev cJ2_indexOfCharUnsafe_4cfef : ByteArray := prog_14_method_48_code
def yJ2_indexOfCharUnsafe_4cfef : MethodName := ⟨RJ2, "indexOfCharUnsafe", "([BIII)I"⟩
abbrev cJ2_indexOfSupplementary_4cfef : ByteArray := prog_14_method_49_code
def yJ2_indexOfSupplementary_4cfef : MethodName := ⟨RJ2, "indexOfSupplementary", "([BIII)I"⟩
abbrev cJ2_charAt_3b067 : ByteArray := prog_14_method_83_code
def yJ2_charAt_3b067 : MethodName := ⟨RJ2, "charAt", "([BI)C"⟩
abbrev cJ2_checkIndex_2214a : ByteArray := prog_14_method_91_code
def yJ2_checkIndex_2214a : MethodName := ⟨RJ2, "checkIndex", "(I[B)V"⟩
abbrev cJ2_checkBoundsBeginEnd_d044e : ByteArray := prog_14_method_93_code
def yJ2_checkBoundsBeginEnd_d044e : MethodName := ⟨RJ2, "checkBoundsBeginEnd", "(II[B)V"⟩
def RJ10 : String := "java/lang/System"
def TJ10 : u_T := fun k => match k with
  | _ => ("", "", "", false)
def tyJ10 : Nat → FieldType := fun k => match k with
  | _ => .int
theorem nmJ10 : ∀ a, a < 0 → ∀ b, b < 0 → a ≠ b → (TJ10 a).2.1 ≠ (TJ10 b).2.1 := by decide +kernel
theorem tyJ10_ok : ∀ k, k < 0 → parseFieldDescriptor (TJ10 k).2.2.1 = some (tyJ10 k) := by decide +kernel
def RJ3 : String := "jdk/internal/util/Preconditions"
def TJ3 : u_T := fun k => match k with
  | _ => ("", "", "", false)
def tyJ3 : Nat → FieldType := fun k => match k with
  | _ => .int
theorem nmJ3 : ∀ a, a < 0 → ∀ b, b < 0 → a ≠ b → (TJ3 a).2.1 ≠ (TJ3 b).2.1 := by decide +kernel
theorem tyJ3_ok : ∀ k, k < 0 → parseFieldDescriptor (TJ3 k).2.2.1 = some (tyJ3 k) := by decide +kernel
abbrev cJ3_checkIndex_8e157 : ByteArray := prog_16_method_11_code
def yJ3_checkIndex_8e157 : MethodName := ⟨RJ3, "checkIndex", "(IILjava/util/function/BiFunction;)I"⟩
abbrev cJ3_checkFromToIndex_8c36e : ByteArray := prog_16_method_12_code
def yJ3_checkFromToIndex_8c36e : MethodName := ⟨RJ3, "checkFromToIndex", "(IIILjava/util/function/BiFunction;)I"⟩
def RL : String := "PianoCrewsLaw"
abbrev cL_law : ByteArray := code
def yL_law : MethodName := ⟨RL, "law", "([I)Z"⟩
abbrev vwCl : List vw_C := [(RX0, TX0, 10), (RX1, TX1, 3), (RX2, TX2, 12), (RX3, TX3, 8), (RX4, TX4, 5), (RX5, TX5, 6), (RX6, TX6, 13)]
end
section
theorem dX0_init_0 : decode cX0_init 0 = .ok (.aload_n 0, 1) := by decide +kernel
theorem dX0_init_1 : decode cX0_init 1 = .ok (.invokespecial 3, 3) := by decide +kernel
theorem dX0_init_4 : decode cX0_init 4 = .ok (.aload_n 0, 1) := by decide +kernel
theorem dX0_init_5 : decode cX0_init 5 = .ok (.iconst 4, 1) := by decide +kernel
theorem dX0_init_6 : decode cX0_init 6 = .ok (.newarray .int, 2) := by decide +kernel
theorem dX0_init_8 : decode cX0_init 8 = .ok (.dup, 1) := by decide +kernel
theorem dX0_init_9 : decode cX0_init 9 = .ok (.iconst 0, 1) := by decide +kernel
theorem dX0_init_10 : decode cX0_init 10 = .ok (.bipush 10, 2) := by decide +kernel
theorem dX0_init_12 : decode cX0_init 12 = .ok (.iastore, 1) := by decide +kernel
theorem dX0_init_13 : decode cX0_init 13 = .ok (.dup, 1) := by decide +kernel
theorem dX0_init_14 : decode cX0_init 14 = .ok (.iconst 1, 1) := by decide +kernel
theorem dX0_init_15 : decode cX0_init 15 = .ok (.iconst 5, 1) := by decide +kernel
theorem dX0_init_16 : decode cX0_init 16 = .ok (.iastore, 1) := by decide +kernel
theorem dX0_init_17 : decode cX0_init 17 = .ok (.dup, 1) := by decide +kernel
theorem dX0_init_18 : decode cX0_init 18 = .ok (.iconst 2, 1) := by decide +kernel
theorem dX0_init_19 : decode cX0_init 19 = .ok (.iconst 4, 1) := by decide +kernel
theorem dX0_init_20 : decode cX0_init 20 = .ok (.iastore, 1) := by decide +kernel
theorem dX0_init_21 : decode cX0_init 21 = .ok (.dup, 1) := by decide +kernel
theorem dX0_init_22 : decode cX0_init 22 = .ok (.iconst 3, 1) := by decide +kernel
theorem dX0_init_23 : decode cX0_init 23 = .ok (.iconst 4, 1) := by decide +kernel
theorem dX0_init_24 : decode cX0_init 24 = .ok (.iastore, 1) := by decide +kernel
theorem dX0_init_25 : decode cX0_init 25 = .ok (.putfield 9, 3) := by decide +kernel
theorem dX0_init_28 : decode cX0_init 28 = .ok (.aload_n 0, 1) := by decide +kernel
theorem dX0_init_29 : decode cX0_init 29 = .ok (.iconst 3, 1) := by decide +kernel
theorem dX0_init_30 : decode cX0_init 30 = .ok (.newarray .int, 2) := by decide +kernel
theorem dX0_init_32 : decode cX0_init 32 = .ok (.dup, 1) := by decide +kernel
theorem dX0_init_33 : decode cX0_init 33 = .ok (.iconst 0, 1) := by decide +kernel
theorem dX0_init_34 : decode cX0_init 34 = .ok (.iconst 2, 1) := by decide +kernel
theorem dX0_init_35 : decode cX0_init 35 = .ok (.iastore, 1) := by decide +kernel
theorem dX0_init_36 : decode cX0_init 36 = .ok (.dup, 1) := by decide +kernel
theorem dX0_init_37 : decode cX0_init 37 = .ok (.iconst 1, 1) := by decide +kernel
theorem dX0_init_38 : decode cX0_init 38 = .ok (.iconst 2, 1) := by decide +kernel
theorem dX0_init_39 : decode cX0_init 39 = .ok (.iastore, 1) := by decide +kernel
theorem dX0_init_40 : decode cX0_init 40 = .ok (.dup, 1) := by decide +kernel
theorem dX0_init_41 : decode cX0_init 41 = .ok (.iconst 2, 1) := by decide +kernel
theorem dX0_init_42 : decode cX0_init 42 = .ok (.iconst 2, 1) := by decide +kernel
theorem dX0_init_43 : decode cX0_init 43 = .ok (.iastore, 1) := by decide +kernel
theorem dX0_init_44 : decode cX0_init 44 = .ok (.putfield 15, 3) := by decide +kernel
theorem dX0_init_47 : decode cX0_init 47 = .ok (.aload_n 0, 1) := by decide +kernel
theorem dX0_init_48 : decode cX0_init 48 = .ok (.iconst 3, 1) := by decide +kernel
theorem dX0_init_49 : decode cX0_init 49 = .ok (.newarray .int, 2) := by decide +kernel
theorem dX0_init_51 : decode cX0_init 51 = .ok (.dup, 1) := by decide +kernel
theorem dX0_init_52 : decode cX0_init 52 = .ok (.iconst 0, 1) := by decide +kernel
theorem dX0_init_53 : decode cX0_init 53 = .ok (.iconst 2, 1) := by decide +kernel
theorem dX0_init_54 : decode cX0_init 54 = .ok (.iastore, 1) := by decide +kernel
theorem dX0_init_55 : decode cX0_init 55 = .ok (.dup, 1) := by decide +kernel
theorem dX0_init_56 : decode cX0_init 56 = .ok (.iconst 1, 1) := by decide +kernel
theorem dX0_init_57 : decode cX0_init 57 = .ok (.iconst 2, 1) := by decide +kernel
theorem dX0_init_58 : decode cX0_init 58 = .ok (.iastore, 1) := by decide +kernel
theorem dX0_init_59 : decode cX0_init 59 = .ok (.dup, 1) := by decide +kernel
theorem dX0_init_60 : decode cX0_init 60 = .ok (.iconst 2, 1) := by decide +kernel
theorem dX0_init_61 : decode cX0_init 61 = .ok (.iconst 2, 1) := by decide +kernel
theorem dX0_init_62 : decode cX0_init 62 = .ok (.iastore, 1) := by decide +kernel
theorem dX0_init_63 : decode cX0_init 63 = .ok (.putfield 18, 3) := by decide +kernel
theorem dX0_init_66 : decode cX0_init 66 = .ok (.aload_n 0, 1) := by decide +kernel
theorem dX0_init_67 : decode cX0_init 67 = .ok (.bipush 10, 2) := by decide +kernel
theorem dX0_init_69 : decode cX0_init 69 = .ok (.anewarray 21, 3) := by decide +kernel
theorem dX0_init_72 : decode cX0_init 72 = .ok (.putfield 23, 3) := by decide +kernel
theorem dX0_init_75 : decode cX0_init 75 = .ok (.aload_n 0, 1) := by decide +kernel
theorem dX0_init_76 : decode cX0_init 76 = .ok (.bipush 16, 2) := by decide +kernel
theorem dX0_init_78 : decode cX0_init 78 = .ok (.anewarray 27, 3) := by decide +kernel
theorem dX0_init_81 : decode cX0_init 81 = .ok (.putfield 29, 3) := by decide +kernel
theorem dX0_init_84 : decode cX0_init 84 = .ok (.iconst 0, 1) := by decide +kernel
theorem dX0_init_85 : decode cX0_init 85 = .ok (.istore_n 1, 1) := by decide +kernel
theorem dX0_init_86 : decode cX0_init 86 = .ok (.iload_n 1, 1) := by decide +kernel
theorem dX0_init_87 : decode cX0_init 87 = .ok (.bipush 10, 2) := by decide +kernel
theorem dX0_init_89 : decode cX0_init 89 = .ok (.if_icmp .ge 22, 3) := by decide +kernel
theorem dX0_init_92 : decode cX0_init 92 = .ok (.aload_n 0, 1) := by decide +kernel
theorem dX0_init_93 : decode cX0_init 93 = .ok (.getfield 23, 3) := by decide +kernel
theorem dX0_init_96 : decode cX0_init 96 = .ok (.iload_n 1, 1) := by decide +kernel
theorem dX0_init_97 : decode cX0_init 97 = .ok (.new 21, 3) := by decide +kernel
theorem dX0_init_100 : decode cX0_init 100 = .ok (.dup, 1) := by decide +kernel
theorem dX0_init_101 : decode cX0_init 101 = .ok (.invokespecial 33, 3) := by decide +kernel
theorem dX0_init_104 : decode cX0_init 104 = .ok (.aastore, 1) := by decide +kernel
theorem dX0_init_105 : decode cX0_init 105 = .ok (.iinc 1 1, 3) := by decide +kernel
theorem dX0_init_108 : decode cX0_init 108 = .ok (.goto (-22), 3) := by decide +kernel
theorem dX0_init_111 : decode cX0_init 111 = .ok (.iconst 0, 1) := by decide +kernel
theorem dX0_init_112 : decode cX0_init 112 = .ok (.istore_n 1, 1) := by decide +kernel
theorem dX0_init_113 : decode cX0_init 113 = .ok (.iload_n 1, 1) := by decide +kernel
theorem dX0_init_114 : decode cX0_init 114 = .ok (.bipush 16, 2) := by decide +kernel
theorem dX0_init_116 : decode cX0_init 116 = .ok (.if_icmp .ge 22, 3) := by decide +kernel
theorem dX0_init_119 : decode cX0_init 119 = .ok (.aload_n 0, 1) := by decide +kernel
theorem dX0_init_120 : decode cX0_init 120 = .ok (.getfield 29, 3) := by decide +kernel
theorem dX0_init_123 : decode cX0_init 123 = .ok (.iload_n 1, 1) := by decide +kernel
theorem dX0_init_124 : decode cX0_init 124 = .ok (.new 27, 3) := by decide +kernel
theorem dX0_init_127 : decode cX0_init 127 = .ok (.dup, 1) := by decide +kernel
theorem dX0_init_128 : decode cX0_init 128 = .ok (.invokespecial 34, 3) := by decide +kernel
theorem dX0_init_131 : decode cX0_init 131 = .ok (.aastore, 1) := by decide +kernel
theorem dX0_init_132 : decode cX0_init 132 = .ok (.iinc 1 1, 3) := by decide +kernel
theorem dX0_init_135 : decode cX0_init 135 = .ok (.goto (-22), 3) := by decide +kernel
theorem dX0_init_138 : decode cX0_init 138 = .ok (.return_, 1) := by decide +kernel
theorem dX0_copyFrom_0 : decode cX0_copyFrom 0 = .ok (.aload_n 1, 1) := by decide +kernel
theorem dX0_copyFrom_1 : decode cX0_copyFrom 1 = .ok (.getfield 9, 3) := by decide +kernel
theorem dX0_copyFrom_4 : decode cX0_copyFrom 4 = .ok (.iconst 0, 1) := by decide +kernel
theorem dX0_copyFrom_5 : decode cX0_copyFrom 5 = .ok (.aload_n 0, 1) := by decide +kernel
theorem dX0_copyFrom_6 : decode cX0_copyFrom 6 = .ok (.getfield 9, 3) := by decide +kernel
theorem dX0_copyFrom_9 : decode cX0_copyFrom 9 = .ok (.iconst 0, 1) := by decide +kernel
theorem dX0_copyFrom_10 : decode cX0_copyFrom 10 = .ok (.aload_n 0, 1) := by decide +kernel
theorem dX0_copyFrom_11 : decode cX0_copyFrom 11 = .ok (.getfield 9, 3) := by decide +kernel
theorem dX0_copyFrom_14 : decode cX0_copyFrom 14 = .ok (.arraylength, 1) := by decide +kernel
theorem dX0_copyFrom_15 : decode cX0_copyFrom 15 = .ok (.invokestatic 35, 3) := by decide +kernel
theorem dX0_copyFrom_18 : decode cX0_copyFrom 18 = .ok (.aload_n 1, 1) := by decide +kernel
theorem dX0_copyFrom_19 : decode cX0_copyFrom 19 = .ok (.getfield 15, 3) := by decide +kernel
theorem dX0_copyFrom_22 : decode cX0_copyFrom 22 = .ok (.iconst 0, 1) := by decide +kernel
theorem dX0_copyFrom_23 : decode cX0_copyFrom 23 = .ok (.aload_n 0, 1) := by decide +kernel
theorem dX0_copyFrom_24 : decode cX0_copyFrom 24 = .ok (.getfield 15, 3) := by decide +kernel
theorem dX0_copyFrom_27 : decode cX0_copyFrom 27 = .ok (.iconst 0, 1) := by decide +kernel
theorem dX0_copyFrom_28 : decode cX0_copyFrom 28 = .ok (.iconst 3, 1) := by decide +kernel
theorem dX0_copyFrom_29 : decode cX0_copyFrom 29 = .ok (.invokestatic 35, 3) := by decide +kernel
theorem dX0_copyFrom_32 : decode cX0_copyFrom 32 = .ok (.aload_n 1, 1) := by decide +kernel
theorem dX0_copyFrom_33 : decode cX0_copyFrom 33 = .ok (.getfield 18, 3) := by decide +kernel
theorem dX0_copyFrom_36 : decode cX0_copyFrom 36 = .ok (.iconst 0, 1) := by decide +kernel
theorem dX0_copyFrom_37 : decode cX0_copyFrom 37 = .ok (.aload_n 0, 1) := by decide +kernel
theorem dX0_copyFrom_38 : decode cX0_copyFrom 38 = .ok (.getfield 18, 3) := by decide +kernel
theorem dX0_copyFrom_41 : decode cX0_copyFrom 41 = .ok (.iconst 0, 1) := by decide +kernel
theorem dX0_copyFrom_42 : decode cX0_copyFrom 42 = .ok (.iconst 3, 1) := by decide +kernel
theorem dX0_copyFrom_43 : decode cX0_copyFrom 43 = .ok (.invokestatic 35, 3) := by decide +kernel
theorem dX0_copyFrom_46 : decode cX0_copyFrom 46 = .ok (.aload_n 0, 1) := by decide +kernel
theorem dX0_copyFrom_47 : decode cX0_copyFrom 47 = .ok (.aload_n 1, 1) := by decide +kernel
theorem dX0_copyFrom_48 : decode cX0_copyFrom 48 = .ok (.getfield 41, 3) := by decide +kernel
theorem dX0_copyFrom_51 : decode cX0_copyFrom 51 = .ok (.putfield 41, 3) := by decide +kernel
theorem dX0_copyFrom_54 : decode cX0_copyFrom 54 = .ok (.aload_n 0, 1) := by decide +kernel
theorem dX0_copyFrom_55 : decode cX0_copyFrom 55 = .ok (.aload_n 1, 1) := by decide +kernel
theorem dX0_copyFrom_56 : decode cX0_copyFrom 56 = .ok (.getfield 45, 3) := by decide +kernel
theorem dX0_copyFrom_59 : decode cX0_copyFrom 59 = .ok (.putfield 45, 3) := by decide +kernel
theorem dX0_copyFrom_62 : decode cX0_copyFrom 62 = .ok (.aload_n 0, 1) := by decide +kernel
theorem dX0_copyFrom_63 : decode cX0_copyFrom 63 = .ok (.aload_n 1, 1) := by decide +kernel
theorem dX0_copyFrom_64 : decode cX0_copyFrom 64 = .ok (.getfield 48, 3) := by decide +kernel
theorem dX0_copyFrom_67 : decode cX0_copyFrom 67 = .ok (.putfield 48, 3) := by decide +kernel
theorem dX0_copyFrom_70 : decode cX0_copyFrom 70 = .ok (.aload_n 0, 1) := by decide +kernel
theorem dX0_copyFrom_71 : decode cX0_copyFrom 71 = .ok (.aload_n 1, 1) := by decide +kernel
theorem dX0_copyFrom_72 : decode cX0_copyFrom 72 = .ok (.getfield 51, 3) := by decide +kernel
theorem dX0_copyFrom_75 : decode cX0_copyFrom 75 = .ok (.putfield 51, 3) := by decide +kernel
theorem dX0_copyFrom_78 : decode cX0_copyFrom 78 = .ok (.aload_n 0, 1) := by decide +kernel
theorem dX0_copyFrom_79 : decode cX0_copyFrom 79 = .ok (.aload_n 1, 1) := by decide +kernel
theorem dX0_copyFrom_80 : decode cX0_copyFrom 80 = .ok (.getfield 54, 3) := by decide +kernel
theorem dX0_copyFrom_83 : decode cX0_copyFrom 83 = .ok (.putfield 54, 3) := by decide +kernel
theorem dX0_copyFrom_86 : decode cX0_copyFrom 86 = .ok (.iconst 0, 1) := by decide +kernel
theorem dX0_copyFrom_87 : decode cX0_copyFrom 87 = .ok (.istore_n 2, 1) := by decide +kernel
theorem dX0_copyFrom_88 : decode cX0_copyFrom 88 = .ok (.iload_n 2, 1) := by decide +kernel
theorem dX0_copyFrom_89 : decode cX0_copyFrom 89 = .ok (.aload_n 0, 1) := by decide +kernel
theorem dX0_copyFrom_90 : decode cX0_copyFrom 90 = .ok (.getfield 41, 3) := by decide +kernel
theorem dX0_copyFrom_93 : decode cX0_copyFrom 93 = .ok (.if_icmp .ge 24, 3) := by decide +kernel
theorem dX0_copyFrom_96 : decode cX0_copyFrom 96 = .ok (.aload_n 0, 1) := by decide +kernel
theorem dX0_copyFrom_97 : decode cX0_copyFrom 97 = .ok (.getfield 23, 3) := by decide +kernel
theorem dX0_copyFrom_100 : decode cX0_copyFrom 100 = .ok (.iload_n 2, 1) := by decide +kernel
theorem dX0_copyFrom_101 : decode cX0_copyFrom 101 = .ok (.aaload, 1) := by decide +kernel
theorem dX0_copyFrom_102 : decode cX0_copyFrom 102 = .ok (.aload_n 1, 1) := by decide +kernel
theorem dX0_copyFrom_103 : decode cX0_copyFrom 103 = .ok (.getfield 23, 3) := by decide +kernel
theorem dX0_copyFrom_106 : decode cX0_copyFrom 106 = .ok (.iload_n 2, 1) := by decide +kernel
theorem dX0_copyFrom_107 : decode cX0_copyFrom 107 = .ok (.aaload, 1) := by decide +kernel
theorem dX0_copyFrom_108 : decode cX0_copyFrom 108 = .ok (.invokevirtual 57, 3) := by decide +kernel
theorem dX0_copyFrom_111 : decode cX0_copyFrom 111 = .ok (.iinc 2 1, 3) := by decide +kernel
theorem dX0_copyFrom_114 : decode cX0_copyFrom 114 = .ok (.goto (-26), 3) := by decide +kernel
theorem dX0_copyFrom_117 : decode cX0_copyFrom 117 = .ok (.iconst 0, 1) := by decide +kernel
theorem dX0_copyFrom_118 : decode cX0_copyFrom 118 = .ok (.istore_n 2, 1) := by decide +kernel
theorem dX0_copyFrom_119 : decode cX0_copyFrom 119 = .ok (.iload_n 2, 1) := by decide +kernel
theorem dX0_copyFrom_120 : decode cX0_copyFrom 120 = .ok (.aload_n 0, 1) := by decide +kernel
theorem dX0_copyFrom_121 : decode cX0_copyFrom 121 = .ok (.getfield 45, 3) := by decide +kernel
theorem dX0_copyFrom_124 : decode cX0_copyFrom 124 = .ok (.if_icmp .ge 24, 3) := by decide +kernel
theorem dX0_copyFrom_127 : decode cX0_copyFrom 127 = .ok (.aload_n 0, 1) := by decide +kernel
theorem dX0_copyFrom_128 : decode cX0_copyFrom 128 = .ok (.getfield 29, 3) := by decide +kernel
theorem dX0_copyFrom_131 : decode cX0_copyFrom 131 = .ok (.iload_n 2, 1) := by decide +kernel
theorem dX0_copyFrom_132 : decode cX0_copyFrom 132 = .ok (.aaload, 1) := by decide +kernel
theorem dX0_copyFrom_133 : decode cX0_copyFrom 133 = .ok (.aload_n 1, 1) := by decide +kernel
theorem dX0_copyFrom_134 : decode cX0_copyFrom 134 = .ok (.getfield 29, 3) := by decide +kernel
theorem dX0_copyFrom_137 : decode cX0_copyFrom 137 = .ok (.iload_n 2, 1) := by decide +kernel
theorem dX0_copyFrom_138 : decode cX0_copyFrom 138 = .ok (.aaload, 1) := by decide +kernel
theorem dX0_copyFrom_139 : decode cX0_copyFrom 139 = .ok (.invokevirtual 61, 3) := by decide +kernel
theorem dX0_copyFrom_142 : decode cX0_copyFrom 142 = .ok (.iinc 2 1, 3) := by decide +kernel
theorem dX0_copyFrom_145 : decode cX0_copyFrom 145 = .ok (.goto (-26), 3) := by decide +kernel
theorem dX0_copyFrom_148 : decode cX0_copyFrom 148 = .ok (.return_, 1) := by decide +kernel
theorem dX0_hasPerson_0 : decode cX0_hasPerson 0 = .ok (.iload_n 1, 1) := by decide +kernel
theorem dX0_hasPerson_1 : decode cX0_hasPerson 1 = .ok (.ifCond .lt 15, 3) := by decide +kernel
theorem dX0_hasPerson_4 : decode cX0_hasPerson 4 = .ok (.iload_n 1, 1) := by decide +kernel
theorem dX0_hasPerson_5 : decode cX0_hasPerson 5 = .ok (.aload_n 0, 1) := by decide +kernel
theorem dX0_hasPerson_6 : decode cX0_hasPerson 6 = .ok (.getfield 41, 3) := by decide +kernel
theorem dX0_hasPerson_9 : decode cX0_hasPerson 9 = .ok (.if_icmp .ge 7, 3) := by decide +kernel
theorem dX0_hasPerson_12 : decode cX0_hasPerson 12 = .ok (.iconst 1, 1) := by decide +kernel
theorem dX0_hasPerson_13 : decode cX0_hasPerson 13 = .ok (.goto 4, 3) := by decide +kernel
theorem dX0_hasPerson_16 : decode cX0_hasPerson 16 = .ok (.iconst 0, 1) := by decide +kernel
theorem dX0_hasPerson_17 : decode cX0_hasPerson 17 = .ok (.ireturn, 1) := by decide +kernel
theorem dX0_hasJob_0 : decode cX0_hasJob 0 = .ok (.iload_n 1, 1) := by decide +kernel
theorem dX0_hasJob_1 : decode cX0_hasJob 1 = .ok (.ifCond .lt 15, 3) := by decide +kernel
theorem dX0_hasJob_4 : decode cX0_hasJob 4 = .ok (.iload_n 1, 1) := by decide +kernel
theorem dX0_hasJob_5 : decode cX0_hasJob 5 = .ok (.aload_n 0, 1) := by decide +kernel
theorem dX0_hasJob_6 : decode cX0_hasJob 6 = .ok (.getfield 45, 3) := by decide +kernel
theorem dX0_hasJob_9 : decode cX0_hasJob 9 = .ok (.if_icmp .ge 7, 3) := by decide +kernel
theorem dX0_hasJob_12 : decode cX0_hasJob 12 = .ok (.iconst 1, 1) := by decide +kernel
theorem dX0_hasJob_13 : decode cX0_hasJob 13 = .ok (.goto 4, 3) := by decide +kernel
theorem dX0_hasJob_16 : decode cX0_hasJob 16 = .ok (.iconst 0, 1) := by decide +kernel
theorem dX0_hasJob_17 : decode cX0_hasJob 17 = .ok (.ireturn, 1) := by decide +kernel
theorem dX0_changeSetting_0 : decode cX0_changeSetting 0 = .ok (.iload_n 1, 1) := by decide +kernel
theorem dX0_changeSetting_1 : decode cX0_changeSetting 1 = .ok (.iconst 0, 1) := by decide +kernel
theorem dX0_changeSetting_2 : decode cX0_changeSetting 2 = .ok (.aload_n 0, 1) := by decide +kernel
theorem dX0_changeSetting_3 : decode cX0_changeSetting 3 = .ok (.getfield 9, 3) := by decide +kernel
theorem dX0_changeSetting_6 : decode cX0_changeSetting 6 = .ok (.arraylength, 1) := by decide +kernel
theorem dX0_changeSetting_7 : decode cX0_changeSetting 7 = .ok (.iconst 1, 1) := by decide +kernel
theorem dX0_changeSetting_8 : decode cX0_changeSetting 8 = .ok (.isub, 1) := by decide +kernel
theorem dX0_changeSetting_9 : decode cX0_changeSetting 9 = .ok (.invokestatic 64, 3) := by decide +kernel
theorem dX0_changeSetting_12 : decode cX0_changeSetting 12 = .ok (.ifCond .eq 20, 3) := by decide +kernel
theorem dX0_changeSetting_15 : decode cX0_changeSetting 15 = .ok (.iload_n 2, 1) := by decide +kernel
theorem dX0_changeSetting_16 : decode cX0_changeSetting 16 = .ok (.getstatic 68, 3) := by decide +kernel
theorem dX0_changeSetting_19 : decode cX0_changeSetting 19 = .ok (.iload_n 1, 1) := by decide +kernel
theorem dX0_changeSetting_20 : decode cX0_changeSetting 20 = .ok (.iaload, 1) := by decide +kernel
theorem dX0_changeSetting_21 : decode cX0_changeSetting 21 = .ok (.getstatic 71, 3) := by decide +kernel
theorem dX0_changeSetting_24 : decode cX0_changeSetting 24 = .ok (.iload_n 1, 1) := by decide +kernel
theorem dX0_changeSetting_25 : decode cX0_changeSetting 25 = .ok (.iaload, 1) := by decide +kernel
theorem dX0_changeSetting_26 : decode cX0_changeSetting 26 = .ok (.invokestatic 64, 3) := by decide +kernel
theorem dX0_changeSetting_29 : decode cX0_changeSetting 29 = .ok (.ifCond .ne 6, 3) := by decide +kernel
theorem dX0_changeSetting_32 : decode cX0_changeSetting 32 = .ok (.bipush (-2), 2) := by decide +kernel
theorem dX0_changeSetting_34 : decode cX0_changeSetting 34 = .ok (.ireturn, 1) := by decide +kernel
theorem dX0_changeSetting_35 : decode cX0_changeSetting 35 = .ok (.aload_n 0, 1) := by decide +kernel
theorem dX0_changeSetting_36 : decode cX0_changeSetting 36 = .ok (.getfield 9, 3) := by decide +kernel
theorem dX0_changeSetting_39 : decode cX0_changeSetting 39 = .ok (.iload_n 1, 1) := by decide +kernel
theorem dX0_changeSetting_40 : decode cX0_changeSetting 40 = .ok (.iaload, 1) := by decide +kernel
theorem dX0_changeSetting_41 : decode cX0_changeSetting 41 = .ok (.istore_n 3, 1) := by decide +kernel
theorem dX0_changeSetting_42 : decode cX0_changeSetting 42 = .ok (.aload_n 0, 1) := by decide +kernel
theorem dX0_changeSetting_43 : decode cX0_changeSetting 43 = .ok (.getfield 9, 3) := by decide +kernel
theorem dX0_changeSetting_46 : decode cX0_changeSetting 46 = .ok (.iload_n 1, 1) := by decide +kernel
theorem dX0_changeSetting_47 : decode cX0_changeSetting 47 = .ok (.iload_n 2, 1) := by decide +kernel
theorem dX0_changeSetting_48 : decode cX0_changeSetting 48 = .ok (.iastore, 1) := by decide +kernel
theorem dX0_changeSetting_49 : decode cX0_changeSetting 49 = .ok (.iload_n 3, 1) := by decide +kernel
theorem dX0_changeSetting_50 : decode cX0_changeSetting 50 = .ok (.ireturn, 1) := by decide +kernel
theorem dX0_addPerson_0 : decode cX0_addPerson 0 = .ok (.iload_n 1, 1) := by decide +kernel
theorem dX0_addPerson_1 : decode cX0_addPerson 1 = .ok (.bipush 10, 2) := by decide +kernel
theorem dX0_addPerson_3 : decode cX0_addPerson 3 = .ok (.sipush 150, 3) := by decide +kernel
theorem dX0_addPerson_6 : decode cX0_addPerson 6 = .ok (.invokestatic 64, 3) := by decide +kernel
theorem dX0_addPerson_9 : decode cX0_addPerson 9 = .ok (.ifCond .ne 6, 3) := by decide +kernel
theorem dX0_addPerson_12 : decode cX0_addPerson 12 = .ok (.bipush (-2), 2) := by decide +kernel
theorem dX0_addPerson_14 : decode cX0_addPerson 14 = .ok (.ireturn, 1) := by decide +kernel
theorem dX0_addPerson_15 : decode cX0_addPerson 15 = .ok (.aload_n 0, 1) := by decide +kernel
theorem dX0_addPerson_16 : decode cX0_addPerson 16 = .ok (.getfield 41, 3) := by decide +kernel
theorem dX0_addPerson_19 : decode cX0_addPerson 19 = .ok (.bipush 10, 2) := by decide +kernel
theorem dX0_addPerson_21 : decode cX0_addPerson 21 = .ok (.if_icmp .lt 6, 3) := by decide +kernel
theorem dX0_addPerson_24 : decode cX0_addPerson 24 = .ok (.bipush (-4), 2) := by decide +kernel
theorem dX0_addPerson_26 : decode cX0_addPerson 26 = .ok (.ireturn, 1) := by decide +kernel
theorem dX0_addPerson_27 : decode cX0_addPerson 27 = .ok (.aload_n 0, 1) := by decide +kernel
theorem dX0_addPerson_28 : decode cX0_addPerson 28 = .ok (.getfield 23, 3) := by decide +kernel
theorem dX0_addPerson_31 : decode cX0_addPerson 31 = .ok (.aload_n 0, 1) := by decide +kernel
theorem dX0_addPerson_32 : decode cX0_addPerson 32 = .ok (.getfield 41, 3) := by decide +kernel
theorem dX0_addPerson_35 : decode cX0_addPerson 35 = .ok (.aaload, 1) := by decide +kernel
theorem dX0_addPerson_36 : decode cX0_addPerson 36 = .ok (.iload_n 1, 1) := by decide +kernel
theorem dX0_addPerson_37 : decode cX0_addPerson 37 = .ok (.invokevirtual 74, 3) := by decide +kernel
theorem dX0_addPerson_40 : decode cX0_addPerson 40 = .ok (.aload_n 0, 1) := by decide +kernel
theorem dX0_addPerson_41 : decode cX0_addPerson 41 = .ok (.dup, 1) := by decide +kernel
theorem dX0_addPerson_42 : decode cX0_addPerson 42 = .ok (.getfield 41, 3) := by decide +kernel
theorem dX0_addPerson_45 : decode cX0_addPerson 45 = .ok (.iconst 1, 1) := by decide +kernel
theorem dX0_addPerson_46 : decode cX0_addPerson 46 = .ok (.iadd, 1) := by decide +kernel
theorem dX0_addPerson_47 : decode cX0_addPerson 47 = .ok (.putfield 41, 3) := by decide +kernel
theorem dX0_addPerson_50 : decode cX0_addPerson 50 = .ok (.aload_n 0, 1) := by decide +kernel
theorem dX0_addPerson_51 : decode cX0_addPerson 51 = .ok (.getfield 41, 3) := by decide +kernel
theorem dX0_addPerson_54 : decode cX0_addPerson 54 = .ok (.iconst 1, 1) := by decide +kernel
theorem dX0_addPerson_55 : decode cX0_addPerson 55 = .ok (.isub, 1) := by decide +kernel
theorem dX0_addPerson_56 : decode cX0_addPerson 56 = .ok (.ireturn, 1) := by decide +kernel
theorem dX0_addStraps_0 : decode cX0_addStraps 0 = .ok (.iload_n 1, 1) := by decide +kernel
theorem dX0_addStraps_1 : decode cX0_addStraps 1 = .ok (.invokestatic 78, 3) := by decide +kernel
theorem dX0_addStraps_4 : decode cX0_addStraps 4 = .ok (.ifCond .ne 5, 3) := by decide +kernel
theorem dX0_addStraps_7 : decode cX0_addStraps 7 = .ok (.iconst (-1), 1) := by decide +kernel
theorem dX0_addStraps_8 : decode cX0_addStraps 8 = .ok (.ireturn, 1) := by decide +kernel
theorem dX0_addStraps_9 : decode cX0_addStraps 9 = .ok (.aload_n 0, 1) := by decide +kernel
theorem dX0_addStraps_10 : decode cX0_addStraps 10 = .ok (.getfield 15, 3) := by decide +kernel
theorem dX0_addStraps_13 : decode cX0_addStraps 13 = .ok (.iload_n 1, 1) := by decide +kernel
theorem dX0_addStraps_14 : decode cX0_addStraps 14 = .ok (.iaload, 1) := by decide +kernel
theorem dX0_addStraps_15 : decode cX0_addStraps 15 = .ok (.bipush 9, 2) := by decide +kernel
theorem dX0_addStraps_17 : decode cX0_addStraps 17 = .ok (.if_icmp .lt 6, 3) := by decide +kernel
theorem dX0_addStraps_20 : decode cX0_addStraps 20 = .ok (.bipush (-4), 2) := by decide +kernel
theorem dX0_addStraps_22 : decode cX0_addStraps 22 = .ok (.ireturn, 1) := by decide +kernel
theorem dX0_addStraps_23 : decode cX0_addStraps 23 = .ok (.aload_n 0, 1) := by decide +kernel
theorem dX0_addStraps_24 : decode cX0_addStraps 24 = .ok (.getfield 15, 3) := by decide +kernel
theorem dX0_addStraps_27 : decode cX0_addStraps 27 = .ok (.iload_n 1, 1) := by decide +kernel
theorem dX0_addStraps_28 : decode cX0_addStraps 28 = .ok (.dup2, 1) := by decide +kernel
theorem dX0_addStraps_29 : decode cX0_addStraps 29 = .ok (.iaload, 1) := by decide +kernel
theorem dX0_addStraps_30 : decode cX0_addStraps 30 = .ok (.iconst 1, 1) := by decide +kernel
theorem dX0_addStraps_31 : decode cX0_addStraps 31 = .ok (.iadd, 1) := by decide +kernel
theorem dX0_addStraps_32 : decode cX0_addStraps 32 = .ok (.iastore, 1) := by decide +kernel
theorem dX0_addStraps_33 : decode cX0_addStraps 33 = .ok (.aload_n 0, 1) := by decide +kernel
theorem dX0_addStraps_34 : decode cX0_addStraps 34 = .ok (.getfield 18, 3) := by decide +kernel
theorem dX0_addStraps_37 : decode cX0_addStraps 37 = .ok (.iload_n 1, 1) := by decide +kernel
theorem dX0_addStraps_38 : decode cX0_addStraps 38 = .ok (.dup2, 1) := by decide +kernel
theorem dX0_addStraps_39 : decode cX0_addStraps 39 = .ok (.iaload, 1) := by decide +kernel
theorem dX0_addStraps_40 : decode cX0_addStraps 40 = .ok (.iconst 1, 1) := by decide +kernel
theorem dX0_addStraps_41 : decode cX0_addStraps 41 = .ok (.iadd, 1) := by decide +kernel
theorem dX0_addStraps_42 : decode cX0_addStraps 42 = .ok (.iastore, 1) := by decide +kernel
theorem dX0_addStraps_43 : decode cX0_addStraps 43 = .ok (.aload_n 0, 1) := by decide +kernel
theorem dX0_addStraps_44 : decode cX0_addStraps 44 = .ok (.getfield 15, 3) := by decide +kernel
theorem dX0_addStraps_47 : decode cX0_addStraps 47 = .ok (.iload_n 1, 1) := by decide +kernel
theorem dX0_addStraps_48 : decode cX0_addStraps 48 = .ok (.iaload, 1) := by decide +kernel
theorem dX0_addStraps_49 : decode cX0_addStraps 49 = .ok (.ireturn, 1) := by decide +kernel
theorem dX0_addJob_0 : decode cX0_addJob 0 = .ok (.iload_n 1, 1) := by decide +kernel
theorem dX0_addJob_1 : decode cX0_addJob 1 = .ok (.bipush 50, 2) := by decide +kernel
theorem dX0_addJob_3 : decode cX0_addJob 3 = .ok (.sipush 600, 3) := by decide +kernel
theorem dX0_addJob_6 : decode cX0_addJob 6 = .ok (.invokestatic 64, 3) := by decide +kernel
theorem dX0_addJob_9 : decode cX0_addJob 9 = .ok (.ifCond .eq 45, 3) := by decide +kernel
theorem dX0_addJob_12 : decode cX0_addJob 12 = .ok (.iload_n 2, 1) := by decide +kernel
theorem dX0_addJob_13 : decode cX0_addJob 13 = .ok (.iconst 0, 1) := by decide +kernel
theorem dX0_addJob_14 : decode cX0_addJob 14 = .ok (.bipush 9, 2) := by decide +kernel
theorem dX0_addJob_16 : decode cX0_addJob 16 = .ok (.invokestatic 64, 3) := by decide +kernel
theorem dX0_addJob_19 : decode cX0_addJob 19 = .ok (.ifCond .eq 35, 3) := by decide +kernel
theorem dX0_addJob_22 : decode cX0_addJob 22 = .ok (.iload_n 3, 1) := by decide +kernel
theorem dX0_addJob_23 : decode cX0_addJob 23 = .ok (.iconst 1, 1) := by decide +kernel
theorem dX0_addJob_24 : decode cX0_addJob 24 = .ok (.bipush 9, 2) := by decide +kernel
theorem dX0_addJob_26 : decode cX0_addJob 26 = .ok (.invokestatic 64, 3) := by decide +kernel
theorem dX0_addJob_29 : decode cX0_addJob 29 = .ok (.ifCond .eq 25, 3) := by decide +kernel
theorem dX0_addJob_32 : decode cX0_addJob 32 = .ok (.iload 4, 2) := by decide +kernel
theorem dX0_addJob_34 : decode cX0_addJob 34 = .ok (.iconst 0, 1) := by decide +kernel
theorem dX0_addJob_35 : decode cX0_addJob 35 = .ok (.iconst 3, 1) := by decide +kernel
theorem dX0_addJob_36 : decode cX0_addJob 36 = .ok (.invokestatic 64, 3) := by decide +kernel
theorem dX0_addJob_39 : decode cX0_addJob 39 = .ok (.ifCond .eq 15, 3) := by decide +kernel
theorem dX0_addJob_42 : decode cX0_addJob 42 = .ok (.iload 5, 2) := by decide +kernel
theorem dX0_addJob_44 : decode cX0_addJob 44 = .ok (.iconst 0, 1) := by decide +kernel
theorem dX0_addJob_45 : decode cX0_addJob 45 = .ok (.sipush 999, 3) := by decide +kernel
theorem dX0_addJob_48 : decode cX0_addJob 48 = .ok (.invokestatic 64, 3) := by decide +kernel
theorem dX0_addJob_51 : decode cX0_addJob 51 = .ok (.ifCond .ne 6, 3) := by decide +kernel
theorem dX0_addJob_54 : decode cX0_addJob 54 = .ok (.bipush (-2), 2) := by decide +kernel
theorem dX0_addJob_56 : decode cX0_addJob 56 = .ok (.ireturn, 1) := by decide +kernel
theorem dX0_addJob_57 : decode cX0_addJob 57 = .ok (.aload_n 0, 1) := by decide +kernel
theorem dX0_addJob_58 : decode cX0_addJob 58 = .ok (.getfield 45, 3) := by decide +kernel
theorem dX0_addJob_61 : decode cX0_addJob 61 = .ok (.bipush 16, 2) := by decide +kernel
theorem dX0_addJob_63 : decode cX0_addJob 63 = .ok (.if_icmp .lt 6, 3) := by decide +kernel
theorem dX0_addJob_66 : decode cX0_addJob 66 = .ok (.bipush (-4), 2) := by decide +kernel
theorem dX0_addJob_68 : decode cX0_addJob 68 = .ok (.ireturn, 1) := by decide +kernel
theorem dX0_addJob_69 : decode cX0_addJob 69 = .ok (.aload_n 0, 1) := by decide +kernel
theorem dX0_addJob_70 : decode cX0_addJob 70 = .ok (.getfield 29, 3) := by decide +kernel
theorem dX0_addJob_73 : decode cX0_addJob 73 = .ok (.aload_n 0, 1) := by decide +kernel
theorem dX0_addJob_74 : decode cX0_addJob 74 = .ok (.getfield 45, 3) := by decide +kernel
theorem dX0_addJob_77 : decode cX0_addJob 77 = .ok (.aaload, 1) := by decide +kernel
theorem dX0_addJob_78 : decode cX0_addJob 78 = .ok (.iload_n 1, 1) := by decide +kernel
theorem dX0_addJob_79 : decode cX0_addJob 79 = .ok (.iload_n 2, 1) := by decide +kernel
theorem dX0_addJob_80 : decode cX0_addJob 80 = .ok (.iload_n 3, 1) := by decide +kernel
theorem dX0_addJob_81 : decode cX0_addJob 81 = .ok (.iload 4, 2) := by decide +kernel
theorem dX0_addJob_83 : decode cX0_addJob 83 = .ok (.iload 5, 2) := by decide +kernel
theorem dX0_addJob_85 : decode cX0_addJob 85 = .ok (.invokevirtual 82, 3) := by decide +kernel
theorem dX0_addJob_88 : decode cX0_addJob 88 = .ok (.aload_n 0, 1) := by decide +kernel
theorem dX0_addJob_89 : decode cX0_addJob 89 = .ok (.dup, 1) := by decide +kernel
theorem dX0_addJob_90 : decode cX0_addJob 90 = .ok (.getfield 45, 3) := by decide +kernel
theorem dX0_addJob_93 : decode cX0_addJob 93 = .ok (.iconst 1, 1) := by decide +kernel
theorem dX0_addJob_94 : decode cX0_addJob 94 = .ok (.iadd, 1) := by decide +kernel
theorem dX0_addJob_95 : decode cX0_addJob 95 = .ok (.putfield 45, 3) := by decide +kernel
theorem dX0_addJob_98 : decode cX0_addJob 98 = .ok (.aload_n 0, 1) := by decide +kernel
theorem dX0_addJob_99 : decode cX0_addJob 99 = .ok (.getfield 45, 3) := by decide +kernel
theorem dX0_addJob_102 : decode cX0_addJob 102 = .ok (.iconst 1, 1) := by decide +kernel
theorem dX0_addJob_103 : decode cX0_addJob 103 = .ok (.isub, 1) := by decide +kernel
theorem dX0_addJob_104 : decode cX0_addJob 104 = .ok (.ireturn, 1) := by decide +kernel
theorem dX0_loadNow_0 : decode cX0_loadNow 0 = .ok (.aload_n 1, 1) := by decide +kernel
theorem dX0_loadNow_1 : decode cX0_loadNow 1 = .ok (.getfield 85, 3) := by decide +kernel
theorem dX0_loadNow_4 : decode cX0_loadNow 4 = .ok (.bipush 100, 2) := by decide +kernel
theorem dX0_loadNow_6 : decode cX0_loadNow 6 = .ok (.aload_n 0, 1) := by decide +kernel
theorem dX0_loadNow_7 : decode cX0_loadNow 7 = .ok (.getfield 9, 3) := by decide +kernel
theorem dX0_loadNow_10 : decode cX0_loadNow 10 = .ok (.iconst 0, 1) := by decide +kernel
theorem dX0_loadNow_11 : decode cX0_loadNow 11 = .ok (.iaload, 1) := by decide +kernel
theorem dX0_loadNow_12 : decode cX0_loadNow 12 = .ok (.aload_n 1, 1) := by decide +kernel
theorem dX0_loadNow_13 : decode cX0_loadNow 13 = .ok (.getfield 88, 3) := by decide +kernel
theorem dX0_loadNow_16 : decode cX0_loadNow 16 = .ok (.imul, 1) := by decide +kernel
theorem dX0_loadNow_17 : decode cX0_loadNow 17 = .ok (.iadd, 1) := by decide +kernel
theorem dX0_loadNow_18 : decode cX0_loadNow 18 = .ok (.imul, 1) := by decide +kernel
theorem dX0_loadNow_19 : decode cX0_loadNow 19 = .ok (.bipush 100, 2) := by decide +kernel
theorem dX0_loadNow_21 : decode cX0_loadNow 21 = .ok (.idiv, 1) := by decide +kernel
theorem dX0_loadNow_22 : decode cX0_loadNow 22 = .ok (.ireturn, 1) := by decide +kernel
theorem dX0_loadWith_0 : decode cX0_loadWith 0 = .ok (.iload_n 2, 1) := by decide +kernel
theorem dX0_loadWith_1 : decode cX0_loadWith 1 = .ok (.invokestatic 78, 3) := by decide +kernel
theorem dX0_loadWith_4 : decode cX0_loadWith 4 = .ok (.ifCond .eq 11, 3) := by decide +kernel
theorem dX0_loadWith_7 : decode cX0_loadWith 7 = .ok (.getstatic 91, 3) := by decide +kernel
theorem dX0_loadWith_10 : decode cX0_loadWith 10 = .ok (.iload_n 2, 1) := by decide +kernel
theorem dX0_loadWith_11 : decode cX0_loadWith 11 = .ok (.iaload, 1) := by decide +kernel
theorem dX0_loadWith_12 : decode cX0_loadWith 12 = .ok (.goto 4, 3) := by decide +kernel
theorem dX0_loadWith_15 : decode cX0_loadWith 15 = .ok (.iconst 0, 1) := by decide +kernel
theorem dX0_loadWith_16 : decode cX0_loadWith 16 = .ok (.istore_n 3, 1) := by decide +kernel
theorem dX0_loadWith_17 : decode cX0_loadWith 17 = .ok (.aload_n 0, 1) := by decide +kernel
theorem dX0_loadWith_18 : decode cX0_loadWith 18 = .ok (.aload_n 1, 1) := by decide +kernel
theorem dX0_loadWith_19 : decode cX0_loadWith 19 = .ok (.invokevirtual 94, 3) := by decide +kernel
theorem dX0_loadWith_22 : decode cX0_loadWith 22 = .ok (.bipush 100, 2) := by decide +kernel
theorem dX0_loadWith_24 : decode cX0_loadWith 24 = .ok (.iload_n 3, 1) := by decide +kernel
theorem dX0_loadWith_25 : decode cX0_loadWith 25 = .ok (.isub, 1) := by decide +kernel
theorem dX0_loadWith_26 : decode cX0_loadWith 26 = .ok (.imul, 1) := by decide +kernel
theorem dX0_loadWith_27 : decode cX0_loadWith 27 = .ok (.bipush 100, 2) := by decide +kernel
theorem dX0_loadWith_29 : decode cX0_loadWith 29 = .ok (.idiv, 1) := by decide +kernel
theorem dX0_loadWith_30 : decode cX0_loadWith 30 = .ok (.ireturn, 1) := by decide +kernel
theorem dX0_canHaveStraps_0 : decode cX0_canHaveStraps 0 = .ok (.iload_n 2, 1) := by decide +kernel
theorem dX0_canHaveStraps_1 : decode cX0_canHaveStraps 1 = .ok (.invokestatic 78, 3) := by decide +kernel
theorem dX0_canHaveStraps_4 : decode cX0_canHaveStraps 4 = .ok (.ifCond .ne 5, 3) := by decide +kernel
theorem dX0_canHaveStraps_7 : decode cX0_canHaveStraps 7 = .ok (.iconst 1, 1) := by decide +kernel
theorem dX0_canHaveStraps_8 : decode cX0_canHaveStraps 8 = .ok (.ireturn, 1) := by decide +kernel
theorem dX0_canHaveStraps_9 : decode cX0_canHaveStraps 9 = .ok (.aload_n 0, 1) := by decide +kernel
theorem dX0_canHaveStraps_10 : decode cX0_canHaveStraps 10 = .ok (.getfield 18, 3) := by decide +kernel
theorem dX0_canHaveStraps_13 : decode cX0_canHaveStraps 13 = .ok (.iload_n 2, 1) := by decide +kernel
theorem dX0_canHaveStraps_14 : decode cX0_canHaveStraps 14 = .ok (.iaload, 1) := by decide +kernel
theorem dX0_canHaveStraps_15 : decode cX0_canHaveStraps 15 = .ok (.ifCond .le 19, 3) := by decide +kernel
theorem dX0_canHaveStraps_18 : decode cX0_canHaveStraps 18 = .ok (.iload_n 2, 1) := by decide +kernel
theorem dX0_canHaveStraps_19 : decode cX0_canHaveStraps 19 = .ok (.iconst 2, 1) := by decide +kernel
theorem dX0_canHaveStraps_20 : decode cX0_canHaveStraps 20 = .ok (.if_icmp .ne 10, 3) := by decide +kernel
theorem dX0_canHaveStraps_23 : decode cX0_canHaveStraps 23 = .ok (.aload_n 1, 1) := by decide +kernel
theorem dX0_canHaveStraps_24 : decode cX0_canHaveStraps 24 = .ok (.getfield 88, 3) := by decide +kernel
theorem dX0_canHaveStraps_27 : decode cX0_canHaveStraps 27 = .ok (.ifCond .ne 7, 3) := by decide +kernel
theorem dX0_canHaveStraps_30 : decode cX0_canHaveStraps 30 = .ok (.iconst 1, 1) := by decide +kernel
theorem dX0_canHaveStraps_31 : decode cX0_canHaveStraps 31 = .ok (.goto 4, 3) := by decide +kernel
theorem dX0_canHaveStraps_34 : decode cX0_canHaveStraps 34 = .ok (.iconst 0, 1) := by decide +kernel
theorem dX0_canHaveStraps_35 : decode cX0_canHaveStraps 35 = .ok (.ireturn, 1) := by decide +kernel
theorem dX0_busyPeople_0 : decode cX0_busyPeople 0 = .ok (.iconst 0, 1) := by decide +kernel
theorem dX0_busyPeople_1 : decode cX0_busyPeople 1 = .ok (.istore_n 1, 1) := by decide +kernel
theorem dX0_busyPeople_2 : decode cX0_busyPeople 2 = .ok (.iconst 0, 1) := by decide +kernel
theorem dX0_busyPeople_3 : decode cX0_busyPeople 3 = .ok (.istore_n 2, 1) := by decide +kernel
theorem dX0_busyPeople_4 : decode cX0_busyPeople 4 = .ok (.iload_n 2, 1) := by decide +kernel
theorem dX0_busyPeople_5 : decode cX0_busyPeople 5 = .ok (.aload_n 0, 1) := by decide +kernel
theorem dX0_busyPeople_6 : decode cX0_busyPeople 6 = .ok (.getfield 41, 3) := by decide +kernel
theorem dX0_busyPeople_9 : decode cX0_busyPeople 9 = .ok (.if_icmp .ge 29, 3) := by decide +kernel
theorem dX0_busyPeople_12 : decode cX0_busyPeople 12 = .ok (.aload_n 0, 1) := by decide +kernel
theorem dX0_busyPeople_13 : decode cX0_busyPeople 13 = .ok (.getfield 23, 3) := by decide +kernel
theorem dX0_busyPeople_16 : decode cX0_busyPeople 16 = .ok (.iload_n 2, 1) := by decide +kernel
theorem dX0_busyPeople_17 : decode cX0_busyPeople 17 = .ok (.aaload, 1) := by decide +kernel
theorem dX0_busyPeople_18 : decode cX0_busyPeople 18 = .ok (.getfield 98, 3) := by decide +kernel
theorem dX0_busyPeople_21 : decode cX0_busyPeople 21 = .ok (.bipush (-6), 2) := by decide +kernel
theorem dX0_busyPeople_23 : decode cX0_busyPeople 23 = .ok (.if_icmp .eq 9, 3) := by decide +kernel
theorem dX0_busyPeople_26 : decode cX0_busyPeople 26 = .ok (.iload_n 1, 1) := by decide +kernel
theorem dX0_busyPeople_27 : decode cX0_busyPeople 27 = .ok (.iconst 1, 1) := by decide +kernel
theorem dX0_busyPeople_28 : decode cX0_busyPeople 28 = .ok (.iload_n 2, 1) := by decide +kernel
theorem dX0_busyPeople_29 : decode cX0_busyPeople 29 = .ok (.ishl, 1) := by decide +kernel
theorem dX0_busyPeople_30 : decode cX0_busyPeople 30 = .ok (.ior, 1) := by decide +kernel
theorem dX0_busyPeople_31 : decode cX0_busyPeople 31 = .ok (.istore_n 1, 1) := by decide +kernel
theorem dX0_busyPeople_32 : decode cX0_busyPeople 32 = .ok (.iinc 2 1, 3) := by decide +kernel
theorem dX0_busyPeople_35 : decode cX0_busyPeople 35 = .ok (.goto (-31), 3) := by decide +kernel
theorem dX0_busyPeople_38 : decode cX0_busyPeople 38 = .ok (.iload_n 1, 1) := by decide +kernel
theorem dX0_busyPeople_39 : decode cX0_busyPeople 39 = .ok (.ireturn, 1) := by decide +kernel
theorem dX0_strengthOf_0 : decode cX0_strengthOf 0 = .ok (.iconst 0, 1) := by decide +kernel
theorem dX0_strengthOf_1 : decode cX0_strengthOf 1 = .ok (.istore_n 2, 1) := by decide +kernel
theorem dX0_strengthOf_2 : decode cX0_strengthOf 2 = .ok (.iconst 0, 1) := by decide +kernel
theorem dX0_strengthOf_3 : decode cX0_strengthOf 3 = .ok (.istore_n 3, 1) := by decide +kernel
theorem dX0_strengthOf_4 : decode cX0_strengthOf 4 = .ok (.iload_n 3, 1) := by decide +kernel
theorem dX0_strengthOf_5 : decode cX0_strengthOf 5 = .ok (.aload_n 0, 1) := by decide +kernel
theorem dX0_strengthOf_6 : decode cX0_strengthOf 6 = .ok (.getfield 41, 3) := by decide +kernel
theorem dX0_strengthOf_9 : decode cX0_strengthOf 9 = .ok (.if_icmp .ge 29, 3) := by decide +kernel
theorem dX0_strengthOf_12 : decode cX0_strengthOf 12 = .ok (.iload_n 3, 1) := by decide +kernel
theorem dX0_strengthOf_13 : decode cX0_strengthOf 13 = .ok (.iload_n 1, 1) := by decide +kernel
theorem dX0_strengthOf_14 : decode cX0_strengthOf 14 = .ok (.invokestatic 101, 3) := by decide +kernel
theorem dX0_strengthOf_17 : decode cX0_strengthOf 17 = .ok (.ifCond .eq 15, 3) := by decide +kernel
theorem dX0_strengthOf_20 : decode cX0_strengthOf 20 = .ok (.iload_n 2, 1) := by decide +kernel
theorem dX0_strengthOf_21 : decode cX0_strengthOf 21 = .ok (.aload_n 0, 1) := by decide +kernel
theorem dX0_strengthOf_22 : decode cX0_strengthOf 22 = .ok (.getfield 23, 3) := by decide +kernel
theorem dX0_strengthOf_25 : decode cX0_strengthOf 25 = .ok (.iload_n 3, 1) := by decide +kernel
theorem dX0_strengthOf_26 : decode cX0_strengthOf 26 = .ok (.aaload, 1) := by decide +kernel
theorem dX0_strengthOf_27 : decode cX0_strengthOf 27 = .ok (.getfield 105, 3) := by decide +kernel
theorem dX0_strengthOf_30 : decode cX0_strengthOf 30 = .ok (.iadd, 1) := by decide +kernel
theorem dX0_strengthOf_31 : decode cX0_strengthOf 31 = .ok (.istore_n 2, 1) := by decide +kernel
theorem dX0_strengthOf_32 : decode cX0_strengthOf 32 = .ok (.iinc 3 1, 3) := by decide +kernel
theorem dX0_strengthOf_35 : decode cX0_strengthOf 35 = .ok (.goto (-31), 3) := by decide +kernel
theorem dX0_strengthOf_38 : decode cX0_strengthOf 38 = .ok (.iload_n 2, 1) := by decide +kernel
theorem dX0_strengthOf_39 : decode cX0_strengthOf 39 = .ok (.ireturn, 1) := by decide +kernel
theorem dX0_isCrew_0 : decode cX0_isCrew 0 = .ok (.iconst 1, 1) := by decide +kernel
theorem dX0_isCrew_1 : decode cX0_isCrew 1 = .ok (.aload_n 0, 1) := by decide +kernel
theorem dX0_isCrew_2 : decode cX0_isCrew 2 = .ok (.getfield 41, 3) := by decide +kernel
theorem dX0_isCrew_5 : decode cX0_isCrew 5 = .ok (.ishl, 1) := by decide +kernel
theorem dX0_isCrew_6 : decode cX0_isCrew 6 = .ok (.iconst 1, 1) := by decide +kernel
theorem dX0_isCrew_7 : decode cX0_isCrew 7 = .ok (.isub, 1) := by decide +kernel
theorem dX0_isCrew_8 : decode cX0_isCrew 8 = .ok (.istore_n 2, 1) := by decide +kernel
theorem dX0_isCrew_9 : decode cX0_isCrew 9 = .ok (.iload_n 1, 1) := by decide +kernel
theorem dX0_isCrew_10 : decode cX0_isCrew 10 = .ok (.ifCond .eq 28, 3) := by decide +kernel
theorem dX0_isCrew_13 : decode cX0_isCrew 13 = .ok (.iload_n 1, 1) := by decide +kernel
theorem dX0_isCrew_14 : decode cX0_isCrew 14 = .ok (.iload_n 2, 1) := by decide +kernel
theorem dX0_isCrew_15 : decode cX0_isCrew 15 = .ok (.iconst (-1), 1) := by decide +kernel
theorem dX0_isCrew_16 : decode cX0_isCrew 16 = .ok (.ixor, 1) := by decide +kernel
theorem dX0_isCrew_17 : decode cX0_isCrew 17 = .ok (.iand, 1) := by decide +kernel
theorem dX0_isCrew_18 : decode cX0_isCrew 18 = .ok (.ifCond .ne 20, 3) := by decide +kernel
theorem dX0_isCrew_21 : decode cX0_isCrew 21 = .ok (.iload_n 1, 1) := by decide +kernel
theorem dX0_isCrew_22 : decode cX0_isCrew 22 = .ok (.invokestatic 108, 3) := by decide +kernel
theorem dX0_isCrew_25 : decode cX0_isCrew 25 = .ok (.aload_n 0, 1) := by decide +kernel
theorem dX0_isCrew_26 : decode cX0_isCrew 26 = .ok (.getfield 9, 3) := by decide +kernel
theorem dX0_isCrew_29 : decode cX0_isCrew 29 = .ok (.iconst 3, 1) := by decide +kernel
theorem dX0_isCrew_30 : decode cX0_isCrew 30 = .ok (.iaload, 1) := by decide +kernel
theorem dX0_isCrew_31 : decode cX0_isCrew 31 = .ok (.if_icmp .gt 7, 3) := by decide +kernel
theorem dX0_isCrew_34 : decode cX0_isCrew 34 = .ok (.iconst 1, 1) := by decide +kernel
theorem dX0_isCrew_35 : decode cX0_isCrew 35 = .ok (.goto 4, 3) := by decide +kernel
theorem dX0_isCrew_38 : decode cX0_isCrew 38 = .ok (.iconst 0, 1) := by decide +kernel
theorem dX0_isCrew_39 : decode cX0_isCrew 39 = .ok (.ireturn, 1) := by decide +kernel
theorem dX0_whyNot_0 : decode cX0_whyNot 0 = .ok (.aload_n 0, 1) := by decide +kernel
theorem dX0_whyNot_1 : decode cX0_whyNot 1 = .ok (.iload_n 1, 1) := by decide +kernel
theorem dX0_whyNot_2 : decode cX0_whyNot 2 = .ok (.invokevirtual 114, 3) := by decide +kernel
theorem dX0_whyNot_5 : decode cX0_whyNot 5 = .ok (.ifCond .ne 5, 3) := by decide +kernel
theorem dX0_whyNot_8 : decode cX0_whyNot 8 = .ok (.iconst (-1), 1) := by decide +kernel
theorem dX0_whyNot_9 : decode cX0_whyNot 9 = .ok (.ireturn, 1) := by decide +kernel
theorem dX0_whyNot_10 : decode cX0_whyNot 10 = .ok (.iload_n 3, 1) := by decide +kernel
theorem dX0_whyNot_11 : decode cX0_whyNot 11 = .ok (.invokestatic 117, 3) := by decide +kernel
theorem dX0_whyNot_14 : decode cX0_whyNot 14 = .ok (.ifCond .ne 6, 3) := by decide +kernel
theorem dX0_whyNot_17 : decode cX0_whyNot 17 = .ok (.bipush (-2), 2) := by decide +kernel
theorem dX0_whyNot_19 : decode cX0_whyNot 19 = .ok (.ireturn, 1) := by decide +kernel
theorem dX0_whyNot_20 : decode cX0_whyNot 20 = .ok (.aload_n 0, 1) := by decide +kernel
theorem dX0_whyNot_21 : decode cX0_whyNot 21 = .ok (.getfield 29, 3) := by decide +kernel
theorem dX0_whyNot_24 : decode cX0_whyNot 24 = .ok (.iload_n 1, 1) := by decide +kernel
theorem dX0_whyNot_25 : decode cX0_whyNot 25 = .ok (.aaload, 1) := by decide +kernel
theorem dX0_whyNot_26 : decode cX0_whyNot 26 = .ok (.getfield 120, 3) := by decide +kernel
theorem dX0_whyNot_29 : decode cX0_whyNot 29 = .ok (.ifCond .eq 5, 3) := by decide +kernel
theorem dX0_whyNot_32 : decode cX0_whyNot 32 = .ok (.iconst 1, 1) := by decide +kernel
theorem dX0_whyNot_33 : decode cX0_whyNot 33 = .ok (.ireturn, 1) := by decide +kernel
theorem dX0_whyNot_34 : decode cX0_whyNot 34 = .ok (.aload_n 0, 1) := by decide +kernel
theorem dX0_whyNot_35 : decode cX0_whyNot 35 = .ok (.iload_n 2, 1) := by decide +kernel
theorem dX0_whyNot_36 : decode cX0_whyNot 36 = .ok (.invokevirtual 123, 3) := by decide +kernel
theorem dX0_whyNot_39 : decode cX0_whyNot 39 = .ok (.ifCond .ne 5, 3) := by decide +kernel
theorem dX0_whyNot_42 : decode cX0_whyNot 42 = .ok (.iconst 2, 1) := by decide +kernel
theorem dX0_whyNot_43 : decode cX0_whyNot 43 = .ok (.ireturn, 1) := by decide +kernel
theorem dX0_whyNot_44 : decode cX0_whyNot 44 = .ok (.iload_n 2, 1) := by decide +kernel
theorem dX0_whyNot_45 : decode cX0_whyNot 45 = .ok (.aload_n 0, 1) := by decide +kernel
theorem dX0_whyNot_46 : decode cX0_whyNot 46 = .ok (.invokevirtual 126, 3) := by decide +kernel
theorem dX0_whyNot_49 : decode cX0_whyNot 49 = .ok (.iand, 1) := by decide +kernel
theorem dX0_whyNot_50 : decode cX0_whyNot 50 = .ok (.ifCond .eq 5, 3) := by decide +kernel
theorem dX0_whyNot_53 : decode cX0_whyNot 53 = .ok (.iconst 3, 1) := by decide +kernel
theorem dX0_whyNot_54 : decode cX0_whyNot 54 = .ok (.ireturn, 1) := by decide +kernel
theorem dX0_whyNot_55 : decode cX0_whyNot 55 = .ok (.aload_n 0, 1) := by decide +kernel
theorem dX0_whyNot_56 : decode cX0_whyNot 56 = .ok (.aload_n 0, 1) := by decide +kernel
theorem dX0_whyNot_57 : decode cX0_whyNot 57 = .ok (.getfield 29, 3) := by decide +kernel
theorem dX0_whyNot_60 : decode cX0_whyNot 60 = .ok (.iload_n 1, 1) := by decide +kernel
theorem dX0_whyNot_61 : decode cX0_whyNot 61 = .ok (.aaload, 1) := by decide +kernel
theorem dX0_whyNot_62 : decode cX0_whyNot 62 = .ok (.iload_n 3, 1) := by decide +kernel
theorem dX0_whyNot_63 : decode cX0_whyNot 63 = .ok (.invokevirtual 130, 3) := by decide +kernel
theorem dX0_whyNot_66 : decode cX0_whyNot 66 = .ok (.ifCond .ne 5, 3) := by decide +kernel
theorem dX0_whyNot_69 : decode cX0_whyNot 69 = .ok (.iconst 4, 1) := by decide +kernel
theorem dX0_whyNot_70 : decode cX0_whyNot 70 = .ok (.ireturn, 1) := by decide +kernel
theorem dX0_whyNot_71 : decode cX0_whyNot 71 = .ok (.aload_n 0, 1) := by decide +kernel
theorem dX0_whyNot_72 : decode cX0_whyNot 72 = .ok (.iload_n 2, 1) := by decide +kernel
theorem dX0_whyNot_73 : decode cX0_whyNot 73 = .ok (.invokevirtual 134, 3) := by decide +kernel
theorem dX0_whyNot_76 : decode cX0_whyNot 76 = .ok (.aload_n 0, 1) := by decide +kernel
theorem dX0_whyNot_77 : decode cX0_whyNot 77 = .ok (.aload_n 0, 1) := by decide +kernel
theorem dX0_whyNot_78 : decode cX0_whyNot 78 = .ok (.getfield 29, 3) := by decide +kernel
theorem dX0_whyNot_81 : decode cX0_whyNot 81 = .ok (.iload_n 1, 1) := by decide +kernel
theorem dX0_whyNot_82 : decode cX0_whyNot 82 = .ok (.aaload, 1) := by decide +kernel
theorem dX0_whyNot_83 : decode cX0_whyNot 83 = .ok (.iload_n 3, 1) := by decide +kernel
theorem dX0_whyNot_84 : decode cX0_whyNot 84 = .ok (.invokevirtual 137, 3) := by decide +kernel
theorem dX0_whyNot_87 : decode cX0_whyNot 87 = .ok (.if_icmp .ge 7, 3) := by decide +kernel
theorem dX0_whyNot_90 : decode cX0_whyNot 90 = .ok (.iconst 5, 1) := by decide +kernel
theorem dX0_whyNot_91 : decode cX0_whyNot 91 = .ok (.goto 4, 3) := by decide +kernel
theorem dX0_whyNot_94 : decode cX0_whyNot 94 = .ok (.iconst 0, 1) := by decide +kernel
theorem dX0_whyNot_95 : decode cX0_whyNot 95 = .ok (.ireturn, 1) := by decide +kernel
theorem dX0_strongestOutside_0 : decode cX0_strongestOutside 0 = .ok (.bipush (-6), 2) := by decide +kernel
theorem dX0_strongestOutside_2 : decode cX0_strongestOutside 2 = .ok (.istore_n 2, 1) := by decide +kernel
theorem dX0_strongestOutside_3 : decode cX0_strongestOutside 3 = .ok (.iconst (-1), 1) := by decide +kernel
theorem dX0_strongestOutside_4 : decode cX0_strongestOutside 4 = .ok (.istore_n 3, 1) := by decide +kernel
theorem dX0_strongestOutside_5 : decode cX0_strongestOutside 5 = .ok (.iconst 0, 1) := by decide +kernel
theorem dX0_strongestOutside_6 : decode cX0_strongestOutside 6 = .ok (.istore 4, 2) := by decide +kernel
theorem dX0_strongestOutside_8 : decode cX0_strongestOutside 8 = .ok (.iload 4, 2) := by decide +kernel
theorem dX0_strongestOutside_10 : decode cX0_strongestOutside 10 = .ok (.aload_n 0, 1) := by decide +kernel
theorem dX0_strongestOutside_11 : decode cX0_strongestOutside 11 = .ok (.getfield 41, 3) := by decide +kernel
theorem dX0_strongestOutside_14 : decode cX0_strongestOutside 14 = .ok (.if_icmp .ge 46, 3) := by decide +kernel
theorem dX0_strongestOutside_17 : decode cX0_strongestOutside 17 = .ok (.iload 4, 2) := by decide +kernel
theorem dX0_strongestOutside_19 : decode cX0_strongestOutside 19 = .ok (.iload_n 1, 1) := by decide +kernel
theorem dX0_strongestOutside_20 : decode cX0_strongestOutside 20 = .ok (.invokestatic 101, 3) := by decide +kernel
theorem dX0_strongestOutside_23 : decode cX0_strongestOutside 23 = .ok (.ifCond .ne 31, 3) := by decide +kernel
theorem dX0_strongestOutside_26 : decode cX0_strongestOutside 26 = .ok (.aload_n 0, 1) := by decide +kernel
theorem dX0_strongestOutside_27 : decode cX0_strongestOutside 27 = .ok (.getfield 23, 3) := by decide +kernel
theorem dX0_strongestOutside_30 : decode cX0_strongestOutside 30 = .ok (.iload 4, 2) := by decide +kernel
theorem dX0_strongestOutside_32 : decode cX0_strongestOutside 32 = .ok (.aaload, 1) := by decide +kernel
theorem dX0_strongestOutside_33 : decode cX0_strongestOutside 33 = .ok (.getfield 105, 3) := by decide +kernel
theorem dX0_strongestOutside_36 : decode cX0_strongestOutside 36 = .ok (.iload_n 3, 1) := by decide +kernel
theorem dX0_strongestOutside_37 : decode cX0_strongestOutside 37 = .ok (.if_icmp .le 17, 3) := by decide +kernel
theorem dX0_strongestOutside_40 : decode cX0_strongestOutside 40 = .ok (.iload 4, 2) := by decide +kernel
theorem dX0_strongestOutside_42 : decode cX0_strongestOutside 42 = .ok (.istore_n 2, 1) := by decide +kernel
theorem dX0_strongestOutside_43 : decode cX0_strongestOutside 43 = .ok (.aload_n 0, 1) := by decide +kernel
theorem dX0_strongestOutside_44 : decode cX0_strongestOutside 44 = .ok (.getfield 23, 3) := by decide +kernel
theorem dX0_strongestOutside_47 : decode cX0_strongestOutside 47 = .ok (.iload 4, 2) := by decide +kernel
theorem dX0_strongestOutside_49 : decode cX0_strongestOutside 49 = .ok (.aaload, 1) := by decide +kernel
theorem dX0_strongestOutside_50 : decode cX0_strongestOutside 50 = .ok (.getfield 105, 3) := by decide +kernel
theorem dX0_strongestOutside_53 : decode cX0_strongestOutside 53 = .ok (.istore_n 3, 1) := by decide +kernel
theorem dX0_strongestOutside_54 : decode cX0_strongestOutside 54 = .ok (.iinc 4 1, 3) := by decide +kernel
theorem dX0_strongestOutside_57 : decode cX0_strongestOutside 57 = .ok (.goto (-49), 3) := by decide +kernel
theorem dX0_strongestOutside_60 : decode cX0_strongestOutside 60 = .ok (.iload_n 2, 1) := by decide +kernel
theorem dX0_strongestOutside_61 : decode cX0_strongestOutside 61 = .ok (.ireturn, 1) := by decide +kernel
theorem dX0_crewByItself_0 : decode cX0_crewByItself 0 = .ok (.aload_n 0, 1) := by decide +kernel
theorem dX0_crewByItself_1 : decode cX0_crewByItself 1 = .ok (.aload_n 1, 1) := by decide +kernel
theorem dX0_crewByItself_2 : decode cX0_crewByItself 2 = .ok (.iload_n 2, 1) := by decide +kernel
theorem dX0_crewByItself_3 : decode cX0_crewByItself 3 = .ok (.invokevirtual 130, 3) := by decide +kernel
theorem dX0_crewByItself_6 : decode cX0_crewByItself 6 = .ok (.ifCond .ne 6, 3) := by decide +kernel
theorem dX0_crewByItself_9 : decode cX0_crewByItself 9 = .ok (.bipush (-6), 2) := by decide +kernel
theorem dX0_crewByItself_11 : decode cX0_crewByItself 11 = .ok (.ireturn, 1) := by decide +kernel
theorem dX0_crewByItself_12 : decode cX0_crewByItself 12 = .ok (.aload_n 0, 1) := by decide +kernel
theorem dX0_crewByItself_13 : decode cX0_crewByItself 13 = .ok (.aload_n 1, 1) := by decide +kernel
theorem dX0_crewByItself_14 : decode cX0_crewByItself 14 = .ok (.iload_n 2, 1) := by decide +kernel
theorem dX0_crewByItself_15 : decode cX0_crewByItself 15 = .ok (.invokevirtual 137, 3) := by decide +kernel
theorem dX0_crewByItself_18 : decode cX0_crewByItself 18 = .ok (.istore_n 3, 1) := by decide +kernel
theorem dX0_crewByItself_19 : decode cX0_crewByItself 19 = .ok (.aload_n 0, 1) := by decide +kernel
theorem dX0_crewByItself_20 : decode cX0_crewByItself 20 = .ok (.invokevirtual 126, 3) := by decide +kernel
theorem dX0_crewByItself_23 : decode cX0_crewByItself 23 = .ok (.istore 4, 2) := by decide +kernel
theorem dX0_crewByItself_25 : decode cX0_crewByItself 25 = .ok (.iconst 0, 1) := by decide +kernel
theorem dX0_crewByItself_26 : decode cX0_crewByItself 26 = .ok (.istore 5, 2) := by decide +kernel
theorem dX0_crewByItself_28 : decode cX0_crewByItself 28 = .ok (.iconst 0, 1) := by decide +kernel
theorem dX0_crewByItself_29 : decode cX0_crewByItself 29 = .ok (.istore 6, 2) := by decide +kernel
theorem dX0_crewByItself_31 : decode cX0_crewByItself 31 = .ok (.iconst 0, 1) := by decide +kernel
theorem dX0_crewByItself_32 : decode cX0_crewByItself 32 = .ok (.istore 7, 2) := by decide +kernel
theorem dX0_crewByItself_34 : decode cX0_crewByItself 34 = .ok (.iload 7, 2) := by decide +kernel
theorem dX0_crewByItself_36 : decode cX0_crewByItself 36 = .ok (.aload_n 0, 1) := by decide +kernel
theorem dX0_crewByItself_37 : decode cX0_crewByItself 37 = .ok (.getfield 9, 3) := by decide +kernel
theorem dX0_crewByItself_40 : decode cX0_crewByItself 40 = .ok (.iconst 3, 1) := by decide +kernel
theorem dX0_crewByItself_41 : decode cX0_crewByItself 41 = .ok (.iaload, 1) := by decide +kernel
theorem dX0_crewByItself_42 : decode cX0_crewByItself 42 = .ok (.if_icmp .ge 65, 3) := by decide +kernel
theorem dX0_crewByItself_45 : decode cX0_crewByItself 45 = .ok (.aload_n 0, 1) := by decide +kernel
theorem dX0_crewByItself_46 : decode cX0_crewByItself 46 = .ok (.iload 4, 2) := by decide +kernel
theorem dX0_crewByItself_48 : decode cX0_crewByItself 48 = .ok (.iload 5, 2) := by decide +kernel
theorem dX0_crewByItself_50 : decode cX0_crewByItself 50 = .ok (.ior, 1) := by decide +kernel
theorem dX0_crewByItself_51 : decode cX0_crewByItself 51 = .ok (.invokevirtual 141, 3) := by decide +kernel
theorem dX0_crewByItself_54 : decode cX0_crewByItself 54 = .ok (.istore 8, 2) := by decide +kernel
theorem dX0_crewByItself_56 : decode cX0_crewByItself 56 = .ok (.aload_n 0, 1) := by decide +kernel
theorem dX0_crewByItself_57 : decode cX0_crewByItself 57 = .ok (.iload 8, 2) := by decide +kernel
theorem dX0_crewByItself_59 : decode cX0_crewByItself 59 = .ok (.invokevirtual 144, 3) := by decide +kernel
theorem dX0_crewByItself_62 : decode cX0_crewByItself 62 = .ok (.ifCond .ne 6, 3) := by decide +kernel
theorem dX0_crewByItself_65 : decode cX0_crewByItself 65 = .ok (.bipush (-6), 2) := by decide +kernel
theorem dX0_crewByItself_67 : decode cX0_crewByItself 67 = .ok (.ireturn, 1) := by decide +kernel
theorem dX0_crewByItself_68 : decode cX0_crewByItself 68 = .ok (.iload 5, 2) := by decide +kernel
theorem dX0_crewByItself_70 : decode cX0_crewByItself 70 = .ok (.iconst 1, 1) := by decide +kernel
theorem dX0_crewByItself_71 : decode cX0_crewByItself 71 = .ok (.iload 8, 2) := by decide +kernel
theorem dX0_crewByItself_73 : decode cX0_crewByItself 73 = .ok (.ishl, 1) := by decide +kernel
theorem dX0_crewByItself_74 : decode cX0_crewByItself 74 = .ok (.ior, 1) := by decide +kernel
theorem dX0_crewByItself_75 : decode cX0_crewByItself 75 = .ok (.istore 5, 2) := by decide +kernel
theorem dX0_crewByItself_77 : decode cX0_crewByItself 77 = .ok (.iload 6, 2) := by decide +kernel
theorem dX0_crewByItself_79 : decode cX0_crewByItself 79 = .ok (.aload_n 0, 1) := by decide +kernel
theorem dX0_crewByItself_80 : decode cX0_crewByItself 80 = .ok (.getfield 23, 3) := by decide +kernel
theorem dX0_crewByItself_83 : decode cX0_crewByItself 83 = .ok (.iload 8, 2) := by decide +kernel
theorem dX0_crewByItself_85 : decode cX0_crewByItself 85 = .ok (.aaload, 1) := by decide +kernel
theorem dX0_crewByItself_86 : decode cX0_crewByItself 86 = .ok (.getfield 105, 3) := by decide +kernel
theorem dX0_crewByItself_89 : decode cX0_crewByItself 89 = .ok (.iadd, 1) := by decide +kernel
theorem dX0_crewByItself_90 : decode cX0_crewByItself 90 = .ok (.istore 6, 2) := by decide +kernel
theorem dX0_crewByItself_92 : decode cX0_crewByItself 92 = .ok (.iload 6, 2) := by decide +kernel
theorem dX0_crewByItself_94 : decode cX0_crewByItself 94 = .ok (.iload_n 3, 1) := by decide +kernel
theorem dX0_crewByItself_95 : decode cX0_crewByItself 95 = .ok (.if_icmp .lt 6, 3) := by decide +kernel
theorem dX0_crewByItself_98 : decode cX0_crewByItself 98 = .ok (.iload 5, 2) := by decide +kernel
theorem dX0_crewByItself_100 : decode cX0_crewByItself 100 = .ok (.ireturn, 1) := by decide +kernel
theorem dX0_crewByItself_101 : decode cX0_crewByItself 101 = .ok (.iinc 7 1, 3) := by decide +kernel
theorem dX0_crewByItself_104 : decode cX0_crewByItself 104 = .ok (.goto (-70), 3) := by decide +kernel
theorem dX0_crewByItself_107 : decode cX0_crewByItself 107 = .ok (.bipush (-6), 2) := by decide +kernel
theorem dX0_crewByItself_109 : decode cX0_crewByItself 109 = .ok (.ireturn, 1) := by decide +kernel
theorem dX0_fewestPeopleStraps_0 : decode cX0_fewestPeopleStraps 0 = .ok (.bipush (-6), 2) := by decide +kernel
theorem dX0_fewestPeopleStraps_2 : decode cX0_fewestPeopleStraps 2 = .ok (.istore_n 2, 1) := by decide +kernel
theorem dX0_fewestPeopleStraps_3 : decode cX0_fewestPeopleStraps 3 = .ok (.bipush 11, 2) := by decide +kernel
theorem dX0_fewestPeopleStraps_5 : decode cX0_fewestPeopleStraps 5 = .ok (.istore_n 3, 1) := by decide +kernel
theorem dX0_fewestPeopleStraps_6 : decode cX0_fewestPeopleStraps 6 = .ok (.aload_n 0, 1) := by decide +kernel
theorem dX0_fewestPeopleStraps_7 : decode cX0_fewestPeopleStraps 7 = .ok (.aload_n 1, 1) := by decide +kernel
theorem dX0_fewestPeopleStraps_8 : decode cX0_fewestPeopleStraps 8 = .ok (.bipush (-6), 2) := by decide +kernel
theorem dX0_fewestPeopleStraps_10 : decode cX0_fewestPeopleStraps 10 = .ok (.invokevirtual 147, 3) := by decide +kernel
theorem dX0_fewestPeopleStraps_13 : decode cX0_fewestPeopleStraps 13 = .ok (.istore 4, 2) := by decide +kernel
theorem dX0_fewestPeopleStraps_15 : decode cX0_fewestPeopleStraps 15 = .ok (.iload 4, 2) := by decide +kernel
theorem dX0_fewestPeopleStraps_17 : decode cX0_fewestPeopleStraps 17 = .ok (.bipush (-6), 2) := by decide +kernel
theorem dX0_fewestPeopleStraps_19 : decode cX0_fewestPeopleStraps 19 = .ok (.if_icmp .eq 11, 3) := by decide +kernel
theorem dX0_fewestPeopleStraps_22 : decode cX0_fewestPeopleStraps 22 = .ok (.iconst 3, 1) := by decide +kernel
theorem dX0_fewestPeopleStraps_23 : decode cX0_fewestPeopleStraps 23 = .ok (.istore_n 2, 1) := by decide +kernel
theorem dX0_fewestPeopleStraps_24 : decode cX0_fewestPeopleStraps 24 = .ok (.iload 4, 2) := by decide +kernel
theorem dX0_fewestPeopleStraps_26 : decode cX0_fewestPeopleStraps 26 = .ok (.invokestatic 108, 3) := by decide +kernel
theorem dX0_fewestPeopleStraps_29 : decode cX0_fewestPeopleStraps 29 = .ok (.istore_n 3, 1) := by decide +kernel
theorem dX0_fewestPeopleStraps_30 : decode cX0_fewestPeopleStraps 30 = .ok (.iconst 0, 1) := by decide +kernel
theorem dX0_fewestPeopleStraps_31 : decode cX0_fewestPeopleStraps 31 = .ok (.istore 5, 2) := by decide +kernel
theorem dX0_fewestPeopleStraps_33 : decode cX0_fewestPeopleStraps 33 = .ok (.iload 5, 2) := by decide +kernel
theorem dX0_fewestPeopleStraps_35 : decode cX0_fewestPeopleStraps 35 = .ok (.iconst 3, 1) := by decide +kernel
theorem dX0_fewestPeopleStraps_36 : decode cX0_fewestPeopleStraps 36 = .ok (.if_icmp .ge 43, 3) := by decide +kernel
theorem dX0_fewestPeopleStraps_39 : decode cX0_fewestPeopleStraps 39 = .ok (.aload_n 0, 1) := by decide +kernel
theorem dX0_fewestPeopleStraps_40 : decode cX0_fewestPeopleStraps 40 = .ok (.aload_n 1, 1) := by decide +kernel
theorem dX0_fewestPeopleStraps_41 : decode cX0_fewestPeopleStraps 41 = .ok (.iload 5, 2) := by decide +kernel
theorem dX0_fewestPeopleStraps_43 : decode cX0_fewestPeopleStraps 43 = .ok (.invokevirtual 147, 3) := by decide +kernel
theorem dX0_fewestPeopleStraps_46 : decode cX0_fewestPeopleStraps 46 = .ok (.istore 4, 2) := by decide +kernel
theorem dX0_fewestPeopleStraps_48 : decode cX0_fewestPeopleStraps 48 = .ok (.iload 4, 2) := by decide +kernel
theorem dX0_fewestPeopleStraps_50 : decode cX0_fewestPeopleStraps 50 = .ok (.bipush (-6), 2) := by decide +kernel
theorem dX0_fewestPeopleStraps_52 : decode cX0_fewestPeopleStraps 52 = .ok (.if_icmp .eq 21, 3) := by decide +kernel
theorem dX0_fewestPeopleStraps_55 : decode cX0_fewestPeopleStraps 55 = .ok (.iload 4, 2) := by decide +kernel
theorem dX0_fewestPeopleStraps_57 : decode cX0_fewestPeopleStraps 57 = .ok (.invokestatic 108, 3) := by decide +kernel
theorem dX0_fewestPeopleStraps_60 : decode cX0_fewestPeopleStraps 60 = .ok (.iload_n 3, 1) := by decide +kernel
theorem dX0_fewestPeopleStraps_61 : decode cX0_fewestPeopleStraps 61 = .ok (.if_icmp .ge 12, 3) := by decide +kernel
theorem dX0_fewestPeopleStraps_64 : decode cX0_fewestPeopleStraps 64 = .ok (.iload 5, 2) := by decide +kernel
theorem dX0_fewestPeopleStraps_66 : decode cX0_fewestPeopleStraps 66 = .ok (.istore_n 2, 1) := by decide +kernel
theorem dX0_fewestPeopleStraps_67 : decode cX0_fewestPeopleStraps 67 = .ok (.iload 4, 2) := by decide +kernel
theorem dX0_fewestPeopleStraps_69 : decode cX0_fewestPeopleStraps 69 = .ok (.invokestatic 108, 3) := by decide +kernel
theorem dX0_fewestPeopleStraps_72 : decode cX0_fewestPeopleStraps 72 = .ok (.istore_n 3, 1) := by decide +kernel
theorem dX0_fewestPeopleStraps_73 : decode cX0_fewestPeopleStraps 73 = .ok (.iinc 5 1, 3) := by decide +kernel
theorem dX0_fewestPeopleStraps_76 : decode cX0_fewestPeopleStraps 76 = .ok (.goto (-43), 3) := by decide +kernel
theorem dX0_fewestPeopleStraps_79 : decode cX0_fewestPeopleStraps 79 = .ok (.iload_n 2, 1) := by decide +kernel
theorem dX0_fewestPeopleStraps_80 : decode cX0_fewestPeopleStraps 80 = .ok (.ireturn, 1) := by decide +kernel
theorem dX0_beginJob_0 : decode cX0_beginJob 0 = .ok (.aload_n 0, 1) := by decide +kernel
theorem dX0_beginJob_1 : decode cX0_beginJob 1 = .ok (.iload_n 1, 1) := by decide +kernel
theorem dX0_beginJob_2 : decode cX0_beginJob 2 = .ok (.iload_n 2, 1) := by decide +kernel
theorem dX0_beginJob_3 : decode cX0_beginJob 3 = .ok (.iload_n 3, 1) := by decide +kernel
theorem dX0_beginJob_4 : decode cX0_beginJob 4 = .ok (.invokevirtual 150, 3) := by decide +kernel
theorem dX0_beginJob_7 : decode cX0_beginJob 7 = .ok (.istore 4, 2) := by decide +kernel
theorem dX0_beginJob_9 : decode cX0_beginJob 9 = .ok (.iload 4, 2) := by decide +kernel
theorem dX0_beginJob_11 : decode cX0_beginJob 11 = .ok (.ifCond .eq 16, 3) := by decide +kernel
theorem dX0_beginJob_14 : decode cX0_beginJob 14 = .ok (.iload 4, 2) := by decide +kernel
theorem dX0_beginJob_16 : decode cX0_beginJob 16 = .ok (.ifCond .ge 8, 3) := by decide +kernel
theorem dX0_beginJob_19 : decode cX0_beginJob 19 = .ok (.iload 4, 2) := by decide +kernel
theorem dX0_beginJob_21 : decode cX0_beginJob 21 = .ok (.goto 5, 3) := by decide +kernel
theorem dX0_beginJob_24 : decode cX0_beginJob 24 = .ok (.bipush (-5), 2) := by decide +kernel
theorem dX0_beginJob_26 : decode cX0_beginJob 26 = .ok (.ireturn, 1) := by decide +kernel
theorem dX0_beginJob_27 : decode cX0_beginJob 27 = .ok (.aload_n 0, 1) := by decide +kernel
theorem dX0_beginJob_28 : decode cX0_beginJob 28 = .ok (.getfield 29, 3) := by decide +kernel
theorem dX0_beginJob_31 : decode cX0_beginJob 31 = .ok (.iload_n 1, 1) := by decide +kernel
theorem dX0_beginJob_32 : decode cX0_beginJob 32 = .ok (.aaload, 1) := by decide +kernel
theorem dX0_beginJob_33 : decode cX0_beginJob 33 = .ok (.astore 5, 2) := by decide +kernel
theorem dX0_beginJob_35 : decode cX0_beginJob 35 = .ok (.aload 5, 2) := by decide +kernel
theorem dX0_beginJob_37 : decode cX0_beginJob 37 = .ok (.aload_n 0, 1) := by decide +kernel
theorem dX0_beginJob_38 : decode cX0_beginJob 38 = .ok (.aload 5, 2) := by decide +kernel
theorem dX0_beginJob_40 : decode cX0_beginJob 40 = .ok (.iload_n 3, 1) := by decide +kernel
theorem dX0_beginJob_41 : decode cX0_beginJob 41 = .ok (.invokevirtual 137, 3) := by decide +kernel
theorem dX0_beginJob_44 : decode cX0_beginJob 44 = .ok (.putfield 154, 3) := by decide +kernel
theorem dX0_beginJob_47 : decode cX0_beginJob 47 = .ok (.aload 5, 2) := by decide +kernel
theorem dX0_beginJob_49 : decode cX0_beginJob 49 = .ok (.iconst 1, 1) := by decide +kernel
theorem dX0_beginJob_50 : decode cX0_beginJob 50 = .ok (.putfield 120, 3) := by decide +kernel
theorem dX0_beginJob_53 : decode cX0_beginJob 53 = .ok (.aload 5, 2) := by decide +kernel
theorem dX0_beginJob_55 : decode cX0_beginJob 55 = .ok (.iload_n 2, 1) := by decide +kernel
theorem dX0_beginJob_56 : decode cX0_beginJob 56 = .ok (.putfield 157, 3) := by decide +kernel
theorem dX0_beginJob_59 : decode cX0_beginJob 59 = .ok (.aload 5, 2) := by decide +kernel
theorem dX0_beginJob_61 : decode cX0_beginJob 61 = .ok (.iload_n 3, 1) := by decide +kernel
theorem dX0_beginJob_62 : decode cX0_beginJob 62 = .ok (.putfield 160, 3) := by decide +kernel
theorem dX0_beginJob_65 : decode cX0_beginJob 65 = .ok (.iload_n 3, 1) := by decide +kernel
theorem dX0_beginJob_66 : decode cX0_beginJob 66 = .ok (.invokestatic 78, 3) := by decide +kernel
theorem dX0_beginJob_69 : decode cX0_beginJob 69 = .ok (.ifCond .eq 13, 3) := by decide +kernel
theorem dX0_beginJob_72 : decode cX0_beginJob 72 = .ok (.aload_n 0, 1) := by decide +kernel
theorem dX0_beginJob_73 : decode cX0_beginJob 73 = .ok (.getfield 18, 3) := by decide +kernel
theorem dX0_beginJob_76 : decode cX0_beginJob 76 = .ok (.iload_n 3, 1) := by decide +kernel
theorem dX0_beginJob_77 : decode cX0_beginJob 77 = .ok (.dup2, 1) := by decide +kernel
theorem dX0_beginJob_78 : decode cX0_beginJob 78 = .ok (.iaload, 1) := by decide +kernel
theorem dX0_beginJob_79 : decode cX0_beginJob 79 = .ok (.iconst 1, 1) := by decide +kernel
theorem dX0_beginJob_80 : decode cX0_beginJob 80 = .ok (.isub, 1) := by decide +kernel
theorem dX0_beginJob_81 : decode cX0_beginJob 81 = .ok (.iastore, 1) := by decide +kernel
theorem dX0_beginJob_82 : decode cX0_beginJob 82 = .ok (.aload_n 0, 1) := by decide +kernel
theorem dX0_beginJob_83 : decode cX0_beginJob 83 = .ok (.iload_n 2, 1) := by decide +kernel
theorem dX0_beginJob_84 : decode cX0_beginJob 84 = .ok (.iload_n 1, 1) := by decide +kernel
theorem dX0_beginJob_85 : decode cX0_beginJob 85 = .ok (.invokevirtual 163, 3) := by decide +kernel
theorem dX0_beginJob_88 : decode cX0_beginJob 88 = .ok (.aload 5, 2) := by decide +kernel
theorem dX0_beginJob_90 : decode cX0_beginJob 90 = .ok (.getfield 154, 3) := by decide +kernel
theorem dX0_beginJob_93 : decode cX0_beginJob 93 = .ok (.ireturn, 1) := by decide +kernel
theorem dX0_placeCrew_0 : decode cX0_placeCrew 0 = .ok (.iconst 0, 1) := by decide +kernel
theorem dX0_placeCrew_1 : decode cX0_placeCrew 1 = .ok (.istore_n 3, 1) := by decide +kernel
theorem dX0_placeCrew_2 : decode cX0_placeCrew 2 = .ok (.iload_n 3, 1) := by decide +kernel
theorem dX0_placeCrew_3 : decode cX0_placeCrew 3 = .ok (.aload_n 0, 1) := by decide +kernel
theorem dX0_placeCrew_4 : decode cX0_placeCrew 4 = .ok (.getfield 41, 3) := by decide +kernel
theorem dX0_placeCrew_7 : decode cX0_placeCrew 7 = .ok (.if_icmp .ge 27, 3) := by decide +kernel
theorem dX0_placeCrew_10 : decode cX0_placeCrew 10 = .ok (.iload_n 3, 1) := by decide +kernel
theorem dX0_placeCrew_11 : decode cX0_placeCrew 11 = .ok (.iload_n 1, 1) := by decide +kernel
theorem dX0_placeCrew_12 : decode cX0_placeCrew 12 = .ok (.invokestatic 101, 3) := by decide +kernel
theorem dX0_placeCrew_15 : decode cX0_placeCrew 15 = .ok (.ifCond .eq 13, 3) := by decide +kernel
theorem dX0_placeCrew_18 : decode cX0_placeCrew 18 = .ok (.aload_n 0, 1) := by decide +kernel
theorem dX0_placeCrew_19 : decode cX0_placeCrew 19 = .ok (.getfield 23, 3) := by decide +kernel
theorem dX0_placeCrew_22 : decode cX0_placeCrew 22 = .ok (.iload_n 3, 1) := by decide +kernel
theorem dX0_placeCrew_23 : decode cX0_placeCrew 23 = .ok (.aaload, 1) := by decide +kernel
theorem dX0_placeCrew_24 : decode cX0_placeCrew 24 = .ok (.iload_n 2, 1) := by decide +kernel
theorem dX0_placeCrew_25 : decode cX0_placeCrew 25 = .ok (.putfield 98, 3) := by decide +kernel
theorem dX0_placeCrew_28 : decode cX0_placeCrew 28 = .ok (.iinc 3 1, 3) := by decide +kernel
theorem dX0_placeCrew_31 : decode cX0_placeCrew 31 = .ok (.goto (-29), 3) := by decide +kernel
theorem dX0_placeCrew_34 : decode cX0_placeCrew 34 = .ok (.return_, 1) := by decide +kernel
theorem dX0_assignJobs_0 : decode cX0_assignJobs 0 = .ok (.iconst 0, 1) := by decide +kernel
theorem dX0_assignJobs_1 : decode cX0_assignJobs 1 = .ok (.istore_n 1, 1) := by decide +kernel
theorem dX0_assignJobs_2 : decode cX0_assignJobs 2 = .ok (.aload_n 0, 1) := by decide +kernel
theorem dX0_assignJobs_3 : decode cX0_assignJobs 3 = .ok (.iconst (-1), 1) := by decide +kernel
theorem dX0_assignJobs_4 : decode cX0_assignJobs 4 = .ok (.invokevirtual 167, 3) := by decide +kernel
theorem dX0_assignJobs_7 : decode cX0_assignJobs 7 = .ok (.istore_n 2, 1) := by decide +kernel
theorem dX0_assignJobs_8 : decode cX0_assignJobs 8 = .ok (.iconst 0, 1) := by decide +kernel
theorem dX0_assignJobs_9 : decode cX0_assignJobs 9 = .ok (.istore_n 3, 1) := by decide +kernel
theorem dX0_assignJobs_10 : decode cX0_assignJobs 10 = .ok (.iload_n 3, 1) := by decide +kernel
theorem dX0_assignJobs_11 : decode cX0_assignJobs 11 = .ok (.bipush 16, 2) := by decide +kernel
theorem dX0_assignJobs_13 : decode cX0_assignJobs 13 = .ok (.if_icmp .ge 87, 3) := by decide +kernel
theorem dX0_assignJobs_16 : decode cX0_assignJobs 16 = .ok (.aload_n 0, 1) := by decide +kernel
theorem dX0_assignJobs_17 : decode cX0_assignJobs 17 = .ok (.iload_n 2, 1) := by decide +kernel
theorem dX0_assignJobs_18 : decode cX0_assignJobs 18 = .ok (.invokevirtual 114, 3) := by decide +kernel
theorem dX0_assignJobs_21 : decode cX0_assignJobs 21 = .ok (.ifCond .eq 79, 3) := by decide +kernel
theorem dX0_assignJobs_24 : decode cX0_assignJobs 24 = .ok (.aload_n 0, 1) := by decide +kernel
theorem dX0_assignJobs_25 : decode cX0_assignJobs 25 = .ok (.aload_n 0, 1) := by decide +kernel
theorem dX0_assignJobs_26 : decode cX0_assignJobs 26 = .ok (.getfield 29, 3) := by decide +kernel
theorem dX0_assignJobs_29 : decode cX0_assignJobs 29 = .ok (.iload_n 2, 1) := by decide +kernel
theorem dX0_assignJobs_30 : decode cX0_assignJobs 30 = .ok (.aaload, 1) := by decide +kernel
theorem dX0_assignJobs_31 : decode cX0_assignJobs 31 = .ok (.invokevirtual 170, 3) := by decide +kernel
theorem dX0_assignJobs_34 : decode cX0_assignJobs 34 = .ok (.istore 4, 2) := by decide +kernel
theorem dX0_assignJobs_36 : decode cX0_assignJobs 36 = .ok (.iload 4, 2) := by decide +kernel
theorem dX0_assignJobs_38 : decode cX0_assignJobs 38 = .ok (.invokestatic 78, 3) := by decide +kernel
theorem dX0_assignJobs_41 : decode cX0_assignJobs 41 = .ok (.ifCond .eq 8, 3) := by decide +kernel
theorem dX0_assignJobs_44 : decode cX0_assignJobs 44 = .ok (.iload 4, 2) := by decide +kernel
theorem dX0_assignJobs_46 : decode cX0_assignJobs 46 = .ok (.goto 5, 3) := by decide +kernel
theorem dX0_assignJobs_49 : decode cX0_assignJobs 49 = .ok (.bipush (-6), 2) := by decide +kernel
theorem dX0_assignJobs_51 : decode cX0_assignJobs 51 = .ok (.istore 5, 2) := by decide +kernel
theorem dX0_assignJobs_53 : decode cX0_assignJobs 53 = .ok (.iload 4, 2) := by decide +kernel
theorem dX0_assignJobs_55 : decode cX0_assignJobs 55 = .ok (.bipush (-6), 2) := by decide +kernel
theorem dX0_assignJobs_57 : decode cX0_assignJobs 57 = .ok (.if_icmp .eq 31, 3) := by decide +kernel
theorem dX0_assignJobs_60 : decode cX0_assignJobs 60 = .ok (.aload_n 0, 1) := by decide +kernel
theorem dX0_assignJobs_61 : decode cX0_assignJobs 61 = .ok (.iload_n 2, 1) := by decide +kernel
theorem dX0_assignJobs_62 : decode cX0_assignJobs 62 = .ok (.aload_n 0, 1) := by decide +kernel
theorem dX0_assignJobs_63 : decode cX0_assignJobs 63 = .ok (.aload_n 0, 1) := by decide +kernel
theorem dX0_assignJobs_64 : decode cX0_assignJobs 64 = .ok (.getfield 29, 3) := by decide +kernel
theorem dX0_assignJobs_67 : decode cX0_assignJobs 67 = .ok (.iload_n 2, 1) := by decide +kernel
theorem dX0_assignJobs_68 : decode cX0_assignJobs 68 = .ok (.aaload, 1) := by decide +kernel
theorem dX0_assignJobs_69 : decode cX0_assignJobs 69 = .ok (.iload 5, 2) := by decide +kernel
theorem dX0_assignJobs_71 : decode cX0_assignJobs 71 = .ok (.invokevirtual 147, 3) := by decide +kernel
theorem dX0_assignJobs_74 : decode cX0_assignJobs 74 = .ok (.iload 5, 2) := by decide +kernel
theorem dX0_assignJobs_76 : decode cX0_assignJobs 76 = .ok (.invokevirtual 173, 3) := by decide +kernel
theorem dX0_assignJobs_79 : decode cX0_assignJobs 79 = .ok (.ifCond .lt 9, 3) := by decide +kernel
theorem dX0_assignJobs_82 : decode cX0_assignJobs 82 = .ok (.iload_n 1, 1) := by decide +kernel
theorem dX0_assignJobs_83 : decode cX0_assignJobs 83 = .ok (.iconst 1, 1) := by decide +kernel
theorem dX0_assignJobs_84 : decode cX0_assignJobs 84 = .ok (.iload_n 2, 1) := by decide +kernel
theorem dX0_assignJobs_85 : decode cX0_assignJobs 85 = .ok (.ishl, 1) := by decide +kernel
theorem dX0_assignJobs_86 : decode cX0_assignJobs 86 = .ok (.ior, 1) := by decide +kernel
theorem dX0_assignJobs_87 : decode cX0_assignJobs 87 = .ok (.istore_n 1, 1) := by decide +kernel
theorem dX0_assignJobs_88 : decode cX0_assignJobs 88 = .ok (.aload_n 0, 1) := by decide +kernel
theorem dX0_assignJobs_89 : decode cX0_assignJobs 89 = .ok (.iload_n 2, 1) := by decide +kernel
theorem dX0_assignJobs_90 : decode cX0_assignJobs 90 = .ok (.invokevirtual 167, 3) := by decide +kernel
theorem dX0_assignJobs_93 : decode cX0_assignJobs 93 = .ok (.istore_n 2, 1) := by decide +kernel
theorem dX0_assignJobs_94 : decode cX0_assignJobs 94 = .ok (.iinc 3 1, 3) := by decide +kernel
theorem dX0_assignJobs_97 : decode cX0_assignJobs 97 = .ok (.goto (-87), 3) := by decide +kernel
theorem dX0_assignJobs_100 : decode cX0_assignJobs 100 = .ok (.iload_n 1, 1) := by decide +kernel
theorem dX0_assignJobs_101 : decode cX0_assignJobs 101 = .ok (.ireturn, 1) := by decide +kernel
theorem dX0_isAhead_0 : decode cX0_isAhead 0 = .ok (.iload_n 1, 1) := by decide +kernel
theorem dX0_isAhead_1 : decode cX0_isAhead 1 = .ok (.iload_n 2, 1) := by decide +kernel
theorem dX0_isAhead_2 : decode cX0_isAhead 2 = .ok (.if_icmp .ge 21, 3) := by decide +kernel
theorem dX0_isAhead_5 : decode cX0_isAhead 5 = .ok (.aload_n 0, 1) := by decide +kernel
theorem dX0_isAhead_6 : decode cX0_isAhead 6 = .ok (.getfield 29, 3) := by decide +kernel
theorem dX0_isAhead_9 : decode cX0_isAhead 9 = .ok (.iload_n 1, 1) := by decide +kernel
theorem dX0_isAhead_10 : decode cX0_isAhead 10 = .ok (.aaload, 1) := by decide +kernel
theorem dX0_isAhead_11 : decode cX0_isAhead 11 = .ok (.aload_n 0, 1) := by decide +kernel
theorem dX0_isAhead_12 : decode cX0_isAhead 12 = .ok (.getfield 29, 3) := by decide +kernel
theorem dX0_isAhead_15 : decode cX0_isAhead 15 = .ok (.iload_n 2, 1) := by decide +kernel
theorem dX0_isAhead_16 : decode cX0_isAhead 16 = .ok (.aaload, 1) := by decide +kernel
theorem dX0_isAhead_17 : decode cX0_isAhead 17 = .ok (.invokevirtual 176, 3) := by decide +kernel
theorem dX0_isAhead_20 : decode cX0_isAhead 20 = .ok (.goto 26, 3) := by decide +kernel
theorem dX0_isAhead_23 : decode cX0_isAhead 23 = .ok (.aload_n 0, 1) := by decide +kernel
theorem dX0_isAhead_24 : decode cX0_isAhead 24 = .ok (.getfield 29, 3) := by decide +kernel
theorem dX0_isAhead_27 : decode cX0_isAhead 27 = .ok (.iload_n 2, 1) := by decide +kernel
theorem dX0_isAhead_28 : decode cX0_isAhead 28 = .ok (.aaload, 1) := by decide +kernel
theorem dX0_isAhead_29 : decode cX0_isAhead 29 = .ok (.aload_n 0, 1) := by decide +kernel
theorem dX0_isAhead_30 : decode cX0_isAhead 30 = .ok (.getfield 29, 3) := by decide +kernel
theorem dX0_isAhead_33 : decode cX0_isAhead 33 = .ok (.iload_n 1, 1) := by decide +kernel
theorem dX0_isAhead_34 : decode cX0_isAhead 34 = .ok (.aaload, 1) := by decide +kernel
theorem dX0_isAhead_35 : decode cX0_isAhead 35 = .ok (.invokevirtual 176, 3) := by decide +kernel
theorem dX0_isAhead_38 : decode cX0_isAhead 38 = .ok (.ifCond .ne 7, 3) := by decide +kernel
theorem dX0_isAhead_41 : decode cX0_isAhead 41 = .ok (.iconst 1, 1) := by decide +kernel
theorem dX0_isAhead_42 : decode cX0_isAhead 42 = .ok (.goto 4, 3) := by decide +kernel
theorem dX0_isAhead_45 : decode cX0_isAhead 45 = .ok (.iconst 0, 1) := by decide +kernel
theorem dX0_isAhead_46 : decode cX0_isAhead 46 = .ok (.ireturn, 1) := by decide +kernel
theorem dX0_nextWaiting_0 : decode cX0_nextWaiting 0 = .ok (.iconst (-1), 1) := by decide +kernel
theorem dX0_nextWaiting_1 : decode cX0_nextWaiting 1 = .ok (.istore_n 2, 1) := by decide +kernel
theorem dX0_nextWaiting_2 : decode cX0_nextWaiting 2 = .ok (.iconst 0, 1) := by decide +kernel
theorem dX0_nextWaiting_3 : decode cX0_nextWaiting 3 = .ok (.istore_n 3, 1) := by decide +kernel
theorem dX0_nextWaiting_4 : decode cX0_nextWaiting 4 = .ok (.iload_n 3, 1) := by decide +kernel
theorem dX0_nextWaiting_5 : decode cX0_nextWaiting 5 = .ok (.aload_n 0, 1) := by decide +kernel
theorem dX0_nextWaiting_6 : decode cX0_nextWaiting 6 = .ok (.getfield 45, 3) := by decide +kernel
theorem dX0_nextWaiting_9 : decode cX0_nextWaiting 9 = .ok (.if_icmp .ge 74, 3) := by decide +kernel
theorem dX0_nextWaiting_12 : decode cX0_nextWaiting 12 = .ok (.aload_n 0, 1) := by decide +kernel
theorem dX0_nextWaiting_13 : decode cX0_nextWaiting 13 = .ok (.iload_n 1, 1) := by decide +kernel
theorem dX0_nextWaiting_14 : decode cX0_nextWaiting 14 = .ok (.invokevirtual 114, 3) := by decide +kernel
theorem dX0_nextWaiting_17 : decode cX0_nextWaiting 17 = .ok (.ifCond .eq 17, 3) := by decide +kernel
theorem dX0_nextWaiting_20 : decode cX0_nextWaiting 20 = .ok (.iload_n 3, 1) := by decide +kernel
theorem dX0_nextWaiting_21 : decode cX0_nextWaiting 21 = .ok (.iload_n 1, 1) := by decide +kernel
theorem dX0_nextWaiting_22 : decode cX0_nextWaiting 22 = .ok (.if_icmp .eq 16, 3) := by decide +kernel
theorem dX0_nextWaiting_25 : decode cX0_nextWaiting 25 = .ok (.aload_n 0, 1) := by decide +kernel
theorem dX0_nextWaiting_26 : decode cX0_nextWaiting 26 = .ok (.iload_n 1, 1) := by decide +kernel
theorem dX0_nextWaiting_27 : decode cX0_nextWaiting 27 = .ok (.iload_n 3, 1) := by decide +kernel
theorem dX0_nextWaiting_28 : decode cX0_nextWaiting 28 = .ok (.invokevirtual 180, 3) := by decide +kernel
theorem dX0_nextWaiting_31 : decode cX0_nextWaiting 31 = .ok (.ifCond .eq 7, 3) := by decide +kernel
theorem dX0_nextWaiting_34 : decode cX0_nextWaiting 34 = .ok (.iconst 1, 1) := by decide +kernel
theorem dX0_nextWaiting_35 : decode cX0_nextWaiting 35 = .ok (.goto 4, 3) := by decide +kernel
theorem dX0_nextWaiting_38 : decode cX0_nextWaiting 38 = .ok (.iconst 0, 1) := by decide +kernel
theorem dX0_nextWaiting_39 : decode cX0_nextWaiting 39 = .ok (.istore 4, 2) := by decide +kernel
theorem dX0_nextWaiting_41 : decode cX0_nextWaiting 41 = .ok (.aload_n 0, 1) := by decide +kernel
theorem dX0_nextWaiting_42 : decode cX0_nextWaiting 42 = .ok (.getfield 29, 3) := by decide +kernel
theorem dX0_nextWaiting_45 : decode cX0_nextWaiting 45 = .ok (.iload_n 3, 1) := by decide +kernel
theorem dX0_nextWaiting_46 : decode cX0_nextWaiting 46 = .ok (.aaload, 1) := by decide +kernel
theorem dX0_nextWaiting_47 : decode cX0_nextWaiting 47 = .ok (.getfield 120, 3) := by decide +kernel
theorem dX0_nextWaiting_50 : decode cX0_nextWaiting 50 = .ok (.ifCond .ne 27, 3) := by decide +kernel
theorem dX0_nextWaiting_53 : decode cX0_nextWaiting 53 = .ok (.iload 4, 2) := by decide +kernel
theorem dX0_nextWaiting_55 : decode cX0_nextWaiting 55 = .ok (.ifCond .eq 22, 3) := by decide +kernel
theorem dX0_nextWaiting_58 : decode cX0_nextWaiting 58 = .ok (.aload_n 0, 1) := by decide +kernel
theorem dX0_nextWaiting_59 : decode cX0_nextWaiting 59 = .ok (.iload_n 2, 1) := by decide +kernel
theorem dX0_nextWaiting_60 : decode cX0_nextWaiting 60 = .ok (.invokevirtual 114, 3) := by decide +kernel
theorem dX0_nextWaiting_63 : decode cX0_nextWaiting 63 = .ok (.ifCond .eq 12, 3) := by decide +kernel
theorem dX0_nextWaiting_66 : decode cX0_nextWaiting 66 = .ok (.aload_n 0, 1) := by decide +kernel
theorem dX0_nextWaiting_67 : decode cX0_nextWaiting 67 = .ok (.iload_n 3, 1) := by decide +kernel
theorem dX0_nextWaiting_68 : decode cX0_nextWaiting 68 = .ok (.iload_n 2, 1) := by decide +kernel
theorem dX0_nextWaiting_69 : decode cX0_nextWaiting 69 = .ok (.invokevirtual 180, 3) := by decide +kernel
theorem dX0_nextWaiting_72 : decode cX0_nextWaiting 72 = .ok (.ifCond .eq 5, 3) := by decide +kernel
theorem dX0_nextWaiting_75 : decode cX0_nextWaiting 75 = .ok (.iload_n 3, 1) := by decide +kernel
theorem dX0_nextWaiting_76 : decode cX0_nextWaiting 76 = .ok (.istore_n 2, 1) := by decide +kernel
theorem dX0_nextWaiting_77 : decode cX0_nextWaiting 77 = .ok (.iinc 3 1, 3) := by decide +kernel
theorem dX0_nextWaiting_80 : decode cX0_nextWaiting 80 = .ok (.goto (-76), 3) := by decide +kernel
theorem dX0_nextWaiting_83 : decode cX0_nextWaiting 83 = .ok (.iload_n 2, 1) := by decide +kernel
theorem dX0_nextWaiting_84 : decode cX0_nextWaiting 84 = .ok (.ireturn, 1) := by decide +kernel
theorem dX0_waitingAt_0 : decode cX0_waitingAt 0 = .ok (.aload_n 0, 1) := by decide +kernel
theorem dX0_waitingAt_1 : decode cX0_waitingAt 1 = .ok (.iload_n 1, 1) := by decide +kernel
theorem dX0_waitingAt_2 : decode cX0_waitingAt 2 = .ok (.invokevirtual 114, 3) := by decide +kernel
theorem dX0_waitingAt_5 : decode cX0_waitingAt 5 = .ok (.ifCond .ne 5, 3) := by decide +kernel
theorem dX0_waitingAt_8 : decode cX0_waitingAt 8 = .ok (.iconst (-1), 1) := by decide +kernel
theorem dX0_waitingAt_9 : decode cX0_waitingAt 9 = .ok (.ireturn, 1) := by decide +kernel
theorem dX0_waitingAt_10 : decode cX0_waitingAt 10 = .ok (.aload_n 0, 1) := by decide +kernel
theorem dX0_waitingAt_11 : decode cX0_waitingAt 11 = .ok (.iconst (-1), 1) := by decide +kernel
theorem dX0_waitingAt_12 : decode cX0_waitingAt 12 = .ok (.invokevirtual 167, 3) := by decide +kernel
theorem dX0_waitingAt_15 : decode cX0_waitingAt 15 = .ok (.istore_n 2, 1) := by decide +kernel
theorem dX0_waitingAt_16 : decode cX0_waitingAt 16 = .ok (.iconst 0, 1) := by decide +kernel
theorem dX0_waitingAt_17 : decode cX0_waitingAt 17 = .ok (.istore_n 3, 1) := by decide +kernel
theorem dX0_waitingAt_18 : decode cX0_waitingAt 18 = .ok (.iload_n 3, 1) := by decide +kernel
theorem dX0_waitingAt_19 : decode cX0_waitingAt 19 = .ok (.iload_n 1, 1) := by decide +kernel
theorem dX0_waitingAt_20 : decode cX0_waitingAt 20 = .ok (.if_icmp .ge 23, 3) := by decide +kernel
theorem dX0_waitingAt_23 : decode cX0_waitingAt 23 = .ok (.aload_n 0, 1) := by decide +kernel
theorem dX0_waitingAt_24 : decode cX0_waitingAt 24 = .ok (.iload_n 2, 1) := by decide +kernel
theorem dX0_waitingAt_25 : decode cX0_waitingAt 25 = .ok (.invokevirtual 114, 3) := by decide +kernel
theorem dX0_waitingAt_28 : decode cX0_waitingAt 28 = .ok (.ifCond .eq 15, 3) := by decide +kernel
theorem dX0_waitingAt_31 : decode cX0_waitingAt 31 = .ok (.aload_n 0, 1) := by decide +kernel
theorem dX0_waitingAt_32 : decode cX0_waitingAt 32 = .ok (.iload_n 2, 1) := by decide +kernel
theorem dX0_waitingAt_33 : decode cX0_waitingAt 33 = .ok (.invokevirtual 167, 3) := by decide +kernel
theorem dX0_waitingAt_36 : decode cX0_waitingAt 36 = .ok (.istore_n 2, 1) := by decide +kernel
theorem dX0_waitingAt_37 : decode cX0_waitingAt 37 = .ok (.iinc 3 1, 3) := by decide +kernel
theorem dX0_waitingAt_40 : decode cX0_waitingAt 40 = .ok (.goto (-22), 3) := by decide +kernel
theorem dX0_waitingAt_43 : decode cX0_waitingAt 43 = .ok (.iload_n 2, 1) := by decide +kernel
theorem dX0_waitingAt_44 : decode cX0_waitingAt 44 = .ok (.ireturn, 1) := by decide +kernel
theorem dX0_delayJob_0 : decode cX0_delayJob 0 = .ok (.aload_n 0, 1) := by decide +kernel
theorem dX0_delayJob_1 : decode cX0_delayJob 1 = .ok (.iload_n 1, 1) := by decide +kernel
theorem dX0_delayJob_2 : decode cX0_delayJob 2 = .ok (.invokevirtual 114, 3) := by decide +kernel
theorem dX0_delayJob_5 : decode cX0_delayJob 5 = .ok (.ifCond .ne 5, 3) := by decide +kernel
theorem dX0_delayJob_8 : decode cX0_delayJob 8 = .ok (.iconst (-1), 1) := by decide +kernel
theorem dX0_delayJob_9 : decode cX0_delayJob 9 = .ok (.ireturn, 1) := by decide +kernel
theorem dX0_delayJob_10 : decode cX0_delayJob 10 = .ok (.iload_n 2, 1) := by decide +kernel
theorem dX0_delayJob_11 : decode cX0_delayJob 11 = .ok (.iconst 1, 1) := by decide +kernel
theorem dX0_delayJob_12 : decode cX0_delayJob 12 = .ok (.bipush 20, 2) := by decide +kernel
theorem dX0_delayJob_14 : decode cX0_delayJob 14 = .ok (.invokestatic 64, 3) := by decide +kernel
theorem dX0_delayJob_17 : decode cX0_delayJob 17 = .ok (.ifCond .ne 6, 3) := by decide +kernel
theorem dX0_delayJob_20 : decode cX0_delayJob 20 = .ok (.bipush (-2), 2) := by decide +kernel
theorem dX0_delayJob_22 : decode cX0_delayJob 22 = .ok (.ireturn, 1) := by decide +kernel
theorem dX0_delayJob_23 : decode cX0_delayJob 23 = .ok (.aload_n 0, 1) := by decide +kernel
theorem dX0_delayJob_24 : decode cX0_delayJob 24 = .ok (.getfield 29, 3) := by decide +kernel
theorem dX0_delayJob_27 : decode cX0_delayJob 27 = .ok (.iload_n 1, 1) := by decide +kernel
theorem dX0_delayJob_28 : decode cX0_delayJob 28 = .ok (.aaload, 1) := by decide +kernel
theorem dX0_delayJob_29 : decode cX0_delayJob 29 = .ok (.getfield 120, 3) := by decide +kernel
theorem dX0_delayJob_32 : decode cX0_delayJob 32 = .ok (.iconst 1, 1) := by decide +kernel
theorem dX0_delayJob_33 : decode cX0_delayJob 33 = .ok (.if_icmp .ne 19, 3) := by decide +kernel
theorem dX0_delayJob_36 : decode cX0_delayJob 36 = .ok (.aload_n 0, 1) := by decide +kernel
theorem dX0_delayJob_37 : decode cX0_delayJob 37 = .ok (.getfield 29, 3) := by decide +kernel
theorem dX0_delayJob_40 : decode cX0_delayJob 40 = .ok (.iload_n 1, 1) := by decide +kernel
theorem dX0_delayJob_41 : decode cX0_delayJob 41 = .ok (.aaload, 1) := by decide +kernel
theorem dX0_delayJob_42 : decode cX0_delayJob 42 = .ok (.getfield 183, 3) := by decide +kernel
theorem dX0_delayJob_45 : decode cX0_delayJob 45 = .ok (.iload_n 2, 1) := by decide +kernel
theorem dX0_delayJob_46 : decode cX0_delayJob 46 = .ok (.iadd, 1) := by decide +kernel
theorem dX0_delayJob_47 : decode cX0_delayJob 47 = .ok (.bipush 60, 2) := by decide +kernel
theorem dX0_delayJob_49 : decode cX0_delayJob 49 = .ok (.if_icmp .le 6, 3) := by decide +kernel
theorem dX0_delayJob_52 : decode cX0_delayJob 52 = .ok (.bipush (-5), 2) := by decide +kernel
theorem dX0_delayJob_54 : decode cX0_delayJob 54 = .ok (.ireturn, 1) := by decide +kernel
theorem dX0_delayJob_55 : decode cX0_delayJob 55 = .ok (.aload_n 0, 1) := by decide +kernel
theorem dX0_delayJob_56 : decode cX0_delayJob 56 = .ok (.getfield 29, 3) := by decide +kernel
theorem dX0_delayJob_59 : decode cX0_delayJob 59 = .ok (.iload_n 1, 1) := by decide +kernel
theorem dX0_delayJob_60 : decode cX0_delayJob 60 = .ok (.aaload, 1) := by decide +kernel
theorem dX0_delayJob_61 : decode cX0_delayJob 61 = .ok (.dup, 1) := by decide +kernel
theorem dX0_delayJob_62 : decode cX0_delayJob 62 = .ok (.getfield 183, 3) := by decide +kernel
theorem dX0_delayJob_65 : decode cX0_delayJob 65 = .ok (.iload_n 2, 1) := by decide +kernel
theorem dX0_delayJob_66 : decode cX0_delayJob 66 = .ok (.iadd, 1) := by decide +kernel
theorem dX0_delayJob_67 : decode cX0_delayJob 67 = .ok (.putfield 183, 3) := by decide +kernel
theorem dX0_delayJob_70 : decode cX0_delayJob 70 = .ok (.aload_n 0, 1) := by decide +kernel
theorem dX0_delayJob_71 : decode cX0_delayJob 71 = .ok (.getfield 29, 3) := by decide +kernel
theorem dX0_delayJob_74 : decode cX0_delayJob 74 = .ok (.iload_n 1, 1) := by decide +kernel
theorem dX0_delayJob_75 : decode cX0_delayJob 75 = .ok (.aaload, 1) := by decide +kernel
theorem dX0_delayJob_76 : decode cX0_delayJob 76 = .ok (.getfield 183, 3) := by decide +kernel
theorem dX0_delayJob_79 : decode cX0_delayJob 79 = .ok (.ireturn, 1) := by decide +kernel
theorem dX0_callOffJob_0 : decode cX0_callOffJob 0 = .ok (.aload_n 0, 1) := by decide +kernel
theorem dX0_callOffJob_1 : decode cX0_callOffJob 1 = .ok (.iload_n 1, 1) := by decide +kernel
theorem dX0_callOffJob_2 : decode cX0_callOffJob 2 = .ok (.invokevirtual 114, 3) := by decide +kernel
theorem dX0_callOffJob_5 : decode cX0_callOffJob 5 = .ok (.ifCond .ne 5, 3) := by decide +kernel
theorem dX0_callOffJob_8 : decode cX0_callOffJob 8 = .ok (.iconst (-1), 1) := by decide +kernel
theorem dX0_callOffJob_9 : decode cX0_callOffJob 9 = .ok (.ireturn, 1) := by decide +kernel
theorem dX0_callOffJob_10 : decode cX0_callOffJob 10 = .ok (.aload_n 0, 1) := by decide +kernel
theorem dX0_callOffJob_11 : decode cX0_callOffJob 11 = .ok (.getfield 29, 3) := by decide +kernel
theorem dX0_callOffJob_14 : decode cX0_callOffJob 14 = .ok (.iload_n 1, 1) := by decide +kernel
theorem dX0_callOffJob_15 : decode cX0_callOffJob 15 = .ok (.aaload, 1) := by decide +kernel
theorem dX0_callOffJob_16 : decode cX0_callOffJob 16 = .ok (.astore_n 2, 1) := by decide +kernel
theorem dX0_callOffJob_17 : decode cX0_callOffJob 17 = .ok (.aload_n 2, 1) := by decide +kernel
theorem dX0_callOffJob_18 : decode cX0_callOffJob 18 = .ok (.getfield 120, 3) := by decide +kernel
theorem dX0_callOffJob_21 : decode cX0_callOffJob 21 = .ok (.ifCond .eq 14, 3) := by decide +kernel
theorem dX0_callOffJob_24 : decode cX0_callOffJob 24 = .ok (.aload_n 2, 1) := by decide +kernel
theorem dX0_callOffJob_25 : decode cX0_callOffJob 25 = .ok (.getfield 120, 3) := by decide +kernel
theorem dX0_callOffJob_28 : decode cX0_callOffJob 28 = .ok (.iconst 1, 1) := by decide +kernel
theorem dX0_callOffJob_29 : decode cX0_callOffJob 29 = .ok (.if_icmp .eq 6, 3) := by decide +kernel
theorem dX0_callOffJob_32 : decode cX0_callOffJob 32 = .ok (.bipush (-5), 2) := by decide +kernel
theorem dX0_callOffJob_34 : decode cX0_callOffJob 34 = .ok (.ireturn, 1) := by decide +kernel
theorem dX0_callOffJob_35 : decode cX0_callOffJob 35 = .ok (.aload_n 0, 1) := by decide +kernel
theorem dX0_callOffJob_36 : decode cX0_callOffJob 36 = .ok (.aload_n 2, 1) := by decide +kernel
theorem dX0_callOffJob_37 : decode cX0_callOffJob 37 = .ok (.iconst 3, 1) := by decide +kernel
theorem dX0_callOffJob_38 : decode cX0_callOffJob 38 = .ok (.invokevirtual 186, 3) := by decide +kernel
theorem dX0_callOffJob_41 : decode cX0_callOffJob 41 = .ok (.aload_n 2, 1) := by decide +kernel
theorem dX0_callOffJob_42 : decode cX0_callOffJob 42 = .ok (.getfield 157, 3) := by decide +kernel
theorem dX0_callOffJob_45 : decode cX0_callOffJob 45 = .ok (.ireturn, 1) := by decide +kernel
theorem dX0_endJob_0 : decode cX0_endJob 0 = .ok (.aload_n 1, 1) := by decide +kernel
theorem dX0_endJob_1 : decode cX0_endJob 1 = .ok (.getfield 120, 3) := by decide +kernel
theorem dX0_endJob_4 : decode cX0_endJob 4 = .ok (.iconst 1, 1) := by decide +kernel
theorem dX0_endJob_5 : decode cX0_endJob 5 = .ok (.if_icmp .ne 36, 3) := by decide +kernel
theorem dX0_endJob_8 : decode cX0_endJob 8 = .ok (.aload_n 0, 1) := by decide +kernel
theorem dX0_endJob_9 : decode cX0_endJob 9 = .ok (.aload_n 1, 1) := by decide +kernel
theorem dX0_endJob_10 : decode cX0_endJob 10 = .ok (.getfield 157, 3) := by decide +kernel
theorem dX0_endJob_13 : decode cX0_endJob 13 = .ok (.bipush (-6), 2) := by decide +kernel
theorem dX0_endJob_15 : decode cX0_endJob 15 = .ok (.invokevirtual 163, 3) := by decide +kernel
theorem dX0_endJob_18 : decode cX0_endJob 18 = .ok (.aload_n 1, 1) := by decide +kernel
theorem dX0_endJob_19 : decode cX0_endJob 19 = .ok (.getfield 160, 3) := by decide +kernel
theorem dX0_endJob_22 : decode cX0_endJob 22 = .ok (.invokestatic 78, 3) := by decide +kernel
theorem dX0_endJob_25 : decode cX0_endJob 25 = .ok (.ifCond .eq 16, 3) := by decide +kernel
theorem dX0_endJob_28 : decode cX0_endJob 28 = .ok (.aload_n 0, 1) := by decide +kernel
theorem dX0_endJob_29 : decode cX0_endJob 29 = .ok (.getfield 18, 3) := by decide +kernel
theorem dX0_endJob_32 : decode cX0_endJob 32 = .ok (.aload_n 1, 1) := by decide +kernel
theorem dX0_endJob_33 : decode cX0_endJob 33 = .ok (.getfield 160, 3) := by decide +kernel
theorem dX0_endJob_36 : decode cX0_endJob 36 = .ok (.dup2, 1) := by decide +kernel
theorem dX0_endJob_37 : decode cX0_endJob 37 = .ok (.iaload, 1) := by decide +kernel
theorem dX0_endJob_38 : decode cX0_endJob 38 = .ok (.iconst 1, 1) := by decide +kernel
theorem dX0_endJob_39 : decode cX0_endJob 39 = .ok (.iadd, 1) := by decide +kernel
theorem dX0_endJob_40 : decode cX0_endJob 40 = .ok (.iastore, 1) := by decide +kernel
theorem dX0_endJob_41 : decode cX0_endJob 41 = .ok (.aload_n 1, 1) := by decide +kernel
theorem dX0_endJob_42 : decode cX0_endJob 42 = .ok (.iload_n 2, 1) := by decide +kernel
theorem dX0_endJob_43 : decode cX0_endJob 43 = .ok (.putfield 120, 3) := by decide +kernel
theorem dX0_endJob_46 : decode cX0_endJob 46 = .ok (.return_, 1) := by decide +kernel
theorem dX0_passHours_0 : decode cX0_passHours 0 = .ok (.iload_n 1, 1) := by decide +kernel
theorem dX0_passHours_1 : decode cX0_passHours 1 = .ok (.iconst 1, 1) := by decide +kernel
theorem dX0_passHours_2 : decode cX0_passHours 2 = .ok (.bipush 99, 2) := by decide +kernel
theorem dX0_passHours_4 : decode cX0_passHours 4 = .ok (.invokestatic 64, 3) := by decide +kernel
theorem dX0_passHours_7 : decode cX0_passHours 7 = .ok (.ifCond .ne 6, 3) := by decide +kernel
theorem dX0_passHours_10 : decode cX0_passHours 10 = .ok (.bipush (-2), 2) := by decide +kernel
theorem dX0_passHours_12 : decode cX0_passHours 12 = .ok (.ireturn, 1) := by decide +kernel
theorem dX0_passHours_13 : decode cX0_passHours 13 = .ok (.aload_n 0, 1) := by decide +kernel
theorem dX0_passHours_14 : decode cX0_passHours 14 = .ok (.getfield 48, 3) := by decide +kernel
theorem dX0_passHours_17 : decode cX0_passHours 17 = .ok (.iload_n 1, 1) := by decide +kernel
theorem dX0_passHours_18 : decode cX0_passHours 18 = .ok (.iadd, 1) := by decide +kernel
theorem dX0_passHours_19 : decode cX0_passHours 19 = .ok (.sipush 9999, 3) := by decide +kernel
theorem dX0_passHours_22 : decode cX0_passHours 22 = .ok (.if_icmp .le 6, 3) := by decide +kernel
theorem dX0_passHours_25 : decode cX0_passHours 25 = .ok (.bipush (-5), 2) := by decide +kernel
theorem dX0_passHours_27 : decode cX0_passHours 27 = .ok (.ireturn, 1) := by decide +kernel
theorem dX0_passHours_28 : decode cX0_passHours 28 = .ok (.iconst 0, 1) := by decide +kernel
theorem dX0_passHours_29 : decode cX0_passHours 29 = .ok (.istore_n 2, 1) := by decide +kernel
theorem dX0_passHours_30 : decode cX0_passHours 30 = .ok (.iconst 0, 1) := by decide +kernel
theorem dX0_passHours_31 : decode cX0_passHours 31 = .ok (.istore_n 3, 1) := by decide +kernel
theorem dX0_passHours_32 : decode cX0_passHours 32 = .ok (.iload_n 3, 1) := by decide +kernel
theorem dX0_passHours_33 : decode cX0_passHours 33 = .ok (.iload_n 1, 1) := by decide +kernel
theorem dX0_passHours_34 : decode cX0_passHours 34 = .ok (.if_icmp .ge 16, 3) := by decide +kernel
theorem dX0_passHours_37 : decode cX0_passHours 37 = .ok (.iload_n 2, 1) := by decide +kernel
theorem dX0_passHours_38 : decode cX0_passHours 38 = .ok (.aload_n 0, 1) := by decide +kernel
theorem dX0_passHours_39 : decode cX0_passHours 39 = .ok (.invokevirtual 190, 3) := by decide +kernel
theorem dX0_passHours_42 : decode cX0_passHours 42 = .ok (.iadd, 1) := by decide +kernel
theorem dX0_passHours_43 : decode cX0_passHours 43 = .ok (.istore_n 2, 1) := by decide +kernel
theorem dX0_passHours_44 : decode cX0_passHours 44 = .ok (.iinc 3 1, 3) := by decide +kernel
theorem dX0_passHours_47 : decode cX0_passHours 47 = .ok (.goto (-15), 3) := by decide +kernel
theorem dX0_passHours_50 : decode cX0_passHours 50 = .ok (.iload_n 2, 1) := by decide +kernel
theorem dX0_passHours_51 : decode cX0_passHours 51 = .ok (.ireturn, 1) := by decide +kernel
theorem dX0_passOneHour_0 : decode cX0_passOneHour 0 = .ok (.iconst 0, 1) := by decide +kernel
theorem dX0_passOneHour_1 : decode cX0_passOneHour 1 = .ok (.istore_n 1, 1) := by decide +kernel
theorem dX0_passOneHour_2 : decode cX0_passOneHour 2 = .ok (.aload_n 0, 1) := by decide +kernel
theorem dX0_passOneHour_3 : decode cX0_passOneHour 3 = .ok (.invokevirtual 126, 3) := by decide +kernel
theorem dX0_passOneHour_6 : decode cX0_passOneHour 6 = .ok (.istore_n 2, 1) := by decide +kernel
theorem dX0_passOneHour_7 : decode cX0_passOneHour 7 = .ok (.iconst 0, 1) := by decide +kernel
theorem dX0_passOneHour_8 : decode cX0_passOneHour 8 = .ok (.istore_n 3, 1) := by decide +kernel
theorem dX0_passOneHour_9 : decode cX0_passOneHour 9 = .ok (.iload_n 3, 1) := by decide +kernel
theorem dX0_passOneHour_10 : decode cX0_passOneHour 10 = .ok (.aload_n 0, 1) := by decide +kernel
theorem dX0_passOneHour_11 : decode cX0_passOneHour 11 = .ok (.getfield 45, 3) := by decide +kernel
theorem dX0_passOneHour_14 : decode cX0_passOneHour 14 = .ok (.if_icmp .ge 38, 3) := by decide +kernel
theorem dX0_passOneHour_17 : decode cX0_passOneHour 17 = .ok (.aload_n 0, 1) := by decide +kernel
theorem dX0_passOneHour_18 : decode cX0_passOneHour 18 = .ok (.getfield 29, 3) := by decide +kernel
theorem dX0_passOneHour_21 : decode cX0_passOneHour 21 = .ok (.iload_n 3, 1) := by decide +kernel
theorem dX0_passOneHour_22 : decode cX0_passOneHour 22 = .ok (.aaload, 1) := by decide +kernel
theorem dX0_passOneHour_23 : decode cX0_passOneHour 23 = .ok (.getfield 120, 3) := by decide +kernel
theorem dX0_passOneHour_26 : decode cX0_passOneHour 26 = .ok (.iconst 1, 1) := by decide +kernel
theorem dX0_passOneHour_27 : decode cX0_passOneHour 27 = .ok (.if_icmp .ne 19, 3) := by decide +kernel
theorem dX0_passOneHour_30 : decode cX0_passOneHour 30 = .ok (.aload_n 0, 1) := by decide +kernel
theorem dX0_passOneHour_31 : decode cX0_passOneHour 31 = .ok (.aload_n 0, 1) := by decide +kernel
theorem dX0_passOneHour_32 : decode cX0_passOneHour 32 = .ok (.getfield 29, 3) := by decide +kernel
theorem dX0_passOneHour_35 : decode cX0_passOneHour 35 = .ok (.iload_n 3, 1) := by decide +kernel
theorem dX0_passOneHour_36 : decode cX0_passOneHour 36 = .ok (.aaload, 1) := by decide +kernel
theorem dX0_passOneHour_37 : decode cX0_passOneHour 37 = .ok (.invokevirtual 193, 3) := by decide +kernel
theorem dX0_passOneHour_40 : decode cX0_passOneHour 40 = .ok (.ifCond .eq 6, 3) := by decide +kernel
theorem dX0_passOneHour_43 : decode cX0_passOneHour 43 = .ok (.iinc 1 1, 3) := by decide +kernel
theorem dX0_passOneHour_46 : decode cX0_passOneHour 46 = .ok (.iinc 3 1, 3) := by decide +kernel
theorem dX0_passOneHour_49 : decode cX0_passOneHour 49 = .ok (.goto (-40), 3) := by decide +kernel
theorem dX0_passOneHour_52 : decode cX0_passOneHour 52 = .ok (.aload_n 0, 1) := by decide +kernel
theorem dX0_passOneHour_53 : decode cX0_passOneHour 53 = .ok (.iload_n 2, 1) := by decide +kernel
theorem dX0_passOneHour_54 : decode cX0_passOneHour 54 = .ok (.iconst (-1), 1) := by decide +kernel
theorem dX0_passOneHour_55 : decode cX0_passOneHour 55 = .ok (.ixor, 1) := by decide +kernel
theorem dX0_passOneHour_56 : decode cX0_passOneHour 56 = .ok (.invokevirtual 196, 3) := by decide +kernel
theorem dX0_passOneHour_59 : decode cX0_passOneHour 59 = .ok (.aload_n 0, 1) := by decide +kernel
theorem dX0_passOneHour_60 : decode cX0_passOneHour 60 = .ok (.dup, 1) := by decide +kernel
theorem dX0_passOneHour_61 : decode cX0_passOneHour 61 = .ok (.getfield 48, 3) := by decide +kernel
theorem dX0_passOneHour_64 : decode cX0_passOneHour 64 = .ok (.iconst 1, 1) := by decide +kernel
theorem dX0_passOneHour_65 : decode cX0_passOneHour 65 = .ok (.iadd, 1) := by decide +kernel
theorem dX0_passOneHour_66 : decode cX0_passOneHour 66 = .ok (.putfield 48, 3) := by decide +kernel
theorem dX0_passOneHour_69 : decode cX0_passOneHour 69 = .ok (.iload_n 1, 1) := by decide +kernel
theorem dX0_passOneHour_70 : decode cX0_passOneHour 70 = .ok (.ireturn, 1) := by decide +kernel
theorem dX0_workOneHour_0 : decode cX0_workOneHour 0 = .ok (.aload_n 1, 1) := by decide +kernel
theorem dX0_workOneHour_1 : decode cX0_workOneHour 1 = .ok (.getfield 183, 3) := by decide +kernel
theorem dX0_workOneHour_4 : decode cX0_workOneHour 4 = .ok (.ifCond .le 23, 3) := by decide +kernel
theorem dX0_workOneHour_7 : decode cX0_workOneHour 7 = .ok (.aload_n 1, 1) := by decide +kernel
theorem dX0_workOneHour_8 : decode cX0_workOneHour 8 = .ok (.dup, 1) := by decide +kernel
theorem dX0_workOneHour_9 : decode cX0_workOneHour 9 = .ok (.getfield 183, 3) := by decide +kernel
theorem dX0_workOneHour_12 : decode cX0_workOneHour 12 = .ok (.iconst 1, 1) := by decide +kernel
theorem dX0_workOneHour_13 : decode cX0_workOneHour 13 = .ok (.isub, 1) := by decide +kernel
theorem dX0_workOneHour_14 : decode cX0_workOneHour 14 = .ok (.putfield 183, 3) := by decide +kernel
theorem dX0_workOneHour_17 : decode cX0_workOneHour 17 = .ok (.aload_n 0, 1) := by decide +kernel
theorem dX0_workOneHour_18 : decode cX0_workOneHour 18 = .ok (.aload_n 1, 1) := by decide +kernel
theorem dX0_workOneHour_19 : decode cX0_workOneHour 19 = .ok (.getfield 157, 3) := by decide +kernel
theorem dX0_workOneHour_22 : decode cX0_workOneHour 22 = .ok (.invokevirtual 196, 3) := by decide +kernel
theorem dX0_workOneHour_25 : decode cX0_workOneHour 25 = .ok (.iconst 0, 1) := by decide +kernel
theorem dX0_workOneHour_26 : decode cX0_workOneHour 26 = .ok (.ireturn, 1) := by decide +kernel
theorem dX0_workOneHour_27 : decode cX0_workOneHour 27 = .ok (.aload_n 0, 1) := by decide +kernel
theorem dX0_workOneHour_28 : decode cX0_workOneHour 28 = .ok (.aload_n 1, 1) := by decide +kernel
theorem dX0_workOneHour_29 : decode cX0_workOneHour 29 = .ok (.getfield 157, 3) := by decide +kernel
theorem dX0_workOneHour_32 : decode cX0_workOneHour 32 = .ok (.invokevirtual 134, 3) := by decide +kernel
theorem dX0_workOneHour_35 : decode cX0_workOneHour 35 = .ok (.aload_n 1, 1) := by decide +kernel
theorem dX0_workOneHour_36 : decode cX0_workOneHour 36 = .ok (.getfield 154, 3) := by decide +kernel
theorem dX0_workOneHour_39 : decode cX0_workOneHour 39 = .ok (.if_icmp .ge 33, 3) := by decide +kernel
theorem dX0_workOneHour_42 : decode cX0_workOneHour 42 = .ok (.aload_n 1, 1) := by decide +kernel
theorem dX0_workOneHour_43 : decode cX0_workOneHour 43 = .ok (.dup, 1) := by decide +kernel
theorem dX0_workOneHour_44 : decode cX0_workOneHour 44 = .ok (.getfield 199, 3) := by decide +kernel
theorem dX0_workOneHour_47 : decode cX0_workOneHour 47 = .ok (.iconst 1, 1) := by decide +kernel
theorem dX0_workOneHour_48 : decode cX0_workOneHour 48 = .ok (.iadd, 1) := by decide +kernel
theorem dX0_workOneHour_49 : decode cX0_workOneHour 49 = .ok (.putfield 199, 3) := by decide +kernel
theorem dX0_workOneHour_52 : decode cX0_workOneHour 52 = .ok (.aload_n 0, 1) := by decide +kernel
theorem dX0_workOneHour_53 : decode cX0_workOneHour 53 = .ok (.dup, 1) := by decide +kernel
theorem dX0_workOneHour_54 : decode cX0_workOneHour 54 = .ok (.getfield 54, 3) := by decide +kernel
end
section
theorem dX0_workOneHour_57 : decode cX0_workOneHour 57 = .ok (.iconst 1, 1) := by decide +kernel
theorem dX0_workOneHour_58 : decode cX0_workOneHour 58 = .ok (.iadd, 1) := by decide +kernel
theorem dX0_workOneHour_59 : decode cX0_workOneHour 59 = .ok (.putfield 54, 3) := by decide +kernel
theorem dX0_workOneHour_62 : decode cX0_workOneHour 62 = .ok (.aload_n 0, 1) := by decide +kernel
theorem dX0_workOneHour_63 : decode cX0_workOneHour 63 = .ok (.aload_n 1, 1) := by decide +kernel
theorem dX0_workOneHour_64 : decode cX0_workOneHour 64 = .ok (.getfield 157, 3) := by decide +kernel
theorem dX0_workOneHour_67 : decode cX0_workOneHour 67 = .ok (.invokevirtual 196, 3) := by decide +kernel
theorem dX0_workOneHour_70 : decode cX0_workOneHour 70 = .ok (.iconst 0, 1) := by decide +kernel
theorem dX0_workOneHour_71 : decode cX0_workOneHour 71 = .ok (.ireturn, 1) := by decide +kernel
theorem dX0_workOneHour_72 : decode cX0_workOneHour 72 = .ok (.aload_n 1, 1) := by decide +kernel
theorem dX0_workOneHour_73 : decode cX0_workOneHour 73 = .ok (.dup, 1) := by decide +kernel
theorem dX0_workOneHour_74 : decode cX0_workOneHour 74 = .ok (.getfield 200, 3) := by decide +kernel
theorem dX0_workOneHour_77 : decode cX0_workOneHour 77 = .ok (.iconst 1, 1) := by decide +kernel
theorem dX0_workOneHour_78 : decode cX0_workOneHour 78 = .ok (.isub, 1) := by decide +kernel
theorem dX0_workOneHour_79 : decode cX0_workOneHour 79 = .ok (.putfield 200, 3) := by decide +kernel
theorem dX0_workOneHour_82 : decode cX0_workOneHour 82 = .ok (.aload_n 0, 1) := by decide +kernel
theorem dX0_workOneHour_83 : decode cX0_workOneHour 83 = .ok (.dup, 1) := by decide +kernel
theorem dX0_workOneHour_84 : decode cX0_workOneHour 84 = .ok (.getfield 51, 3) := by decide +kernel
theorem dX0_workOneHour_87 : decode cX0_workOneHour 87 = .ok (.iconst 1, 1) := by decide +kernel
theorem dX0_workOneHour_88 : decode cX0_workOneHour 88 = .ok (.iadd, 1) := by decide +kernel
theorem dX0_workOneHour_89 : decode cX0_workOneHour 89 = .ok (.putfield 51, 3) := by decide +kernel
theorem dX0_workOneHour_92 : decode cX0_workOneHour 92 = .ok (.aload_n 1, 1) := by decide +kernel
theorem dX0_workOneHour_93 : decode cX0_workOneHour 93 = .ok (.getfield 200, 3) := by decide +kernel
theorem dX0_workOneHour_96 : decode cX0_workOneHour 96 = .ok (.ifCond .gt 7, 3) := by decide +kernel
theorem dX0_workOneHour_99 : decode cX0_workOneHour 99 = .ok (.iconst 1, 1) := by decide +kernel
theorem dX0_workOneHour_100 : decode cX0_workOneHour 100 = .ok (.goto 4, 3) := by decide +kernel
theorem dX0_workOneHour_103 : decode cX0_workOneHour 103 = .ok (.iconst 0, 1) := by decide +kernel
theorem dX0_workOneHour_104 : decode cX0_workOneHour 104 = .ok (.istore_n 2, 1) := by decide +kernel
theorem dX0_workOneHour_105 : decode cX0_workOneHour 105 = .ok (.aload_n 0, 1) := by decide +kernel
theorem dX0_workOneHour_106 : decode cX0_workOneHour 106 = .ok (.aload_n 1, 1) := by decide +kernel
theorem dX0_workOneHour_107 : decode cX0_workOneHour 107 = .ok (.getfield 157, 3) := by decide +kernel
theorem dX0_workOneHour_110 : decode cX0_workOneHour 110 = .ok (.iload_n 2, 1) := by decide +kernel
theorem dX0_workOneHour_111 : decode cX0_workOneHour 111 = .ok (.invokevirtual 203, 3) := by decide +kernel
theorem dX0_workOneHour_114 : decode cX0_workOneHour 114 = .ok (.iload_n 2, 1) := by decide +kernel
theorem dX0_workOneHour_115 : decode cX0_workOneHour 115 = .ok (.ifCond .eq 17, 3) := by decide +kernel
theorem dX0_workOneHour_118 : decode cX0_workOneHour 118 = .ok (.aload_n 1, 1) := by decide +kernel
theorem dX0_workOneHour_119 : decode cX0_workOneHour 119 = .ok (.aload_n 0, 1) := by decide +kernel
theorem dX0_workOneHour_120 : decode cX0_workOneHour 120 = .ok (.getfield 48, 3) := by decide +kernel
theorem dX0_workOneHour_123 : decode cX0_workOneHour 123 = .ok (.putfield 207, 3) := by decide +kernel
theorem dX0_workOneHour_126 : decode cX0_workOneHour 126 = .ok (.aload_n 0, 1) := by decide +kernel
theorem dX0_workOneHour_127 : decode cX0_workOneHour 127 = .ok (.aload_n 1, 1) := by decide +kernel
theorem dX0_workOneHour_128 : decode cX0_workOneHour 128 = .ok (.iconst 2, 1) := by decide +kernel
theorem dX0_workOneHour_129 : decode cX0_workOneHour 129 = .ok (.invokevirtual 186, 3) := by decide +kernel
theorem dX0_workOneHour_132 : decode cX0_workOneHour 132 = .ok (.iload_n 2, 1) := by decide +kernel
theorem dX0_workOneHour_133 : decode cX0_workOneHour 133 = .ok (.ireturn, 1) := by decide +kernel
theorem dX0_restPeople_0 : decode cX0_restPeople 0 = .ok (.iconst 0, 1) := by decide +kernel
theorem dX0_restPeople_1 : decode cX0_restPeople 1 = .ok (.istore_n 2, 1) := by decide +kernel
theorem dX0_restPeople_2 : decode cX0_restPeople 2 = .ok (.iload_n 2, 1) := by decide +kernel
theorem dX0_restPeople_3 : decode cX0_restPeople 3 = .ok (.aload_n 0, 1) := by decide +kernel
theorem dX0_restPeople_4 : decode cX0_restPeople 4 = .ok (.getfield 41, 3) := by decide +kernel
theorem dX0_restPeople_7 : decode cX0_restPeople 7 = .ok (.if_icmp .ge 32, 3) := by decide +kernel
theorem dX0_restPeople_10 : decode cX0_restPeople 10 = .ok (.iload_n 2, 1) := by decide +kernel
theorem dX0_restPeople_11 : decode cX0_restPeople 11 = .ok (.iload_n 1, 1) := by decide +kernel
theorem dX0_restPeople_12 : decode cX0_restPeople 12 = .ok (.invokestatic 101, 3) := by decide +kernel
theorem dX0_restPeople_15 : decode cX0_restPeople 15 = .ok (.ifCond .eq 18, 3) := by decide +kernel
theorem dX0_restPeople_18 : decode cX0_restPeople 18 = .ok (.aload_n 0, 1) := by decide +kernel
theorem dX0_restPeople_19 : decode cX0_restPeople 19 = .ok (.getfield 23, 3) := by decide +kernel
theorem dX0_restPeople_22 : decode cX0_restPeople 22 = .ok (.iload_n 2, 1) := by decide +kernel
theorem dX0_restPeople_23 : decode cX0_restPeople 23 = .ok (.aaload, 1) := by decide +kernel
theorem dX0_restPeople_24 : decode cX0_restPeople 24 = .ok (.aload_n 0, 1) := by decide +kernel
theorem dX0_restPeople_25 : decode cX0_restPeople 25 = .ok (.getfield 9, 3) := by decide +kernel
theorem dX0_restPeople_28 : decode cX0_restPeople 28 = .ok (.iconst 1, 1) := by decide +kernel
theorem dX0_restPeople_29 : decode cX0_restPeople 29 = .ok (.iaload, 1) := by decide +kernel
theorem dX0_restPeople_30 : decode cX0_restPeople 30 = .ok (.invokevirtual 210, 3) := by decide +kernel
theorem dX0_restPeople_33 : decode cX0_restPeople 33 = .ok (.iinc 2 1, 3) := by decide +kernel
theorem dX0_restPeople_36 : decode cX0_restPeople 36 = .ok (.goto (-34), 3) := by decide +kernel
theorem dX0_restPeople_39 : decode cX0_restPeople 39 = .ok (.return_, 1) := by decide +kernel
theorem dX0_carryHour_0 : decode cX0_carryHour 0 = .ok (.iconst 0, 1) := by decide +kernel
theorem dX0_carryHour_1 : decode cX0_carryHour 1 = .ok (.istore_n 3, 1) := by decide +kernel
theorem dX0_carryHour_2 : decode cX0_carryHour 2 = .ok (.iload_n 3, 1) := by decide +kernel
theorem dX0_carryHour_3 : decode cX0_carryHour 3 = .ok (.aload_n 0, 1) := by decide +kernel
theorem dX0_carryHour_4 : decode cX0_carryHour 4 = .ok (.getfield 41, 3) := by decide +kernel
theorem dX0_carryHour_7 : decode cX0_carryHour 7 = .ok (.if_icmp .ge 55, 3) := by decide +kernel
theorem dX0_carryHour_10 : decode cX0_carryHour 10 = .ok (.iload_n 3, 1) := by decide +kernel
theorem dX0_carryHour_11 : decode cX0_carryHour 11 = .ok (.iload_n 1, 1) := by decide +kernel
theorem dX0_carryHour_12 : decode cX0_carryHour 12 = .ok (.invokestatic 101, 3) := by decide +kernel
theorem dX0_carryHour_15 : decode cX0_carryHour 15 = .ok (.ifCond .eq 41, 3) := by decide +kernel
theorem dX0_carryHour_18 : decode cX0_carryHour 18 = .ok (.aload_n 0, 1) := by decide +kernel
theorem dX0_carryHour_19 : decode cX0_carryHour 19 = .ok (.getfield 23, 3) := by decide +kernel
theorem dX0_carryHour_22 : decode cX0_carryHour 22 = .ok (.iload_n 3, 1) := by decide +kernel
theorem dX0_carryHour_23 : decode cX0_carryHour 23 = .ok (.aaload, 1) := by decide +kernel
theorem dX0_carryHour_24 : decode cX0_carryHour 24 = .ok (.aload_n 0, 1) := by decide +kernel
theorem dX0_carryHour_25 : decode cX0_carryHour 25 = .ok (.getfield 9, 3) := by decide +kernel
theorem dX0_carryHour_28 : decode cX0_carryHour 28 = .ok (.iconst 2, 1) := by decide +kernel
theorem dX0_carryHour_29 : decode cX0_carryHour 29 = .ok (.iaload, 1) := by decide +kernel
theorem dX0_carryHour_30 : decode cX0_carryHour 30 = .ok (.invokevirtual 213, 3) := by decide +kernel
theorem dX0_carryHour_33 : decode cX0_carryHour 33 = .ok (.aload_n 0, 1) := by decide +kernel
theorem dX0_carryHour_34 : decode cX0_carryHour 34 = .ok (.getfield 23, 3) := by decide +kernel
theorem dX0_carryHour_37 : decode cX0_carryHour 37 = .ok (.iload_n 3, 1) := by decide +kernel
theorem dX0_carryHour_38 : decode cX0_carryHour 38 = .ok (.aaload, 1) := by decide +kernel
theorem dX0_carryHour_39 : decode cX0_carryHour 39 = .ok (.dup, 1) := by decide +kernel
theorem dX0_carryHour_40 : decode cX0_carryHour 40 = .ok (.getfield 216, 3) := by decide +kernel
theorem dX0_carryHour_43 : decode cX0_carryHour 43 = .ok (.iload_n 2, 1) := by decide +kernel
theorem dX0_carryHour_44 : decode cX0_carryHour 44 = .ok (.ifCond .eq 7, 3) := by decide +kernel
theorem dX0_carryHour_47 : decode cX0_carryHour 47 = .ok (.iconst 1, 1) := by decide +kernel
theorem dX0_carryHour_48 : decode cX0_carryHour 48 = .ok (.goto 4, 3) := by decide +kernel
theorem dX0_carryHour_51 : decode cX0_carryHour 51 = .ok (.iconst 0, 1) := by decide +kernel
theorem dX0_carryHour_52 : decode cX0_carryHour 52 = .ok (.iadd, 1) := by decide +kernel
theorem dX0_carryHour_53 : decode cX0_carryHour 53 = .ok (.putfield 216, 3) := by decide +kernel
theorem dX0_carryHour_56 : decode cX0_carryHour 56 = .ok (.iinc 3 1, 3) := by decide +kernel
theorem dX0_carryHour_59 : decode cX0_carryHour 59 = .ok (.goto (-57), 3) := by decide +kernel
theorem dX0_carryHour_62 : decode cX0_carryHour 62 = .ok (.return_, 1) := by decide +kernel
theorem dX0_tellOfJob_0 : decode cX0_tellOfJob 0 = .ok (.iload_n 2, 1) := by decide +kernel
theorem dX0_tellOfJob_1 : decode cX0_tellOfJob 1 = .ok (.tableswitch 159 0 12 #[67, 72, 77, 82, 87, 92, 97, 117, 122, 127, 132, 137, 142], 67) := by decide +kernel
theorem dX0_tellOfJob_68 : decode cX0_tellOfJob 68 = .ok (.aload_n 1, 1) := by decide +kernel
theorem dX0_tellOfJob_69 : decode cX0_tellOfJob 69 = .ok (.getfield 85, 3) := by decide +kernel
theorem dX0_tellOfJob_72 : decode cX0_tellOfJob 72 = .ok (.ireturn, 1) := by decide +kernel
theorem dX0_tellOfJob_73 : decode cX0_tellOfJob 73 = .ok (.aload_n 1, 1) := by decide +kernel
theorem dX0_tellOfJob_74 : decode cX0_tellOfJob 74 = .ok (.getfield 88, 3) := by decide +kernel
theorem dX0_tellOfJob_77 : decode cX0_tellOfJob 77 = .ok (.ireturn, 1) := by decide +kernel
theorem dX0_tellOfJob_78 : decode cX0_tellOfJob 78 = .ok (.aload_n 1, 1) := by decide +kernel
theorem dX0_tellOfJob_79 : decode cX0_tellOfJob 79 = .ok (.getfield 200, 3) := by decide +kernel
theorem dX0_tellOfJob_82 : decode cX0_tellOfJob 82 = .ok (.ireturn, 1) := by decide +kernel
theorem dX0_tellOfJob_83 : decode cX0_tellOfJob 83 = .ok (.aload_n 1, 1) := by decide +kernel
theorem dX0_tellOfJob_84 : decode cX0_tellOfJob 84 = .ok (.getfield 219, 3) := by decide +kernel
theorem dX0_tellOfJob_87 : decode cX0_tellOfJob 87 = .ok (.ireturn, 1) := by decide +kernel
theorem dX0_tellOfJob_88 : decode cX0_tellOfJob 88 = .ok (.aload_n 1, 1) := by decide +kernel
theorem dX0_tellOfJob_89 : decode cX0_tellOfJob 89 = .ok (.getfield 222, 3) := by decide +kernel
theorem dX0_tellOfJob_92 : decode cX0_tellOfJob 92 = .ok (.ireturn, 1) := by decide +kernel
theorem dX0_tellOfJob_93 : decode cX0_tellOfJob 93 = .ok (.aload_n 1, 1) := by decide +kernel
theorem dX0_tellOfJob_94 : decode cX0_tellOfJob 94 = .ok (.getfield 120, 3) := by decide +kernel
theorem dX0_tellOfJob_97 : decode cX0_tellOfJob 97 = .ok (.ireturn, 1) := by decide +kernel
theorem dX0_tellOfJob_98 : decode cX0_tellOfJob 98 = .ok (.aload_n 1, 1) := by decide +kernel
theorem dX0_tellOfJob_99 : decode cX0_tellOfJob 99 = .ok (.invokevirtual 225, 3) := by decide +kernel
theorem dX0_tellOfJob_102 : decode cX0_tellOfJob 102 = .ok (.ifCond .eq 10, 3) := by decide +kernel
theorem dX0_tellOfJob_105 : decode cX0_tellOfJob 105 = .ok (.aload_n 1, 1) := by decide +kernel
theorem dX0_tellOfJob_106 : decode cX0_tellOfJob 106 = .ok (.getfield 154, 3) := by decide +kernel
theorem dX0_tellOfJob_109 : decode cX0_tellOfJob 109 = .ok (.goto 8, 3) := by decide +kernel
theorem dX0_tellOfJob_112 : decode cX0_tellOfJob 112 = .ok (.aload_n 0, 1) := by decide +kernel
theorem dX0_tellOfJob_113 : decode cX0_tellOfJob 113 = .ok (.aload_n 1, 1) := by decide +kernel
theorem dX0_tellOfJob_114 : decode cX0_tellOfJob 114 = .ok (.invokevirtual 94, 3) := by decide +kernel
theorem dX0_tellOfJob_117 : decode cX0_tellOfJob 117 = .ok (.ireturn, 1) := by decide +kernel
theorem dX0_tellOfJob_118 : decode cX0_tellOfJob 118 = .ok (.aload_n 1, 1) := by decide +kernel
theorem dX0_tellOfJob_119 : decode cX0_tellOfJob 119 = .ok (.getfield 157, 3) := by decide +kernel
theorem dX0_tellOfJob_122 : decode cX0_tellOfJob 122 = .ok (.ireturn, 1) := by decide +kernel
theorem dX0_tellOfJob_123 : decode cX0_tellOfJob 123 = .ok (.aload_n 1, 1) := by decide +kernel
theorem dX0_tellOfJob_124 : decode cX0_tellOfJob 124 = .ok (.getfield 160, 3) := by decide +kernel
theorem dX0_tellOfJob_127 : decode cX0_tellOfJob 127 = .ok (.ireturn, 1) := by decide +kernel
theorem dX0_tellOfJob_128 : decode cX0_tellOfJob 128 = .ok (.aload_n 1, 1) := by decide +kernel
theorem dX0_tellOfJob_129 : decode cX0_tellOfJob 129 = .ok (.getfield 183, 3) := by decide +kernel
theorem dX0_tellOfJob_132 : decode cX0_tellOfJob 132 = .ok (.ireturn, 1) := by decide +kernel
theorem dX0_tellOfJob_133 : decode cX0_tellOfJob 133 = .ok (.aload_n 1, 1) := by decide +kernel
theorem dX0_tellOfJob_134 : decode cX0_tellOfJob 134 = .ok (.getfield 199, 3) := by decide +kernel
theorem dX0_tellOfJob_137 : decode cX0_tellOfJob 137 = .ok (.ireturn, 1) := by decide +kernel
theorem dX0_tellOfJob_138 : decode cX0_tellOfJob 138 = .ok (.aload_n 1, 1) := by decide +kernel
theorem dX0_tellOfJob_139 : decode cX0_tellOfJob 139 = .ok (.getfield 207, 3) := by decide +kernel
theorem dX0_tellOfJob_142 : decode cX0_tellOfJob 142 = .ok (.ireturn, 1) := by decide +kernel
theorem dX0_tellOfJob_143 : decode cX0_tellOfJob 143 = .ok (.aload_n 1, 1) := by decide +kernel
theorem dX0_tellOfJob_144 : decode cX0_tellOfJob 144 = .ok (.aload_n 0, 1) := by decide +kernel
theorem dX0_tellOfJob_145 : decode cX0_tellOfJob 145 = .ok (.getfield 48, 3) := by decide +kernel
theorem dX0_tellOfJob_148 : decode cX0_tellOfJob 148 = .ok (.invokevirtual 229, 3) := by decide +kernel
theorem dX0_tellOfJob_151 : decode cX0_tellOfJob 151 = .ok (.ifCond .eq 7, 3) := by decide +kernel
theorem dX0_tellOfJob_154 : decode cX0_tellOfJob 154 = .ok (.iconst 1, 1) := by decide +kernel
theorem dX0_tellOfJob_155 : decode cX0_tellOfJob 155 = .ok (.goto 4, 3) := by decide +kernel
theorem dX0_tellOfJob_158 : decode cX0_tellOfJob 158 = .ok (.iconst 0, 1) := by decide +kernel
theorem dX0_tellOfJob_159 : decode cX0_tellOfJob 159 = .ok (.ireturn, 1) := by decide +kernel
theorem dX0_tellOfJob_160 : decode cX0_tellOfJob 160 = .ok (.bipush (-2), 2) := by decide +kernel
theorem dX0_tellOfJob_162 : decode cX0_tellOfJob 162 = .ok (.ireturn, 1) := by decide +kernel
theorem dX0_tellCount_0 : decode cX0_tellCount 0 = .ok (.iload_n 1, 1) := by decide +kernel
theorem dX0_tellCount_1 : decode cX0_tellCount 1 = .ok (.tableswitch 152 0 13 #[71, 76, 81, 86, 91, 97, 103, 109, 114, 119, 124, 131, 138, 145], 71) := by decide +kernel
theorem dX0_tellCount_72 : decode cX0_tellCount 72 = .ok (.aload_n 0, 1) := by decide +kernel
theorem dX0_tellCount_73 : decode cX0_tellCount 73 = .ok (.getfield 48, 3) := by decide +kernel
theorem dX0_tellCount_76 : decode cX0_tellCount 76 = .ok (.ireturn, 1) := by decide +kernel
theorem dX0_tellCount_77 : decode cX0_tellCount 77 = .ok (.aload_n 0, 1) := by decide +kernel
theorem dX0_tellCount_78 : decode cX0_tellCount 78 = .ok (.getfield 41, 3) := by decide +kernel
theorem dX0_tellCount_81 : decode cX0_tellCount 81 = .ok (.ireturn, 1) := by decide +kernel
theorem dX0_tellCount_82 : decode cX0_tellCount 82 = .ok (.aload_n 0, 1) := by decide +kernel
theorem dX0_tellCount_83 : decode cX0_tellCount 83 = .ok (.invokevirtual 126, 3) := by decide +kernel
theorem dX0_tellCount_86 : decode cX0_tellCount 86 = .ok (.ireturn, 1) := by decide +kernel
theorem dX0_tellCount_87 : decode cX0_tellCount 87 = .ok (.aload_n 0, 1) := by decide +kernel
theorem dX0_tellCount_88 : decode cX0_tellCount 88 = .ok (.getfield 45, 3) := by decide +kernel
theorem dX0_tellCount_91 : decode cX0_tellCount 91 = .ok (.ireturn, 1) := by decide +kernel
theorem dX0_tellCount_92 : decode cX0_tellCount 92 = .ok (.aload_n 0, 1) := by decide +kernel
theorem dX0_tellCount_93 : decode cX0_tellCount 93 = .ok (.iconst 0, 1) := by decide +kernel
theorem dX0_tellCount_94 : decode cX0_tellCount 94 = .ok (.invokevirtual 232, 3) := by decide +kernel
theorem dX0_tellCount_97 : decode cX0_tellCount 97 = .ok (.ireturn, 1) := by decide +kernel
theorem dX0_tellCount_98 : decode cX0_tellCount 98 = .ok (.aload_n 0, 1) := by decide +kernel
theorem dX0_tellCount_99 : decode cX0_tellCount 99 = .ok (.iconst 1, 1) := by decide +kernel
theorem dX0_tellCount_100 : decode cX0_tellCount 100 = .ok (.invokevirtual 232, 3) := by decide +kernel
theorem dX0_tellCount_103 : decode cX0_tellCount 103 = .ok (.ireturn, 1) := by decide +kernel
theorem dX0_tellCount_104 : decode cX0_tellCount 104 = .ok (.aload_n 0, 1) := by decide +kernel
theorem dX0_tellCount_105 : decode cX0_tellCount 105 = .ok (.iconst 2, 1) := by decide +kernel
theorem dX0_tellCount_106 : decode cX0_tellCount 106 = .ok (.invokevirtual 232, 3) := by decide +kernel
theorem dX0_tellCount_109 : decode cX0_tellCount 109 = .ok (.ireturn, 1) := by decide +kernel
theorem dX0_tellCount_110 : decode cX0_tellCount 110 = .ok (.aload_n 0, 1) := by decide +kernel
theorem dX0_tellCount_111 : decode cX0_tellCount 111 = .ok (.invokevirtual 235, 3) := by decide +kernel
theorem dX0_tellCount_114 : decode cX0_tellCount 114 = .ok (.ireturn, 1) := by decide +kernel
theorem dX0_tellCount_115 : decode cX0_tellCount 115 = .ok (.aload_n 0, 1) := by decide +kernel
theorem dX0_tellCount_116 : decode cX0_tellCount 116 = .ok (.getfield 51, 3) := by decide +kernel
theorem dX0_tellCount_119 : decode cX0_tellCount 119 = .ok (.ireturn, 1) := by decide +kernel
theorem dX0_tellCount_120 : decode cX0_tellCount 120 = .ok (.aload_n 0, 1) := by decide +kernel
theorem dX0_tellCount_121 : decode cX0_tellCount 121 = .ok (.getfield 54, 3) := by decide +kernel
theorem dX0_tellCount_124 : decode cX0_tellCount 124 = .ok (.ireturn, 1) := by decide +kernel
theorem dX0_tellCount_125 : decode cX0_tellCount 125 = .ok (.aload_n 0, 1) := by decide +kernel
theorem dX0_tellCount_126 : decode cX0_tellCount 126 = .ok (.getfield 9, 3) := by decide +kernel
theorem dX0_tellCount_129 : decode cX0_tellCount 129 = .ok (.iconst 0, 1) := by decide +kernel
theorem dX0_tellCount_130 : decode cX0_tellCount 130 = .ok (.iaload, 1) := by decide +kernel
theorem dX0_tellCount_131 : decode cX0_tellCount 131 = .ok (.ireturn, 1) := by decide +kernel
theorem dX0_tellCount_132 : decode cX0_tellCount 132 = .ok (.aload_n 0, 1) := by decide +kernel
theorem dX0_tellCount_133 : decode cX0_tellCount 133 = .ok (.getfield 9, 3) := by decide +kernel
theorem dX0_tellCount_136 : decode cX0_tellCount 136 = .ok (.iconst 1, 1) := by decide +kernel
theorem dX0_tellCount_137 : decode cX0_tellCount 137 = .ok (.iaload, 1) := by decide +kernel
theorem dX0_tellCount_138 : decode cX0_tellCount 138 = .ok (.ireturn, 1) := by decide +kernel
theorem dX0_tellCount_139 : decode cX0_tellCount 139 = .ok (.aload_n 0, 1) := by decide +kernel
theorem dX0_tellCount_140 : decode cX0_tellCount 140 = .ok (.getfield 9, 3) := by decide +kernel
theorem dX0_tellCount_143 : decode cX0_tellCount 143 = .ok (.iconst 2, 1) := by decide +kernel
theorem dX0_tellCount_144 : decode cX0_tellCount 144 = .ok (.iaload, 1) := by decide +kernel
theorem dX0_tellCount_145 : decode cX0_tellCount 145 = .ok (.ireturn, 1) := by decide +kernel
theorem dX0_tellCount_146 : decode cX0_tellCount 146 = .ok (.aload_n 0, 1) := by decide +kernel
theorem dX0_tellCount_147 : decode cX0_tellCount 147 = .ok (.getfield 9, 3) := by decide +kernel
theorem dX0_tellCount_150 : decode cX0_tellCount 150 = .ok (.iconst 3, 1) := by decide +kernel
theorem dX0_tellCount_151 : decode cX0_tellCount 151 = .ok (.iaload, 1) := by decide +kernel
theorem dX0_tellCount_152 : decode cX0_tellCount 152 = .ok (.ireturn, 1) := by decide +kernel
theorem dX0_tellCount_153 : decode cX0_tellCount 153 = .ok (.bipush (-2), 2) := by decide +kernel
theorem dX0_tellCount_155 : decode cX0_tellCount 155 = .ok (.ireturn, 1) := by decide +kernel
theorem dX0_jobsInState_0 : decode cX0_jobsInState 0 = .ok (.iconst 0, 1) := by decide +kernel
theorem dX0_jobsInState_1 : decode cX0_jobsInState 1 = .ok (.istore_n 2, 1) := by decide +kernel
theorem dX0_jobsInState_2 : decode cX0_jobsInState 2 = .ok (.iconst 0, 1) := by decide +kernel
theorem dX0_jobsInState_3 : decode cX0_jobsInState 3 = .ok (.istore_n 3, 1) := by decide +kernel
theorem dX0_jobsInState_4 : decode cX0_jobsInState 4 = .ok (.iload_n 3, 1) := by decide +kernel
theorem dX0_jobsInState_5 : decode cX0_jobsInState 5 = .ok (.aload_n 0, 1) := by decide +kernel
theorem dX0_jobsInState_6 : decode cX0_jobsInState 6 = .ok (.getfield 45, 3) := by decide +kernel
theorem dX0_jobsInState_9 : decode cX0_jobsInState 9 = .ok (.if_icmp .ge 28, 3) := by decide +kernel
theorem dX0_jobsInState_12 : decode cX0_jobsInState 12 = .ok (.aload_n 0, 1) := by decide +kernel
theorem dX0_jobsInState_13 : decode cX0_jobsInState 13 = .ok (.getfield 29, 3) := by decide +kernel
theorem dX0_jobsInState_16 : decode cX0_jobsInState 16 = .ok (.iload_n 3, 1) := by decide +kernel
theorem dX0_jobsInState_17 : decode cX0_jobsInState 17 = .ok (.aaload, 1) := by decide +kernel
theorem dX0_jobsInState_18 : decode cX0_jobsInState 18 = .ok (.getfield 120, 3) := by decide +kernel
theorem dX0_jobsInState_21 : decode cX0_jobsInState 21 = .ok (.iload_n 1, 1) := by decide +kernel
theorem dX0_jobsInState_22 : decode cX0_jobsInState 22 = .ok (.if_icmp .ne 9, 3) := by decide +kernel
theorem dX0_jobsInState_25 : decode cX0_jobsInState 25 = .ok (.iload_n 2, 1) := by decide +kernel
theorem dX0_jobsInState_26 : decode cX0_jobsInState 26 = .ok (.iconst 1, 1) := by decide +kernel
theorem dX0_jobsInState_27 : decode cX0_jobsInState 27 = .ok (.iload_n 3, 1) := by decide +kernel
theorem dX0_jobsInState_28 : decode cX0_jobsInState 28 = .ok (.ishl, 1) := by decide +kernel
theorem dX0_jobsInState_29 : decode cX0_jobsInState 29 = .ok (.ior, 1) := by decide +kernel
theorem dX0_jobsInState_30 : decode cX0_jobsInState 30 = .ok (.istore_n 2, 1) := by decide +kernel
theorem dX0_jobsInState_31 : decode cX0_jobsInState 31 = .ok (.iinc 3 1, 3) := by decide +kernel
theorem dX0_jobsInState_34 : decode cX0_jobsInState 34 = .ok (.goto (-30), 3) := by decide +kernel
theorem dX0_jobsInState_37 : decode cX0_jobsInState 37 = .ok (.iload_n 2, 1) := by decide +kernel
theorem dX0_jobsInState_38 : decode cX0_jobsInState 38 = .ok (.ireturn, 1) := by decide +kernel
theorem dX0_lateJobs_0 : decode cX0_lateJobs 0 = .ok (.iconst 0, 1) := by decide +kernel
theorem dX0_lateJobs_1 : decode cX0_lateJobs 1 = .ok (.istore_n 1, 1) := by decide +kernel
theorem dX0_lateJobs_2 : decode cX0_lateJobs 2 = .ok (.iconst 0, 1) := by decide +kernel
theorem dX0_lateJobs_3 : decode cX0_lateJobs 3 = .ok (.istore_n 2, 1) := by decide +kernel
theorem dX0_lateJobs_4 : decode cX0_lateJobs 4 = .ok (.iload_n 2, 1) := by decide +kernel
theorem dX0_lateJobs_5 : decode cX0_lateJobs 5 = .ok (.aload_n 0, 1) := by decide +kernel
theorem dX0_lateJobs_6 : decode cX0_lateJobs 6 = .ok (.getfield 45, 3) := by decide +kernel
theorem dX0_lateJobs_9 : decode cX0_lateJobs 9 = .ok (.if_icmp .ge 31, 3) := by decide +kernel
theorem dX0_lateJobs_12 : decode cX0_lateJobs 12 = .ok (.aload_n 0, 1) := by decide +kernel
theorem dX0_lateJobs_13 : decode cX0_lateJobs 13 = .ok (.getfield 29, 3) := by decide +kernel
theorem dX0_lateJobs_16 : decode cX0_lateJobs 16 = .ok (.iload_n 2, 1) := by decide +kernel
theorem dX0_lateJobs_17 : decode cX0_lateJobs 17 = .ok (.aaload, 1) := by decide +kernel
theorem dX0_lateJobs_18 : decode cX0_lateJobs 18 = .ok (.aload_n 0, 1) := by decide +kernel
theorem dX0_lateJobs_19 : decode cX0_lateJobs 19 = .ok (.getfield 48, 3) := by decide +kernel
theorem dX0_lateJobs_22 : decode cX0_lateJobs 22 = .ok (.invokevirtual 229, 3) := by decide +kernel
theorem dX0_lateJobs_25 : decode cX0_lateJobs 25 = .ok (.ifCond .eq 9, 3) := by decide +kernel
theorem dX0_lateJobs_28 : decode cX0_lateJobs 28 = .ok (.iload_n 1, 1) := by decide +kernel
theorem dX0_lateJobs_29 : decode cX0_lateJobs 29 = .ok (.iconst 1, 1) := by decide +kernel
theorem dX0_lateJobs_30 : decode cX0_lateJobs 30 = .ok (.iload_n 2, 1) := by decide +kernel
theorem dX0_lateJobs_31 : decode cX0_lateJobs 31 = .ok (.ishl, 1) := by decide +kernel
theorem dX0_lateJobs_32 : decode cX0_lateJobs 32 = .ok (.ior, 1) := by decide +kernel
theorem dX0_lateJobs_33 : decode cX0_lateJobs 33 = .ok (.istore_n 1, 1) := by decide +kernel
theorem dX0_lateJobs_34 : decode cX0_lateJobs 34 = .ok (.iinc 2 1, 3) := by decide +kernel
theorem dX0_lateJobs_37 : decode cX0_lateJobs 37 = .ok (.goto (-33), 3) := by decide +kernel
theorem dX0_lateJobs_40 : decode cX0_lateJobs 40 = .ok (.iload_n 1, 1) := by decide +kernel
theorem dX0_lateJobs_41 : decode cX0_lateJobs 41 = .ok (.ireturn, 1) := by decide +kernel
theorem dX1_init_0 : decode cX1_init 0 = .ok (.aload_n 0, 1) := by decide +kernel
theorem dX1_init_1 : decode cX1_init 1 = .ok (.invokespecial 3, 3) := by decide +kernel
theorem dX1_init_4 : decode cX1_init 4 = .ok (.aload_n 0, 1) := by decide +kernel
theorem dX1_init_5 : decode cX1_init 5 = .ok (.bipush 7, 2) := by decide +kernel
theorem dX1_init_7 : decode cX1_init 7 = .ok (.anewarray 11, 3) := by decide +kernel
theorem dX1_init_10 : decode cX1_init 10 = .ok (.putfield 13, 3) := by decide +kernel
theorem dX1_init_13 : decode cX1_init 13 = .ok (.iconst 0, 1) := by decide +kernel
theorem dX1_init_14 : decode cX1_init 14 = .ok (.istore_n 1, 1) := by decide +kernel
theorem dX1_init_15 : decode cX1_init 15 = .ok (.iload_n 1, 1) := by decide +kernel
theorem dX1_init_16 : decode cX1_init 16 = .ok (.bipush 7, 2) := by decide +kernel
theorem dX1_init_18 : decode cX1_init 18 = .ok (.if_icmp .ge 22, 3) := by decide +kernel
theorem dX1_init_21 : decode cX1_init 21 = .ok (.aload_n 0, 1) := by decide +kernel
theorem dX1_init_22 : decode cX1_init 22 = .ok (.getfield 13, 3) := by decide +kernel
theorem dX1_init_25 : decode cX1_init 25 = .ok (.iload_n 1, 1) := by decide +kernel
theorem dX1_init_26 : decode cX1_init 26 = .ok (.new 11, 3) := by decide +kernel
theorem dX1_init_29 : decode cX1_init 29 = .ok (.dup, 1) := by decide +kernel
theorem dX1_init_30 : decode cX1_init 30 = .ok (.invokespecial 17, 3) := by decide +kernel
theorem dX1_init_33 : decode cX1_init 33 = .ok (.aastore, 1) := by decide +kernel
theorem dX1_init_34 : decode cX1_init 34 = .ok (.iinc 1 1, 3) := by decide +kernel
theorem dX1_init_37 : decode cX1_init 37 = .ok (.goto (-22), 3) := by decide +kernel
theorem dX1_init_40 : decode cX1_init 40 = .ok (.return_, 1) := by decide +kernel
theorem dX1_note_0 : decode cX1_note 0 = .ok (.aload_n 0, 1) := by decide +kernel
theorem dX1_note_1 : decode cX1_note 1 = .ok (.getfield 13, 3) := by decide +kernel
theorem dX1_note_4 : decode cX1_note 4 = .ok (.aload_n 0, 1) := by decide +kernel
theorem dX1_note_5 : decode cX1_note 5 = .ok (.getfield 18, 3) := by decide +kernel
theorem dX1_note_8 : decode cX1_note 8 = .ok (.aload_n 0, 1) := by decide +kernel
theorem dX1_note_9 : decode cX1_note 9 = .ok (.getfield 22, 3) := by decide +kernel
theorem dX1_note_12 : decode cX1_note 12 = .ok (.iadd, 1) := by decide +kernel
theorem dX1_note_13 : decode cX1_note 13 = .ok (.bipush 7, 2) := by decide +kernel
theorem dX1_note_15 : decode cX1_note 15 = .ok (.irem, 1) := by decide +kernel
theorem dX1_note_16 : decode cX1_note 16 = .ok (.aaload, 1) := by decide +kernel
theorem dX1_note_17 : decode cX1_note 17 = .ok (.aload_n 1, 1) := by decide +kernel
theorem dX1_note_18 : decode cX1_note 18 = .ok (.invokevirtual 25, 3) := by decide +kernel
theorem dX1_note_21 : decode cX1_note 21 = .ok (.return_, 1) := by decide +kernel
theorem dX1_keepUnlessError_0 : decode cX1_keepUnlessError 0 = .ok (.iload_n 1, 1) := by decide +kernel
theorem dX1_keepUnlessError_1 : decode cX1_keepUnlessError 1 = .ok (.ifCond .ge 5, 3) := by decide +kernel
theorem dX1_keepUnlessError_4 : decode cX1_keepUnlessError 4 = .ok (.iload_n 1, 1) := by decide +kernel
theorem dX1_keepUnlessError_5 : decode cX1_keepUnlessError 5 = .ok (.ireturn, 1) := by decide +kernel
theorem dX1_keepUnlessError_6 : decode cX1_keepUnlessError 6 = .ok (.aload_n 0, 1) := by decide +kernel
theorem dX1_keepUnlessError_7 : decode cX1_keepUnlessError 7 = .ok (.getfield 22, 3) := by decide +kernel
theorem dX1_keepUnlessError_10 : decode cX1_keepUnlessError 10 = .ok (.bipush 6, 2) := by decide +kernel
theorem dX1_keepUnlessError_12 : decode cX1_keepUnlessError 12 = .ok (.if_icmp .ge 16, 3) := by decide +kernel
theorem dX1_keepUnlessError_15 : decode cX1_keepUnlessError 15 = .ok (.aload_n 0, 1) := by decide +kernel
theorem dX1_keepUnlessError_16 : decode cX1_keepUnlessError 16 = .ok (.dup, 1) := by decide +kernel
theorem dX1_keepUnlessError_17 : decode cX1_keepUnlessError 17 = .ok (.getfield 22, 3) := by decide +kernel
theorem dX1_keepUnlessError_20 : decode cX1_keepUnlessError 20 = .ok (.iconst 1, 1) := by decide +kernel
theorem dX1_keepUnlessError_21 : decode cX1_keepUnlessError 21 = .ok (.iadd, 1) := by decide +kernel
theorem dX1_keepUnlessError_22 : decode cX1_keepUnlessError 22 = .ok (.putfield 22, 3) := by decide +kernel
theorem dX1_keepUnlessError_25 : decode cX1_keepUnlessError 25 = .ok (.goto 16, 3) := by decide +kernel
theorem dX1_keepUnlessError_28 : decode cX1_keepUnlessError 28 = .ok (.aload_n 0, 1) := by decide +kernel
theorem dX1_keepUnlessError_29 : decode cX1_keepUnlessError 29 = .ok (.aload_n 0, 1) := by decide +kernel
theorem dX1_keepUnlessError_30 : decode cX1_keepUnlessError 30 = .ok (.getfield 18, 3) := by decide +kernel
theorem dX1_keepUnlessError_33 : decode cX1_keepUnlessError 33 = .ok (.iconst 1, 1) := by decide +kernel
theorem dX1_keepUnlessError_34 : decode cX1_keepUnlessError 34 = .ok (.iadd, 1) := by decide +kernel
theorem dX1_keepUnlessError_35 : decode cX1_keepUnlessError 35 = .ok (.bipush 7, 2) := by decide +kernel
theorem dX1_keepUnlessError_37 : decode cX1_keepUnlessError 37 = .ok (.irem, 1) := by decide +kernel
theorem dX1_keepUnlessError_38 : decode cX1_keepUnlessError 38 = .ok (.putfield 18, 3) := by decide +kernel
theorem dX1_keepUnlessError_41 : decode cX1_keepUnlessError 41 = .ok (.iload_n 1, 1) := by decide +kernel
theorem dX1_keepUnlessError_42 : decode cX1_keepUnlessError 42 = .ok (.ireturn, 1) := by decide +kernel
theorem dX1_takeBack_0 : decode cX1_takeBack 0 = .ok (.aload_n 0, 1) := by decide +kernel
theorem dX1_takeBack_1 : decode cX1_takeBack 1 = .ok (.getfield 22, 3) := by decide +kernel
theorem dX1_takeBack_4 : decode cX1_takeBack 4 = .ok (.ifCond .gt 6, 3) := by decide +kernel
theorem dX1_takeBack_7 : decode cX1_takeBack 7 = .ok (.bipush (-5), 2) := by decide +kernel
theorem dX1_takeBack_9 : decode cX1_takeBack 9 = .ok (.ireturn, 1) := by decide +kernel
theorem dX1_takeBack_10 : decode cX1_takeBack 10 = .ok (.aload_n 0, 1) := by decide +kernel
theorem dX1_takeBack_11 : decode cX1_takeBack 11 = .ok (.dup, 1) := by decide +kernel
theorem dX1_takeBack_12 : decode cX1_takeBack 12 = .ok (.getfield 22, 3) := by decide +kernel
theorem dX1_takeBack_15 : decode cX1_takeBack 15 = .ok (.iconst 1, 1) := by decide +kernel
theorem dX1_takeBack_16 : decode cX1_takeBack 16 = .ok (.isub, 1) := by decide +kernel
theorem dX1_takeBack_17 : decode cX1_takeBack 17 = .ok (.putfield 22, 3) := by decide +kernel
theorem dX1_takeBack_20 : decode cX1_takeBack 20 = .ok (.aload_n 1, 1) := by decide +kernel
theorem dX1_takeBack_21 : decode cX1_takeBack 21 = .ok (.aload_n 0, 1) := by decide +kernel
theorem dX1_takeBack_22 : decode cX1_takeBack 22 = .ok (.getfield 13, 3) := by decide +kernel
theorem dX1_takeBack_25 : decode cX1_takeBack 25 = .ok (.aload_n 0, 1) := by decide +kernel
theorem dX1_takeBack_26 : decode cX1_takeBack 26 = .ok (.getfield 18, 3) := by decide +kernel
theorem dX1_takeBack_29 : decode cX1_takeBack 29 = .ok (.aload_n 0, 1) := by decide +kernel
theorem dX1_takeBack_30 : decode cX1_takeBack 30 = .ok (.getfield 22, 3) := by decide +kernel
theorem dX1_takeBack_33 : decode cX1_takeBack 33 = .ok (.iadd, 1) := by decide +kernel
theorem dX1_takeBack_34 : decode cX1_takeBack 34 = .ok (.bipush 7, 2) := by decide +kernel
theorem dX1_takeBack_36 : decode cX1_takeBack 36 = .ok (.irem, 1) := by decide +kernel
theorem dX1_takeBack_37 : decode cX1_takeBack 37 = .ok (.aaload, 1) := by decide +kernel
theorem dX1_takeBack_38 : decode cX1_takeBack 38 = .ok (.invokevirtual 25, 3) := by decide +kernel
theorem dX1_takeBack_41 : decode cX1_takeBack 41 = .ok (.aload_n 0, 1) := by decide +kernel
theorem dX1_takeBack_42 : decode cX1_takeBack 42 = .ok (.getfield 22, 3) := by decide +kernel
theorem dX1_takeBack_45 : decode cX1_takeBack 45 = .ok (.ireturn, 1) := by decide +kernel
theorem dX2_init_0 : decode cX2_init 0 = .ok (.aload_n 0, 1) := by decide +kernel
theorem dX2_init_1 : decode cX2_init 1 = .ok (.invokespecial 3, 3) := by decide +kernel
theorem dX2_init_4 : decode cX2_init 4 = .ok (.return_, 1) := by decide +kernel
theorem dX2_come_0 : decode cX2_come 0 = .ok (.aload_n 0, 1) := by decide +kernel
theorem dX2_come_1 : decode cX2_come 1 = .ok (.iload_n 1, 1) := by decide +kernel
theorem dX2_come_2 : decode cX2_come 2 = .ok (.putfield 9, 3) := by decide +kernel
theorem dX2_come_5 : decode cX2_come 5 = .ok (.aload_n 0, 1) := by decide +kernel
theorem dX2_come_6 : decode cX2_come 6 = .ok (.iload_n 2, 1) := by decide +kernel
theorem dX2_come_7 : decode cX2_come 7 = .ok (.putfield 15, 3) := by decide +kernel
theorem dX2_come_10 : decode cX2_come 10 = .ok (.aload_n 0, 1) := by decide +kernel
theorem dX2_come_11 : decode cX2_come 11 = .ok (.iload_n 3, 1) := by decide +kernel
theorem dX2_come_12 : decode cX2_come 12 = .ok (.putfield 18, 3) := by decide +kernel
theorem dX2_come_15 : decode cX2_come 15 = .ok (.aload_n 0, 1) := by decide +kernel
theorem dX2_come_16 : decode cX2_come 16 = .ok (.iload 4, 2) := by decide +kernel
theorem dX2_come_18 : decode cX2_come 18 = .ok (.putfield 21, 3) := by decide +kernel
theorem dX2_come_21 : decode cX2_come 21 = .ok (.aload_n 0, 1) := by decide +kernel
theorem dX2_come_22 : decode cX2_come 22 = .ok (.iload 5, 2) := by decide +kernel
theorem dX2_come_24 : decode cX2_come 24 = .ok (.putfield 24, 3) := by decide +kernel
theorem dX2_come_27 : decode cX2_come 27 = .ok (.aload_n 0, 1) := by decide +kernel
theorem dX2_come_28 : decode cX2_come 28 = .ok (.iconst 0, 1) := by decide +kernel
theorem dX2_come_29 : decode cX2_come 29 = .ok (.putfield 27, 3) := by decide +kernel
theorem dX2_come_32 : decode cX2_come 32 = .ok (.aload_n 0, 1) := by decide +kernel
theorem dX2_come_33 : decode cX2_come 33 = .ok (.iconst 0, 1) := by decide +kernel
theorem dX2_come_34 : decode cX2_come 34 = .ok (.putfield 30, 3) := by decide +kernel
theorem dX2_come_37 : decode cX2_come 37 = .ok (.aload_n 0, 1) := by decide +kernel
theorem dX2_come_38 : decode cX2_come 38 = .ok (.iconst 0, 1) := by decide +kernel
theorem dX2_come_39 : decode cX2_come 39 = .ok (.putfield 33, 3) := by decide +kernel
theorem dX2_come_42 : decode cX2_come 42 = .ok (.aload_n 0, 1) := by decide +kernel
theorem dX2_come_43 : decode cX2_come 43 = .ok (.bipush (-6), 2) := by decide +kernel
theorem dX2_come_45 : decode cX2_come 45 = .ok (.putfield 36, 3) := by decide +kernel
theorem dX2_come_48 : decode cX2_come 48 = .ok (.aload_n 0, 1) := by decide +kernel
theorem dX2_come_49 : decode cX2_come 49 = .ok (.iconst 0, 1) := by decide +kernel
theorem dX2_come_50 : decode cX2_come 50 = .ok (.putfield 39, 3) := by decide +kernel
theorem dX2_come_53 : decode cX2_come 53 = .ok (.aload_n 0, 1) := by decide +kernel
theorem dX2_come_54 : decode cX2_come 54 = .ok (.iconst 0, 1) := by decide +kernel
theorem dX2_come_55 : decode cX2_come 55 = .ok (.putfield 42, 3) := by decide +kernel
theorem dX2_come_58 : decode cX2_come 58 = .ok (.aload_n 0, 1) := by decide +kernel
theorem dX2_come_59 : decode cX2_come 59 = .ok (.bipush (-6), 2) := by decide +kernel
theorem dX2_come_61 : decode cX2_come 61 = .ok (.putfield 45, 3) := by decide +kernel
theorem dX2_come_64 : decode cX2_come 64 = .ok (.return_, 1) := by decide +kernel
theorem dX2_copyFrom_0 : decode cX2_copyFrom 0 = .ok (.aload_n 0, 1) := by decide +kernel
theorem dX2_copyFrom_1 : decode cX2_copyFrom 1 = .ok (.aload_n 1, 1) := by decide +kernel
theorem dX2_copyFrom_2 : decode cX2_copyFrom 2 = .ok (.getfield 9, 3) := by decide +kernel
theorem dX2_copyFrom_5 : decode cX2_copyFrom 5 = .ok (.putfield 9, 3) := by decide +kernel
theorem dX2_copyFrom_8 : decode cX2_copyFrom 8 = .ok (.aload_n 0, 1) := by decide +kernel
theorem dX2_copyFrom_9 : decode cX2_copyFrom 9 = .ok (.aload_n 1, 1) := by decide +kernel
theorem dX2_copyFrom_10 : decode cX2_copyFrom 10 = .ok (.getfield 15, 3) := by decide +kernel
theorem dX2_copyFrom_13 : decode cX2_copyFrom 13 = .ok (.putfield 15, 3) := by decide +kernel
theorem dX2_copyFrom_16 : decode cX2_copyFrom 16 = .ok (.aload_n 0, 1) := by decide +kernel
theorem dX2_copyFrom_17 : decode cX2_copyFrom 17 = .ok (.aload_n 1, 1) := by decide +kernel
theorem dX2_copyFrom_18 : decode cX2_copyFrom 18 = .ok (.getfield 18, 3) := by decide +kernel
theorem dX2_copyFrom_21 : decode cX2_copyFrom 21 = .ok (.putfield 18, 3) := by decide +kernel
theorem dX2_copyFrom_24 : decode cX2_copyFrom 24 = .ok (.aload_n 0, 1) := by decide +kernel
theorem dX2_copyFrom_25 : decode cX2_copyFrom 25 = .ok (.aload_n 1, 1) := by decide +kernel
theorem dX2_copyFrom_26 : decode cX2_copyFrom 26 = .ok (.getfield 21, 3) := by decide +kernel
theorem dX2_copyFrom_29 : decode cX2_copyFrom 29 = .ok (.putfield 21, 3) := by decide +kernel
theorem dX2_copyFrom_32 : decode cX2_copyFrom 32 = .ok (.aload_n 0, 1) := by decide +kernel
theorem dX2_copyFrom_33 : decode cX2_copyFrom 33 = .ok (.aload_n 1, 1) := by decide +kernel
theorem dX2_copyFrom_34 : decode cX2_copyFrom 34 = .ok (.getfield 24, 3) := by decide +kernel
theorem dX2_copyFrom_37 : decode cX2_copyFrom 37 = .ok (.putfield 24, 3) := by decide +kernel
theorem dX2_copyFrom_40 : decode cX2_copyFrom 40 = .ok (.aload_n 0, 1) := by decide +kernel
theorem dX2_copyFrom_41 : decode cX2_copyFrom 41 = .ok (.aload_n 1, 1) := by decide +kernel
theorem dX2_copyFrom_42 : decode cX2_copyFrom 42 = .ok (.getfield 27, 3) := by decide +kernel
theorem dX2_copyFrom_45 : decode cX2_copyFrom 45 = .ok (.putfield 27, 3) := by decide +kernel
theorem dX2_copyFrom_48 : decode cX2_copyFrom 48 = .ok (.aload_n 0, 1) := by decide +kernel
theorem dX2_copyFrom_49 : decode cX2_copyFrom 49 = .ok (.aload_n 1, 1) := by decide +kernel
theorem dX2_copyFrom_50 : decode cX2_copyFrom 50 = .ok (.getfield 30, 3) := by decide +kernel
theorem dX2_copyFrom_53 : decode cX2_copyFrom 53 = .ok (.putfield 30, 3) := by decide +kernel
theorem dX2_copyFrom_56 : decode cX2_copyFrom 56 = .ok (.aload_n 0, 1) := by decide +kernel
theorem dX2_copyFrom_57 : decode cX2_copyFrom 57 = .ok (.aload_n 1, 1) := by decide +kernel
theorem dX2_copyFrom_58 : decode cX2_copyFrom 58 = .ok (.getfield 33, 3) := by decide +kernel
theorem dX2_copyFrom_61 : decode cX2_copyFrom 61 = .ok (.putfield 33, 3) := by decide +kernel
theorem dX2_copyFrom_64 : decode cX2_copyFrom 64 = .ok (.aload_n 0, 1) := by decide +kernel
theorem dX2_copyFrom_65 : decode cX2_copyFrom 65 = .ok (.aload_n 1, 1) := by decide +kernel
theorem dX2_copyFrom_66 : decode cX2_copyFrom 66 = .ok (.getfield 36, 3) := by decide +kernel
theorem dX2_copyFrom_69 : decode cX2_copyFrom 69 = .ok (.putfield 36, 3) := by decide +kernel
theorem dX2_copyFrom_72 : decode cX2_copyFrom 72 = .ok (.aload_n 0, 1) := by decide +kernel
theorem dX2_copyFrom_73 : decode cX2_copyFrom 73 = .ok (.aload_n 1, 1) := by decide +kernel
theorem dX2_copyFrom_74 : decode cX2_copyFrom 74 = .ok (.getfield 39, 3) := by decide +kernel
theorem dX2_copyFrom_77 : decode cX2_copyFrom 77 = .ok (.putfield 39, 3) := by decide +kernel
theorem dX2_copyFrom_80 : decode cX2_copyFrom 80 = .ok (.aload_n 0, 1) := by decide +kernel
theorem dX2_copyFrom_81 : decode cX2_copyFrom 81 = .ok (.aload_n 1, 1) := by decide +kernel
theorem dX2_copyFrom_82 : decode cX2_copyFrom 82 = .ok (.getfield 42, 3) := by decide +kernel
theorem dX2_copyFrom_85 : decode cX2_copyFrom 85 = .ok (.putfield 42, 3) := by decide +kernel
theorem dX2_copyFrom_88 : decode cX2_copyFrom 88 = .ok (.aload_n 0, 1) := by decide +kernel
theorem dX2_copyFrom_89 : decode cX2_copyFrom 89 = .ok (.aload_n 1, 1) := by decide +kernel
theorem dX2_copyFrom_90 : decode cX2_copyFrom 90 = .ok (.getfield 45, 3) := by decide +kernel
theorem dX2_copyFrom_93 : decode cX2_copyFrom 93 = .ok (.putfield 45, 3) := by decide +kernel
theorem dX2_copyFrom_96 : decode cX2_copyFrom 96 = .ok (.return_, 1) := by decide +kernel
theorem dX2_wasBegun_0 : decode cX2_wasBegun 0 = .ok (.aload_n 0, 1) := by decide +kernel
theorem dX2_wasBegun_1 : decode cX2_wasBegun 1 = .ok (.getfield 33, 3) := by decide +kernel
theorem dX2_wasBegun_4 : decode cX2_wasBegun 4 = .ok (.ifCond .eq 7, 3) := by decide +kernel
theorem dX2_wasBegun_7 : decode cX2_wasBegun 7 = .ok (.iconst 1, 1) := by decide +kernel
theorem dX2_wasBegun_8 : decode cX2_wasBegun 8 = .ok (.goto 4, 3) := by decide +kernel
theorem dX2_wasBegun_11 : decode cX2_wasBegun 11 = .ok (.iconst 0, 1) := by decide +kernel
theorem dX2_wasBegun_12 : decode cX2_wasBegun 12 = .ok (.ireturn, 1) := by decide +kernel
theorem dX2_isLate_0 : decode cX2_isLate 0 = .ok (.aload_n 0, 1) := by decide +kernel
theorem dX2_isLate_1 : decode cX2_isLate 1 = .ok (.getfield 27, 3) := by decide +kernel
theorem dX2_isLate_4 : decode cX2_isLate 4 = .ok (.lookupswitch 47 #[(2, 28), (3, 45)], 28) := by decide +kernel
theorem dX2_isLate_32 : decode cX2_isLate 32 = .ok (.aload_n 0, 1) := by decide +kernel
theorem dX2_isLate_33 : decode cX2_isLate 33 = .ok (.getfield 45, 3) := by decide +kernel
theorem dX2_isLate_36 : decode cX2_isLate 36 = .ok (.aload_n 0, 1) := by decide +kernel
theorem dX2_isLate_37 : decode cX2_isLate 37 = .ok (.getfield 24, 3) := by decide +kernel
theorem dX2_isLate_40 : decode cX2_isLate 40 = .ok (.if_icmp .le 7, 3) := by decide +kernel
theorem dX2_isLate_43 : decode cX2_isLate 43 = .ok (.iconst 1, 1) := by decide +kernel
theorem dX2_isLate_44 : decode cX2_isLate 44 = .ok (.goto 4, 3) := by decide +kernel
theorem dX2_isLate_47 : decode cX2_isLate 47 = .ok (.iconst 0, 1) := by decide +kernel
theorem dX2_isLate_48 : decode cX2_isLate 48 = .ok (.ireturn, 1) := by decide +kernel
theorem dX2_isLate_49 : decode cX2_isLate 49 = .ok (.iconst 0, 1) := by decide +kernel
theorem dX2_isLate_50 : decode cX2_isLate 50 = .ok (.ireturn, 1) := by decide +kernel
theorem dX2_isLate_51 : decode cX2_isLate 51 = .ok (.iload_n 1, 1) := by decide +kernel
theorem dX2_isLate_52 : decode cX2_isLate 52 = .ok (.aload_n 0, 1) := by decide +kernel
theorem dX2_isLate_53 : decode cX2_isLate 53 = .ok (.getfield 24, 3) := by decide +kernel
theorem dX2_isLate_56 : decode cX2_isLate 56 = .ok (.if_icmp .le 7, 3) := by decide +kernel
theorem dX2_isLate_59 : decode cX2_isLate 59 = .ok (.iconst 1, 1) := by decide +kernel
theorem dX2_isLate_60 : decode cX2_isLate 60 = .ok (.goto 4, 3) := by decide +kernel
theorem dX2_isLate_63 : decode cX2_isLate 63 = .ok (.iconst 0, 1) := by decide +kernel
theorem dX2_isLate_64 : decode cX2_isLate 64 = .ok (.ireturn, 1) := by decide +kernel
theorem dX2_isAheadOfLater_0 : decode cX2_isAheadOfLater 0 = .ok (.aload_n 0, 1) := by decide +kernel
theorem dX2_isAheadOfLater_1 : decode cX2_isAheadOfLater 1 = .ok (.getfield 21, 3) := by decide +kernel
theorem dX2_isAheadOfLater_4 : decode cX2_isAheadOfLater 4 = .ok (.aload_n 1, 1) := by decide +kernel
theorem dX2_isAheadOfLater_5 : decode cX2_isAheadOfLater 5 = .ok (.getfield 21, 3) := by decide +kernel
theorem dX2_isAheadOfLater_8 : decode cX2_isAheadOfLater 8 = .ok (.if_icmp .eq 22, 3) := by decide +kernel
theorem dX2_isAheadOfLater_11 : decode cX2_isAheadOfLater 11 = .ok (.aload_n 0, 1) := by decide +kernel
theorem dX2_isAheadOfLater_12 : decode cX2_isAheadOfLater 12 = .ok (.getfield 21, 3) := by decide +kernel
theorem dX2_isAheadOfLater_15 : decode cX2_isAheadOfLater 15 = .ok (.aload_n 1, 1) := by decide +kernel
theorem dX2_isAheadOfLater_16 : decode cX2_isAheadOfLater 16 = .ok (.getfield 21, 3) := by decide +kernel
theorem dX2_isAheadOfLater_19 : decode cX2_isAheadOfLater 19 = .ok (.if_icmp .le 7, 3) := by decide +kernel
theorem dX2_isAheadOfLater_22 : decode cX2_isAheadOfLater 22 = .ok (.iconst 1, 1) := by decide +kernel
theorem dX2_isAheadOfLater_23 : decode cX2_isAheadOfLater 23 = .ok (.goto 23, 3) := by decide +kernel
theorem dX2_isAheadOfLater_26 : decode cX2_isAheadOfLater 26 = .ok (.iconst 0, 1) := by decide +kernel
theorem dX2_isAheadOfLater_27 : decode cX2_isAheadOfLater 27 = .ok (.goto 19, 3) := by decide +kernel
theorem dX2_isAheadOfLater_30 : decode cX2_isAheadOfLater 30 = .ok (.aload_n 0, 1) := by decide +kernel
theorem dX2_isAheadOfLater_31 : decode cX2_isAheadOfLater 31 = .ok (.getfield 24, 3) := by decide +kernel
theorem dX2_isAheadOfLater_34 : decode cX2_isAheadOfLater 34 = .ok (.aload_n 1, 1) := by decide +kernel
theorem dX2_isAheadOfLater_35 : decode cX2_isAheadOfLater 35 = .ok (.getfield 24, 3) := by decide +kernel
theorem dX2_isAheadOfLater_38 : decode cX2_isAheadOfLater 38 = .ok (.if_icmp .gt 7, 3) := by decide +kernel
theorem dX2_isAheadOfLater_41 : decode cX2_isAheadOfLater 41 = .ok (.iconst 1, 1) := by decide +kernel
theorem dX2_isAheadOfLater_42 : decode cX2_isAheadOfLater 42 = .ok (.goto 4, 3) := by decide +kernel
theorem dX2_isAheadOfLater_45 : decode cX2_isAheadOfLater 45 = .ok (.iconst 0, 1) := by decide +kernel
theorem dX2_isAheadOfLater_46 : decode cX2_isAheadOfLater 46 = .ok (.ireturn, 1) := by decide +kernel
theorem dX3_init_0 : decode cX3_init 0 = .ok (.aload_n 0, 1) := by decide +kernel
theorem dX3_init_1 : decode cX3_init 1 = .ok (.invokespecial 3, 3) := by decide +kernel
theorem dX3_init_4 : decode cX3_init 4 = .ok (.aload_n 0, 1) := by decide +kernel
theorem dX3_init_5 : decode cX3_init 5 = .ok (.bipush 80, 2) := by decide +kernel
theorem dX3_init_7 : decode cX3_init 7 = .ok (.newarray .int, 2) := by decide +kernel
theorem dX3_init_9 : decode cX3_init 9 = .ok (.putfield 9, 3) := by decide +kernel
theorem dX3_init_12 : decode cX3_init 12 = .ok (.aload_n 0, 1) := by decide +kernel
theorem dX3_init_13 : decode cX3_init 13 = .ok (.iconst 5, 1) := by decide +kernel
theorem dX3_init_14 : decode cX3_init 14 = .ok (.newarray .int, 2) := by decide +kernel
theorem dX3_init_16 : decode cX3_init 16 = .ok (.putfield 15, 3) := by decide +kernel
theorem dX3_init_19 : decode cX3_init 19 = .ok (.return_, 1) := by decide +kernel
theorem dX3_append_0 : decode cX3_append 0 = .ok (.lload_n 1, 1) := by decide +kernel
theorem dX3_append_1 : decode cX3_append 1 = .ok (.invokestatic 18, 3) := by decide +kernel
theorem dX3_append_4 : decode cX3_append 4 = .ok (.istore_n 3, 1) := by decide +kernel
theorem dX3_append_5 : decode cX3_append 5 = .ok (.iload_n 3, 1) := by decide +kernel
theorem dX3_append_6 : decode cX3_append 6 = .ok (.ifCond .gt 6, 3) := by decide +kernel
theorem dX3_append_9 : decode cX3_append 9 = .ok (.bipush (-2), 2) := by decide +kernel
theorem dX3_append_11 : decode cX3_append 11 = .ok (.ireturn, 1) := by decide +kernel
theorem dX3_append_12 : decode cX3_append 12 = .ok (.aload_n 0, 1) := by decide +kernel
theorem dX3_append_13 : decode cX3_append 13 = .ok (.getfield 22, 3) := by decide +kernel
theorem dX3_append_16 : decode cX3_append 16 = .ok (.iload_n 3, 1) := by decide +kernel
theorem dX3_append_17 : decode cX3_append 17 = .ok (.iadd, 1) := by decide +kernel
theorem dX3_append_18 : decode cX3_append 18 = .ok (.bipush 80, 2) := by decide +kernel
theorem dX3_append_20 : decode cX3_append 20 = .ok (.if_icmp .le 6, 3) := by decide +kernel
theorem dX3_append_23 : decode cX3_append 23 = .ok (.bipush (-4), 2) := by decide +kernel
theorem dX3_append_25 : decode cX3_append 25 = .ok (.ireturn, 1) := by decide +kernel
theorem dX3_append_26 : decode cX3_append 26 = .ok (.iconst 0, 1) := by decide +kernel
theorem dX3_append_27 : decode cX3_append 27 = .ok (.istore 4, 2) := by decide +kernel
theorem dX3_append_29 : decode cX3_append 29 = .ok (.iload 4, 2) := by decide +kernel
theorem dX3_append_31 : decode cX3_append 31 = .ok (.iload_n 3, 1) := by decide +kernel
theorem dX3_append_32 : decode cX3_append 32 = .ok (.if_icmp .ge 31, 3) := by decide +kernel
theorem dX3_append_35 : decode cX3_append 35 = .ok (.aload_n 0, 1) := by decide +kernel
theorem dX3_append_36 : decode cX3_append 36 = .ok (.getfield 9, 3) := by decide +kernel
theorem dX3_append_39 : decode cX3_append 39 = .ok (.aload_n 0, 1) := by decide +kernel
theorem dX3_append_40 : decode cX3_append 40 = .ok (.getfield 22, 3) := by decide +kernel
theorem dX3_append_43 : decode cX3_append 43 = .ok (.iload 4, 2) := by decide +kernel
theorem dX3_append_45 : decode cX3_append 45 = .ok (.iadd, 1) := by decide +kernel
theorem dX3_append_46 : decode cX3_append 46 = .ok (.lload_n 1, 1) := by decide +kernel
theorem dX3_append_47 : decode cX3_append 47 = .ok (.iload_n 3, 1) := by decide +kernel
theorem dX3_append_48 : decode cX3_append 48 = .ok (.iconst 1, 1) := by decide +kernel
theorem dX3_append_49 : decode cX3_append 49 = .ok (.isub, 1) := by decide +kernel
theorem dX3_append_50 : decode cX3_append 50 = .ok (.iload 4, 2) := by decide +kernel
theorem dX3_append_52 : decode cX3_append 52 = .ok (.isub, 1) := by decide +kernel
theorem dX3_append_53 : decode cX3_append 53 = .ok (.invokestatic 26, 3) := by decide +kernel
theorem dX3_append_56 : decode cX3_append 56 = .ok (.iastore, 1) := by decide +kernel
theorem dX3_append_57 : decode cX3_append 57 = .ok (.iinc 4 1, 3) := by decide +kernel
theorem dX3_append_60 : decode cX3_append 60 = .ok (.goto (-31), 3) := by decide +kernel
theorem dX3_append_63 : decode cX3_append 63 = .ok (.aload_n 0, 1) := by decide +kernel
theorem dX3_append_64 : decode cX3_append 64 = .ok (.dup, 1) := by decide +kernel
theorem dX3_append_65 : decode cX3_append 65 = .ok (.getfield 22, 3) := by decide +kernel
theorem dX3_append_68 : decode cX3_append 68 = .ok (.iload_n 3, 1) := by decide +kernel
theorem dX3_append_69 : decode cX3_append 69 = .ok (.iadd, 1) := by decide +kernel
theorem dX3_append_70 : decode cX3_append 70 = .ok (.putfield 22, 3) := by decide +kernel
theorem dX3_append_73 : decode cX3_append 73 = .ok (.aload_n 0, 1) := by decide +kernel
theorem dX3_append_74 : decode cX3_append 74 = .ok (.getfield 22, 3) := by decide +kernel
theorem dX3_append_77 : decode cX3_append 77 = .ok (.ireturn, 1) := by decide +kernel
theorem dX3_signsIn_0 : decode cX3_signsIn 0 = .ok (.iconst 0, 1) := by decide +kernel
theorem dX3_signsIn_1 : decode cX3_signsIn 1 = .ok (.istore_n 2, 1) := by decide +kernel
theorem dX3_signsIn_2 : decode cX3_signsIn 2 = .ok (.iload_n 2, 1) := by decide +kernel
theorem dX3_signsIn_3 : decode cX3_signsIn 3 = .ok (.bipush 8, 2) := by decide +kernel
theorem dX3_signsIn_5 : decode cX3_signsIn 5 = .ok (.if_icmp .ge 34, 3) := by decide +kernel
theorem dX3_signsIn_8 : decode cX3_signsIn 8 = .ok (.lload_n 0, 1) := by decide +kernel
theorem dX3_signsIn_9 : decode cX3_signsIn 9 = .ok (.iload_n 2, 1) := by decide +kernel
theorem dX3_signsIn_10 : decode cX3_signsIn 10 = .ok (.invokestatic 26, 3) := by decide +kernel
theorem dX3_signsIn_13 : decode cX3_signsIn 13 = .ok (.ifCond .eq 26, 3) := by decide +kernel
theorem dX3_signsIn_16 : decode cX3_signsIn 16 = .ok (.lload_n 0, 1) := by decide +kernel
theorem dX3_signsIn_17 : decode cX3_signsIn 17 = .ok (.iload_n 2, 1) := by decide +kernel
theorem dX3_signsIn_18 : decode cX3_signsIn 18 = .ok (.invokestatic 26, 3) := by decide +kernel
theorem dX3_signsIn_21 : decode cX3_signsIn 21 = .ok (.bipush 33, 2) := by decide +kernel
theorem dX3_signsIn_23 : decode cX3_signsIn 23 = .ok (.bipush 126, 2) := by decide +kernel
theorem dX3_signsIn_25 : decode cX3_signsIn 25 = .ok (.invokestatic 30, 3) := by decide +kernel
theorem dX3_signsIn_28 : decode cX3_signsIn 28 = .ok (.ifCond .ne 5, 3) := by decide +kernel
theorem dX3_signsIn_31 : decode cX3_signsIn 31 = .ok (.iconst 0, 1) := by decide +kernel
theorem dX3_signsIn_32 : decode cX3_signsIn 32 = .ok (.ireturn, 1) := by decide +kernel
theorem dX3_signsIn_33 : decode cX3_signsIn 33 = .ok (.iinc 2 1, 3) := by decide +kernel
theorem dX3_signsIn_36 : decode cX3_signsIn 36 = .ok (.goto (-34), 3) := by decide +kernel
theorem dX3_signsIn_39 : decode cX3_signsIn 39 = .ok (.iload_n 2, 1) := by decide +kernel
theorem dX3_signsIn_40 : decode cX3_signsIn 40 = .ok (.bipush 8, 2) := by decide +kernel
theorem dX3_signsIn_42 : decode cX3_signsIn 42 = .ok (.if_icmp .eq 14, 3) := by decide +kernel
theorem dX3_signsIn_45 : decode cX3_signsIn 45 = .ok (.lload_n 0, 1) := by decide +kernel
theorem dX3_signsIn_46 : decode cX3_signsIn 46 = .ok (.bipush 8, 2) := by decide +kernel
theorem dX3_signsIn_48 : decode cX3_signsIn 48 = .ok (.iload_n 2, 1) := by decide +kernel
theorem dX3_signsIn_49 : decode cX3_signsIn 49 = .ok (.imul, 1) := by decide +kernel
theorem dX3_signsIn_50 : decode cX3_signsIn 50 = .ok (.lushr, 1) := by decide +kernel
theorem dX3_signsIn_51 : decode cX3_signsIn 51 = .ok (.lconst 0, 1) := by decide +kernel
theorem dX3_signsIn_52 : decode cX3_signsIn 52 = .ok (.lcmp, 1) := by decide +kernel
theorem dX3_signsIn_53 : decode cX3_signsIn 53 = .ok (.ifCond .ne 7, 3) := by decide +kernel
theorem dX3_signsIn_56 : decode cX3_signsIn 56 = .ok (.iconst 1, 1) := by decide +kernel
theorem dX3_signsIn_57 : decode cX3_signsIn 57 = .ok (.goto 4, 3) := by decide +kernel
theorem dX3_signsIn_60 : decode cX3_signsIn 60 = .ok (.iconst 0, 1) := by decide +kernel
theorem dX3_signsIn_61 : decode cX3_signsIn 61 = .ok (.istore_n 3, 1) := by decide +kernel
theorem dX3_signsIn_62 : decode cX3_signsIn 62 = .ok (.iload_n 3, 1) := by decide +kernel
theorem dX3_signsIn_63 : decode cX3_signsIn 63 = .ok (.ifCond .eq 7, 3) := by decide +kernel
theorem dX3_signsIn_66 : decode cX3_signsIn 66 = .ok (.iload_n 2, 1) := by decide +kernel
theorem dX3_signsIn_67 : decode cX3_signsIn 67 = .ok (.goto 4, 3) := by decide +kernel
theorem dX3_signsIn_70 : decode cX3_signsIn 70 = .ok (.iconst 0, 1) := by decide +kernel
theorem dX3_signsIn_71 : decode cX3_signsIn 71 = .ok (.ireturn, 1) := by decide +kernel
theorem dX3_signOf_0 : decode cX3_signOf 0 = .ok (.lload_n 0, 1) := by decide +kernel
theorem dX3_signOf_1 : decode cX3_signOf 1 = .ok (.bipush 8, 2) := by decide +kernel
theorem dX3_signOf_3 : decode cX3_signOf 3 = .ok (.iload_n 2, 1) := by decide +kernel
theorem dX3_signOf_4 : decode cX3_signOf 4 = .ok (.imul, 1) := by decide +kernel
theorem dX3_signOf_5 : decode cX3_signOf 5 = .ok (.lushr, 1) := by decide +kernel
theorem dX3_signOf_6 : decode cX3_signOf 6 = .ok (.l2i, 1) := by decide +kernel
theorem dX3_signOf_7 : decode cX3_signOf 7 = .ok (.sipush 255, 3) := by decide +kernel
theorem dX3_signOf_10 : decode cX3_signOf 10 = .ok (.iand, 1) := by decide +kernel
theorem dX3_signOf_11 : decode cX3_signOf 11 = .ok (.ireturn, 1) := by decide +kernel
theorem dX3_empty_0 : decode cX3_empty 0 = .ok (.aload_n 0, 1) := by decide +kernel
theorem dX3_empty_1 : decode cX3_empty 1 = .ok (.getfield 22, 3) := by decide +kernel
theorem dX3_empty_4 : decode cX3_empty 4 = .ok (.istore_n 1, 1) := by decide +kernel
theorem dX3_empty_5 : decode cX3_empty 5 = .ok (.aload_n 0, 1) := by decide +kernel
theorem dX3_empty_6 : decode cX3_empty 6 = .ok (.iconst 0, 1) := by decide +kernel
theorem dX3_empty_7 : decode cX3_empty 7 = .ok (.putfield 22, 3) := by decide +kernel
theorem dX3_empty_10 : decode cX3_empty 10 = .ok (.iload_n 1, 1) := by decide +kernel
theorem dX3_empty_11 : decode cX3_empty 11 = .ok (.ireturn, 1) := by decide +kernel
theorem dX3_startReading_0 : decode cX3_startReading 0 = .ok (.aload_n 0, 1) := by decide +kernel
theorem dX3_startReading_1 : decode cX3_startReading 1 = .ok (.iconst 0, 1) := by decide +kernel
theorem dX3_startReading_2 : decode cX3_startReading 2 = .ok (.putfield 34, 3) := by decide +kernel
theorem dX3_startReading_5 : decode cX3_startReading 5 = .ok (.return_, 1) := by decide +kernel
theorem dX3_number_0 : decode cX3_number 0 = .ok (.iload_n 1, 1) := by decide +kernel
theorem dX3_number_1 : decode cX3_number 1 = .ok (.ifCond .lt 20, 3) := by decide +kernel
theorem dX3_number_4 : decode cX3_number 4 = .ok (.iload_n 1, 1) := by decide +kernel
theorem dX3_number_5 : decode cX3_number 5 = .ok (.aload_n 0, 1) := by decide +kernel
theorem dX3_number_6 : decode cX3_number 6 = .ok (.getfield 37, 3) := by decide +kernel
theorem dX3_number_9 : decode cX3_number 9 = .ok (.if_icmp .ge 12, 3) := by decide +kernel
theorem dX3_number_12 : decode cX3_number 12 = .ok (.aload_n 0, 1) := by decide +kernel
theorem dX3_number_13 : decode cX3_number 13 = .ok (.getfield 15, 3) := by decide +kernel
theorem dX3_number_16 : decode cX3_number 16 = .ok (.iload_n 1, 1) := by decide +kernel
theorem dX3_number_17 : decode cX3_number 17 = .ok (.iaload, 1) := by decide +kernel
theorem dX3_number_18 : decode cX3_number 18 = .ok (.goto 4, 3) := by decide +kernel
theorem dX3_number_21 : decode cX3_number 21 = .ok (.iconst 0, 1) := by decide +kernel
theorem dX3_number_22 : decode cX3_number 22 = .ok (.ireturn, 1) := by decide +kernel
theorem dX3_findFault_0 : decode cX3_findFault 0 = .ok (.aload_n 0, 1) := by decide +kernel
theorem dX3_findFault_1 : decode cX3_findFault 1 = .ok (.invokevirtual 40, 3) := by decide +kernel
theorem dX3_findFault_4 : decode cX3_findFault 4 = .ok (.iconst 0, 1) := by decide +kernel
theorem dX3_findFault_5 : decode cX3_findFault 5 = .ok (.istore_n 1, 1) := by decide +kernel
theorem dX3_findFault_6 : decode cX3_findFault 6 = .ok (.iload_n 1, 1) := by decide +kernel
theorem dX3_findFault_7 : decode cX3_findFault 7 = .ok (.bipush 80, 2) := by decide +kernel
theorem dX3_findFault_9 : decode cX3_findFault 9 = .ok (.if_icmp .gt 49, 3) := by decide +kernel
theorem dX3_findFault_12 : decode cX3_findFault 12 = .ok (.aload_n 0, 1) := by decide +kernel
theorem dX3_findFault_13 : decode cX3_findFault 13 = .ok (.invokevirtual 43, 3) := by decide +kernel
theorem dX3_findFault_16 : decode cX3_findFault 16 = .ok (.ifCond .ne 8, 3) := by decide +kernel
theorem dX3_findFault_19 : decode cX3_findFault 19 = .ok (.aload_n 0, 1) := by decide +kernel
theorem dX3_findFault_20 : decode cX3_findFault 20 = .ok (.getfield 34, 3) := by decide +kernel
theorem dX3_findFault_23 : decode cX3_findFault 23 = .ok (.ireturn, 1) := by decide +kernel
theorem dX3_findFault_24 : decode cX3_findFault 24 = .ok (.aload_n 0, 1) := by decide +kernel
theorem dX3_findFault_25 : decode cX3_findFault 25 = .ok (.getfield 34, 3) := by decide +kernel
theorem dX3_findFault_28 : decode cX3_findFault 28 = .ok (.aload_n 0, 1) := by decide +kernel
theorem dX3_findFault_29 : decode cX3_findFault 29 = .ok (.getfield 22, 3) := by decide +kernel
theorem dX3_findFault_32 : decode cX3_findFault 32 = .ok (.if_icmp .lt 6, 3) := by decide +kernel
theorem dX3_findFault_35 : decode cX3_findFault 35 = .ok (.bipush (-6), 2) := by decide +kernel
theorem dX3_findFault_37 : decode cX3_findFault 37 = .ok (.ireturn, 1) := by decide +kernel
theorem dX3_findFault_38 : decode cX3_findFault 38 = .ok (.aload_n 0, 1) := by decide +kernel
theorem dX3_findFault_39 : decode cX3_findFault 39 = .ok (.bipush 59, 2) := by decide +kernel
theorem dX3_findFault_41 : decode cX3_findFault 41 = .ok (.invokevirtual 47, 3) := by decide +kernel
theorem dX3_findFault_44 : decode cX3_findFault 44 = .ok (.ifCond .ne 8, 3) := by decide +kernel
theorem dX3_findFault_47 : decode cX3_findFault 47 = .ok (.aload_n 0, 1) := by decide +kernel
theorem dX3_findFault_48 : decode cX3_findFault 48 = .ok (.getfield 34, 3) := by decide +kernel
theorem dX3_findFault_51 : decode cX3_findFault 51 = .ok (.ireturn, 1) := by decide +kernel
theorem dX3_findFault_52 : decode cX3_findFault 52 = .ok (.iinc 1 1, 3) := by decide +kernel
theorem dX3_findFault_55 : decode cX3_findFault 55 = .ok (.goto (-49), 3) := by decide +kernel
theorem dX3_findFault_58 : decode cX3_findFault 58 = .ok (.aload_n 0, 1) := by decide +kernel
theorem dX3_findFault_59 : decode cX3_findFault 59 = .ok (.getfield 34, 3) := by decide +kernel
theorem dX3_findFault_62 : decode cX3_findFault 62 = .ok (.ireturn, 1) := by decide +kernel
theorem dX3_readOrder_0 : decode cX3_readOrder 0 = .ok (.aload_n 0, 1) := by decide +kernel
theorem dX3_readOrder_1 : decode cX3_readOrder 1 = .ok (.iconst 0, 1) := by decide +kernel
theorem dX3_readOrder_2 : decode cX3_readOrder 2 = .ok (.putfield 37, 3) := by decide +kernel
theorem dX3_readOrder_5 : decode cX3_readOrder 5 = .ok (.aload_n 0, 1) := by decide +kernel
theorem dX3_readOrder_6 : decode cX3_readOrder 6 = .ok (.iconst 0, 1) := by decide +kernel
theorem dX3_readOrder_7 : decode cX3_readOrder 7 = .ok (.putfield 51, 3) := by decide +kernel
theorem dX3_readOrder_10 : decode cX3_readOrder 10 = .ok (.aload_n 0, 1) := by decide +kernel
theorem dX3_readOrder_11 : decode cX3_readOrder 11 = .ok (.bipush (-6), 2) := by decide +kernel
theorem dX3_readOrder_13 : decode cX3_readOrder 13 = .ok (.putfield 54, 3) := by decide +kernel
theorem dX3_readOrder_16 : decode cX3_readOrder 16 = .ok (.aload_n 0, 1) := by decide +kernel
theorem dX3_readOrder_17 : decode cX3_readOrder 17 = .ok (.aload_n 0, 1) := by decide +kernel
theorem dX3_readOrder_18 : decode cX3_readOrder 18 = .ok (.invokevirtual 57, 3) := by decide +kernel
theorem dX3_readOrder_21 : decode cX3_readOrder 21 = .ok (.putfield 61, 3) := by decide +kernel
theorem dX3_readOrder_24 : decode cX3_readOrder 24 = .ok (.ldc 64, 2) := by decide +kernel
theorem dX3_readOrder_26 : decode cX3_readOrder 26 = .ok (.aload_n 0, 1) := by decide +kernel
theorem dX3_readOrder_27 : decode cX3_readOrder 27 = .ok (.getfield 61, 3) := by decide +kernel
theorem dX3_readOrder_30 : decode cX3_readOrder 30 = .ok (.i2c, 1) := by decide +kernel
theorem dX3_readOrder_31 : decode cX3_readOrder 31 = .ok (.invokevirtual 66, 3) := by decide +kernel
theorem dX3_readOrder_34 : decode cX3_readOrder 34 = .ok (.ifCond .ge 5, 3) := by decide +kernel
theorem dX3_readOrder_37 : decode cX3_readOrder 37 = .ok (.iconst 0, 1) := by decide +kernel
theorem dX3_readOrder_38 : decode cX3_readOrder 38 = .ok (.ireturn, 1) := by decide +kernel
theorem dX3_readOrder_39 : decode cX3_readOrder 39 = .ok (.aload_n 0, 1) := by decide +kernel
theorem dX3_readOrder_40 : decode cX3_readOrder 40 = .ok (.dup, 1) := by decide +kernel
theorem dX3_readOrder_41 : decode cX3_readOrder 41 = .ok (.getfield 34, 3) := by decide +kernel
theorem dX3_readOrder_44 : decode cX3_readOrder 44 = .ok (.iconst 1, 1) := by decide +kernel
theorem dX3_readOrder_45 : decode cX3_readOrder 45 = .ok (.iadd, 1) := by decide +kernel
theorem dX3_readOrder_46 : decode cX3_readOrder 46 = .ok (.putfield 34, 3) := by decide +kernel
theorem dX3_readOrder_49 : decode cX3_readOrder 49 = .ok (.aload_n 0, 1) := by decide +kernel
theorem dX3_readOrder_50 : decode cX3_readOrder 50 = .ok (.aload_n 0, 1) := by decide +kernel
theorem dX3_readOrder_51 : decode cX3_readOrder 51 = .ok (.getfield 61, 3) := by decide +kernel
theorem dX3_readOrder_54 : decode cX3_readOrder 54 = .ok (.invokestatic 72, 3) := by decide +kernel
theorem dX3_readOrder_57 : decode cX3_readOrder 57 = .ok (.invokevirtual 76, 3) := by decide +kernel
theorem dX3_readOrder_60 : decode cX3_readOrder 60 = .ok (.ifCond .eq 23, 3) := by decide +kernel
theorem dX3_readOrder_63 : decode cX3_readOrder 63 = .ok (.aload_n 0, 1) := by decide +kernel
theorem dX3_readOrder_64 : decode cX3_readOrder 64 = .ok (.getfield 61, 3) := by decide +kernel
theorem dX3_readOrder_67 : decode cX3_readOrder 67 = .ok (.bipush 103, 2) := by decide +kernel
theorem dX3_readOrder_69 : decode cX3_readOrder 69 = .ok (.if_icmp .ne 10, 3) := by decide +kernel
theorem dX3_readOrder_72 : decode cX3_readOrder 72 = .ok (.aload_n 0, 1) := by decide +kernel
theorem dX3_readOrder_73 : decode cX3_readOrder 73 = .ok (.invokevirtual 80, 3) := by decide +kernel
theorem dX3_readOrder_76 : decode cX3_readOrder 76 = .ok (.ifCond .eq 7, 3) := by decide +kernel
theorem dX3_readOrder_79 : decode cX3_readOrder 79 = .ok (.iconst 1, 1) := by decide +kernel
theorem dX3_readOrder_80 : decode cX3_readOrder 80 = .ok (.goto 4, 3) := by decide +kernel
theorem dX3_readOrder_83 : decode cX3_readOrder 83 = .ok (.iconst 0, 1) := by decide +kernel
theorem dX3_readOrder_84 : decode cX3_readOrder 84 = .ok (.ireturn, 1) := by decide +kernel
theorem dX3_skip_0 : decode cX3_skip 0 = .ok (.aload_n 0, 1) := by decide +kernel
theorem dX3_skip_1 : decode cX3_skip 1 = .ok (.invokevirtual 57, 3) := by decide +kernel
theorem dX3_skip_4 : decode cX3_skip 4 = .ok (.iload_n 1, 1) := by decide +kernel
theorem dX3_skip_5 : decode cX3_skip 5 = .ok (.if_icmp .eq 5, 3) := by decide +kernel
theorem dX3_skip_8 : decode cX3_skip 8 = .ok (.iconst 0, 1) := by decide +kernel
theorem dX3_skip_9 : decode cX3_skip 9 = .ok (.ireturn, 1) := by decide +kernel
theorem dX3_skip_10 : decode cX3_skip 10 = .ok (.aload_n 0, 1) := by decide +kernel
theorem dX3_skip_11 : decode cX3_skip 11 = .ok (.dup, 1) := by decide +kernel
theorem dX3_skip_12 : decode cX3_skip 12 = .ok (.getfield 34, 3) := by decide +kernel
theorem dX3_skip_15 : decode cX3_skip 15 = .ok (.iconst 1, 1) := by decide +kernel
theorem dX3_skip_16 : decode cX3_skip 16 = .ok (.iadd, 1) := by decide +kernel
theorem dX3_skip_17 : decode cX3_skip 17 = .ok (.putfield 34, 3) := by decide +kernel
theorem dX3_skip_20 : decode cX3_skip 20 = .ok (.iconst 1, 1) := by decide +kernel
theorem dX3_skip_21 : decode cX3_skip 21 = .ok (.ireturn, 1) := by decide +kernel
theorem dX3_signHere_0 : decode cX3_signHere 0 = .ok (.aload_n 0, 1) := by decide +kernel
theorem dX3_signHere_1 : decode cX3_signHere 1 = .ok (.getfield 34, 3) := by decide +kernel
theorem dX3_signHere_4 : decode cX3_signHere 4 = .ok (.ifCond .lt 26, 3) := by decide +kernel
theorem dX3_signHere_7 : decode cX3_signHere 7 = .ok (.aload_n 0, 1) := by decide +kernel
theorem dX3_signHere_8 : decode cX3_signHere 8 = .ok (.getfield 34, 3) := by decide +kernel
theorem dX3_signHere_11 : decode cX3_signHere 11 = .ok (.aload_n 0, 1) := by decide +kernel
theorem dX3_signHere_12 : decode cX3_signHere 12 = .ok (.getfield 22, 3) := by decide +kernel
theorem dX3_signHere_15 : decode cX3_signHere 15 = .ok (.if_icmp .ge 15, 3) := by decide +kernel
theorem dX3_signHere_18 : decode cX3_signHere 18 = .ok (.aload_n 0, 1) := by decide +kernel
theorem dX3_signHere_19 : decode cX3_signHere 19 = .ok (.getfield 9, 3) := by decide +kernel
theorem dX3_signHere_22 : decode cX3_signHere 22 = .ok (.aload_n 0, 1) := by decide +kernel
theorem dX3_signHere_23 : decode cX3_signHere 23 = .ok (.getfield 34, 3) := by decide +kernel
theorem dX3_signHere_26 : decode cX3_signHere 26 = .ok (.iaload, 1) := by decide +kernel
theorem dX3_signHere_27 : decode cX3_signHere 27 = .ok (.goto 4, 3) := by decide +kernel
theorem dX3_signHere_30 : decode cX3_signHere 30 = .ok (.iconst 0, 1) := by decide +kernel
theorem dX3_signHere_31 : decode cX3_signHere 31 = .ok (.ireturn, 1) := by decide +kernel
theorem dX3_formOf_0 : decode cX3_formOf 0 = .ok (.iload_n 0, 1) := by decide +kernel
theorem dX3_formOf_1 : decode cX3_formOf 1 = .ok (.tableswitch 67 97 106 #[55, 67, 67, 58, 67, 67, 61, 67, 67, 64], 55) := by decide +kernel
theorem dX3_formOf_56 : decode cX3_formOf 56 = .ok (.ldc 83, 2) := by decide +kernel
theorem dX3_formOf_58 : decode cX3_formOf 58 = .ok (.areturn, 1) := by decide +kernel
theorem dX3_formOf_59 : decode cX3_formOf 59 = .ok (.ldc 85, 2) := by decide +kernel
theorem dX3_formOf_61 : decode cX3_formOf 61 = .ok (.areturn, 1) := by decide +kernel
theorem dX3_formOf_62 : decode cX3_formOf 62 = .ok (.ldc 87, 2) := by decide +kernel
theorem dX3_formOf_64 : decode cX3_formOf 64 = .ok (.areturn, 1) := by decide +kernel
theorem dX3_formOf_65 : decode cX3_formOf 65 = .ok (.ldc 89, 2) := by decide +kernel
theorem dX3_formOf_67 : decode cX3_formOf 67 = .ok (.areturn, 1) := by decide +kernel
theorem dX3_formOf_68 : decode cX3_formOf 68 = .ok (.ldc 91, 2) := by decide +kernel
theorem dX3_formOf_70 : decode cX3_formOf 70 = .ok (.areturn, 1) := by decide +kernel
theorem dX3_readForm_0 : decode cX3_readForm 0 = .ok (.iconst 1, 1) := by decide +kernel
theorem dX3_readForm_1 : decode cX3_readForm 1 = .ok (.istore_n 2, 1) := by decide +kernel
theorem dX3_readForm_2 : decode cX3_readForm 2 = .ok (.iconst 0, 1) := by decide +kernel
theorem dX3_readForm_3 : decode cX3_readForm 3 = .ok (.istore_n 3, 1) := by decide +kernel
theorem dX3_readForm_4 : decode cX3_readForm 4 = .ok (.iload_n 3, 1) := by decide +kernel
theorem dX3_readForm_5 : decode cX3_readForm 5 = .ok (.aload_n 1, 1) := by decide +kernel
theorem dX3_readForm_6 : decode cX3_readForm 6 = .ok (.invokevirtual 93, 3) := by decide +kernel
theorem dX3_readForm_9 : decode cX3_readForm 9 = .ok (.if_icmp .ge 74, 3) := by decide +kernel
theorem dX3_readForm_12 : decode cX3_readForm 12 = .ok (.iload_n 2, 1) := by decide +kernel
theorem dX3_readForm_13 : decode cX3_readForm 13 = .ok (.ifCond .eq 70, 3) := by decide +kernel
theorem dX3_readForm_16 : decode cX3_readForm 16 = .ok (.aload_n 1, 1) := by decide +kernel
theorem dX3_readForm_17 : decode cX3_readForm 17 = .ok (.iload_n 3, 1) := by decide +kernel
theorem dX3_readForm_18 : decode cX3_readForm 18 = .ok (.invokevirtual 95, 3) := by decide +kernel
theorem dX3_readForm_21 : decode cX3_readForm 21 = .ok (.istore 4, 2) := by decide +kernel
theorem dX3_readForm_23 : decode cX3_readForm 23 = .ok (.iload 4, 2) := by decide +kernel
theorem dX3_readForm_25 : decode cX3_readForm 25 = .ok (.lookupswitch 45 #[(68, 36), (78, 27)], 27) := by decide +kernel
theorem dX3_readForm_52 : decode cX3_readForm 52 = .ok (.aload_n 0, 1) := by decide +kernel
theorem dX3_readForm_53 : decode cX3_readForm 53 = .ok (.iconst 3, 1) := by decide +kernel
theorem dX3_readForm_54 : decode cX3_readForm 54 = .ok (.invokevirtual 99, 3) := by decide +kernel
theorem dX3_readForm_57 : decode cX3_readForm 57 = .ok (.istore_n 2, 1) := by decide +kernel
theorem dX3_readForm_58 : decode cX3_readForm 58 = .ok (.goto 19, 3) := by decide +kernel
theorem dX3_readForm_61 : decode cX3_readForm 61 = .ok (.aload_n 0, 1) := by decide +kernel
theorem dX3_readForm_62 : decode cX3_readForm 62 = .ok (.iconst 1, 1) := by decide +kernel
theorem dX3_readForm_63 : decode cX3_readForm 63 = .ok (.invokevirtual 99, 3) := by decide +kernel
theorem dX3_readForm_66 : decode cX3_readForm 66 = .ok (.istore_n 2, 1) := by decide +kernel
theorem dX3_readForm_67 : decode cX3_readForm 67 = .ok (.goto 10, 3) := by decide +kernel
theorem dX3_readForm_70 : decode cX3_readForm 70 = .ok (.aload_n 0, 1) := by decide +kernel
theorem dX3_readForm_71 : decode cX3_readForm 71 = .ok (.iload 4, 2) := by decide +kernel
theorem dX3_readForm_73 : decode cX3_readForm 73 = .ok (.invokevirtual 47, 3) := by decide +kernel
theorem dX3_readForm_76 : decode cX3_readForm 76 = .ok (.istore_n 2, 1) := by decide +kernel
theorem dX3_readForm_77 : decode cX3_readForm 77 = .ok (.iinc 3 1, 3) := by decide +kernel
theorem dX3_readForm_80 : decode cX3_readForm 80 = .ok (.goto (-76), 3) := by decide +kernel
theorem dX3_readForm_83 : decode cX3_readForm 83 = .ok (.iload_n 2, 1) := by decide +kernel
theorem dX3_readForm_84 : decode cX3_readForm 84 = .ok (.ireturn, 1) := by decide +kernel
theorem dX3_readNumber_0 : decode cX3_readNumber 0 = .ok (.aload_n 0, 1) := by decide +kernel
theorem dX3_readNumber_1 : decode cX3_readNumber 1 = .ok (.invokevirtual 102, 3) := by decide +kernel
theorem dX3_readNumber_4 : decode cX3_readNumber 4 = .ok (.ifCond .ne 5, 3) := by decide +kernel
theorem dX3_readNumber_7 : decode cX3_readNumber 7 = .ok (.iconst 0, 1) := by decide +kernel
theorem dX3_readNumber_8 : decode cX3_readNumber 8 = .ok (.ireturn, 1) := by decide +kernel
theorem dX3_readNumber_9 : decode cX3_readNumber 9 = .ok (.aload_n 0, 1) := by decide +kernel
theorem dX3_readNumber_10 : decode cX3_readNumber 10 = .ok (.invokevirtual 105, 3) := by decide +kernel
theorem dX3_readNumber_13 : decode cX3_readNumber 13 = .ok (.istore_n 2, 1) := by decide +kernel
theorem dX3_readNumber_14 : decode cX3_readNumber 14 = .ok (.iconst 1, 1) := by decide +kernel
theorem dX3_readNumber_15 : decode cX3_readNumber 15 = .ok (.istore_n 3, 1) := by decide +kernel
theorem dX3_readNumber_16 : decode cX3_readNumber 16 = .ok (.iload_n 3, 1) := by decide +kernel
theorem dX3_readNumber_17 : decode cX3_readNumber 17 = .ok (.iload_n 1, 1) := by decide +kernel
theorem dX3_readNumber_18 : decode cX3_readNumber 18 = .ok (.if_icmp .ge 30, 3) := by decide +kernel
theorem dX3_readNumber_21 : decode cX3_readNumber 21 = .ok (.iload_n 2, 1) := by decide +kernel
theorem dX3_readNumber_22 : decode cX3_readNumber 22 = .ok (.ifCond .le 26, 3) := by decide +kernel
theorem dX3_readNumber_25 : decode cX3_readNumber 25 = .ok (.aload_n 0, 1) := by decide +kernel
theorem dX3_readNumber_26 : decode cX3_readNumber 26 = .ok (.invokevirtual 102, 3) := by decide +kernel
theorem dX3_readNumber_29 : decode cX3_readNumber 29 = .ok (.ifCond .eq 19, 3) := by decide +kernel
theorem dX3_readNumber_32 : decode cX3_readNumber 32 = .ok (.bipush 10, 2) := by decide +kernel
theorem dX3_readNumber_34 : decode cX3_readNumber 34 = .ok (.iload_n 2, 1) := by decide +kernel
theorem dX3_readNumber_35 : decode cX3_readNumber 35 = .ok (.imul, 1) := by decide +kernel
theorem dX3_readNumber_36 : decode cX3_readNumber 36 = .ok (.aload_n 0, 1) := by decide +kernel
theorem dX3_readNumber_37 : decode cX3_readNumber 37 = .ok (.invokevirtual 105, 3) := by decide +kernel
theorem dX3_readNumber_40 : decode cX3_readNumber 40 = .ok (.iadd, 1) := by decide +kernel
theorem dX3_readNumber_41 : decode cX3_readNumber 41 = .ok (.istore_n 2, 1) := by decide +kernel
theorem dX3_readNumber_42 : decode cX3_readNumber 42 = .ok (.iinc 3 1, 3) := by decide +kernel
theorem dX3_readNumber_45 : decode cX3_readNumber 45 = .ok (.goto (-29), 3) := by decide +kernel
theorem dX3_readNumber_48 : decode cX3_readNumber 48 = .ok (.aload_n 0, 1) := by decide +kernel
theorem dX3_readNumber_49 : decode cX3_readNumber 49 = .ok (.getfield 37, 3) := by decide +kernel
theorem dX3_readNumber_52 : decode cX3_readNumber 52 = .ok (.iconst 5, 1) := by decide +kernel
theorem dX3_readNumber_53 : decode cX3_readNumber 53 = .ok (.if_icmp .ge 23, 3) := by decide +kernel
theorem dX3_readNumber_56 : decode cX3_readNumber 56 = .ok (.aload_n 0, 1) := by decide +kernel
theorem dX3_readNumber_57 : decode cX3_readNumber 57 = .ok (.getfield 15, 3) := by decide +kernel
theorem dX3_readNumber_60 : decode cX3_readNumber 60 = .ok (.aload_n 0, 1) := by decide +kernel
theorem dX3_readNumber_61 : decode cX3_readNumber 61 = .ok (.getfield 37, 3) := by decide +kernel
theorem dX3_readNumber_64 : decode cX3_readNumber 64 = .ok (.iload_n 2, 1) := by decide +kernel
theorem dX3_readNumber_65 : decode cX3_readNumber 65 = .ok (.iastore, 1) := by decide +kernel
theorem dX3_readNumber_66 : decode cX3_readNumber 66 = .ok (.aload_n 0, 1) := by decide +kernel
theorem dX3_readNumber_67 : decode cX3_readNumber 67 = .ok (.dup, 1) := by decide +kernel
theorem dX3_readNumber_68 : decode cX3_readNumber 68 = .ok (.getfield 37, 3) := by decide +kernel
theorem dX3_readNumber_71 : decode cX3_readNumber 71 = .ok (.iconst 1, 1) := by decide +kernel
theorem dX3_readNumber_72 : decode cX3_readNumber 72 = .ok (.iadd, 1) := by decide +kernel
theorem dX3_readNumber_73 : decode cX3_readNumber 73 = .ok (.putfield 37, 3) := by decide +kernel
theorem dX3_readNumber_76 : decode cX3_readNumber 76 = .ok (.iconst 1, 1) := by decide +kernel
theorem dX3_readNumber_77 : decode cX3_readNumber 77 = .ok (.ireturn, 1) := by decide +kernel
theorem dX3_readCrew_0 : decode cX3_readCrew 0 = .ok (.aload_n 0, 1) := by decide +kernel
theorem dX3_readCrew_1 : decode cX3_readCrew 1 = .ok (.invokevirtual 102, 3) := by decide +kernel
theorem dX3_readCrew_4 : decode cX3_readCrew 4 = .ok (.ifCond .ne 5, 3) := by decide +kernel
theorem dX3_readCrew_7 : decode cX3_readCrew 7 = .ok (.iconst 0, 1) := by decide +kernel
theorem dX3_readCrew_8 : decode cX3_readCrew 8 = .ok (.ireturn, 1) := by decide +kernel
theorem dX3_readCrew_9 : decode cX3_readCrew 9 = .ok (.iconst 0, 1) := by decide +kernel
theorem dX3_readCrew_10 : decode cX3_readCrew 10 = .ok (.istore_n 1, 1) := by decide +kernel
theorem dX3_readCrew_11 : decode cX3_readCrew 11 = .ok (.iload_n 1, 1) := by decide +kernel
theorem dX3_readCrew_12 : decode cX3_readCrew 12 = .ok (.bipush 80, 2) := by decide +kernel
theorem dX3_readCrew_14 : decode cX3_readCrew 14 = .ok (.if_icmp .ge 31, 3) := by decide +kernel
theorem dX3_readCrew_17 : decode cX3_readCrew 17 = .ok (.aload_n 0, 1) := by decide +kernel
theorem dX3_readCrew_18 : decode cX3_readCrew 18 = .ok (.invokevirtual 102, 3) := by decide +kernel
theorem dX3_readCrew_21 : decode cX3_readCrew 21 = .ok (.ifCond .eq 24, 3) := by decide +kernel
theorem dX3_readCrew_24 : decode cX3_readCrew 24 = .ok (.aload_n 0, 1) := by decide +kernel
theorem dX3_readCrew_25 : decode cX3_readCrew 25 = .ok (.dup, 1) := by decide +kernel
theorem dX3_readCrew_26 : decode cX3_readCrew 26 = .ok (.getfield 51, 3) := by decide +kernel
theorem dX3_readCrew_29 : decode cX3_readCrew 29 = .ok (.iconst 1, 1) := by decide +kernel
theorem dX3_readCrew_30 : decode cX3_readCrew 30 = .ok (.aload_n 0, 1) := by decide +kernel
theorem dX3_readCrew_31 : decode cX3_readCrew 31 = .ok (.invokevirtual 105, 3) := by decide +kernel
theorem dX3_readCrew_34 : decode cX3_readCrew 34 = .ok (.ishl, 1) := by decide +kernel
theorem dX3_readCrew_35 : decode cX3_readCrew 35 = .ok (.ior, 1) := by decide +kernel
theorem dX3_readCrew_36 : decode cX3_readCrew 36 = .ok (.putfield 51, 3) := by decide +kernel
theorem dX3_readCrew_39 : decode cX3_readCrew 39 = .ok (.iinc 1 1, 3) := by decide +kernel
theorem dX3_readCrew_42 : decode cX3_readCrew 42 = .ok (.goto (-31), 3) := by decide +kernel
theorem dX3_readCrew_45 : decode cX3_readCrew 45 = .ok (.aload_n 0, 1) := by decide +kernel
theorem dX3_readCrew_46 : decode cX3_readCrew 46 = .ok (.bipush 43, 2) := by decide +kernel
theorem dX3_readCrew_48 : decode cX3_readCrew 48 = .ok (.invokevirtual 47, 3) := by decide +kernel
theorem dX3_readCrew_51 : decode cX3_readCrew 51 = .ok (.ifCond .ne 5, 3) := by decide +kernel
theorem dX3_readCrew_54 : decode cX3_readCrew 54 = .ok (.iconst 1, 1) := by decide +kernel
theorem dX3_readCrew_55 : decode cX3_readCrew 55 = .ok (.ireturn, 1) := by decide +kernel
theorem dX3_readCrew_56 : decode cX3_readCrew 56 = .ok (.aload_n 0, 1) := by decide +kernel
theorem dX3_readCrew_57 : decode cX3_readCrew 57 = .ok (.invokevirtual 102, 3) := by decide +kernel
theorem dX3_readCrew_60 : decode cX3_readCrew 60 = .ok (.ifCond .ne 5, 3) := by decide +kernel
theorem dX3_readCrew_63 : decode cX3_readCrew 63 = .ok (.iconst 0, 1) := by decide +kernel
theorem dX3_readCrew_64 : decode cX3_readCrew 64 = .ok (.ireturn, 1) := by decide +kernel
theorem dX3_readCrew_65 : decode cX3_readCrew 65 = .ok (.aload_n 0, 1) := by decide +kernel
theorem dX3_readCrew_66 : decode cX3_readCrew 66 = .ok (.aload_n 0, 1) := by decide +kernel
theorem dX3_readCrew_67 : decode cX3_readCrew 67 = .ok (.invokevirtual 105, 3) := by decide +kernel
theorem dX3_readCrew_70 : decode cX3_readCrew 70 = .ok (.putfield 54, 3) := by decide +kernel
theorem dX3_readCrew_73 : decode cX3_readCrew 73 = .ok (.iconst 1, 1) := by decide +kernel
theorem dX3_readCrew_74 : decode cX3_readCrew 74 = .ok (.ireturn, 1) := by decide +kernel
theorem dX3_isDigitHere_0 : decode cX3_isDigitHere 0 = .ok (.aload_n 0, 1) := by decide +kernel
theorem dX3_isDigitHere_1 : decode cX3_isDigitHere 1 = .ok (.invokevirtual 57, 3) := by decide +kernel
theorem dX3_isDigitHere_4 : decode cX3_isDigitHere 4 = .ok (.bipush 48, 2) := by decide +kernel
theorem dX3_isDigitHere_6 : decode cX3_isDigitHere 6 = .ok (.bipush 57, 2) := by decide +kernel
theorem dX3_isDigitHere_8 : decode cX3_isDigitHere 8 = .ok (.invokestatic 30, 3) := by decide +kernel
theorem dX3_isDigitHere_11 : decode cX3_isDigitHere 11 = .ok (.ireturn, 1) := by decide +kernel
theorem dX3_takeDigit_0 : decode cX3_takeDigit 0 = .ok (.aload_n 0, 1) := by decide +kernel
theorem dX3_takeDigit_1 : decode cX3_takeDigit 1 = .ok (.invokevirtual 57, 3) := by decide +kernel
theorem dX3_takeDigit_4 : decode cX3_takeDigit 4 = .ok (.bipush 48, 2) := by decide +kernel
theorem dX3_takeDigit_6 : decode cX3_takeDigit 6 = .ok (.isub, 1) := by decide +kernel
theorem dX3_takeDigit_7 : decode cX3_takeDigit 7 = .ok (.istore_n 1, 1) := by decide +kernel
theorem dX3_takeDigit_8 : decode cX3_takeDigit 8 = .ok (.aload_n 0, 1) := by decide +kernel
theorem dX3_takeDigit_9 : decode cX3_takeDigit 9 = .ok (.dup, 1) := by decide +kernel
theorem dX3_takeDigit_10 : decode cX3_takeDigit 10 = .ok (.getfield 34, 3) := by decide +kernel
theorem dX3_takeDigit_13 : decode cX3_takeDigit 13 = .ok (.iconst 1, 1) := by decide +kernel
theorem dX3_takeDigit_14 : decode cX3_takeDigit 14 = .ok (.iadd, 1) := by decide +kernel
theorem dX3_takeDigit_15 : decode cX3_takeDigit 15 = .ok (.putfield 34, 3) := by decide +kernel
theorem dX3_takeDigit_18 : decode cX3_takeDigit 18 = .ok (.iload_n 1, 1) := by decide +kernel
theorem dX3_takeDigit_19 : decode cX3_takeDigit 19 = .ok (.ireturn, 1) := by decide +kernel
theorem dX4_init_0 : decode cX4_init 0 = .ok (.aload_n 0, 1) := by decide +kernel
theorem dX4_init_1 : decode cX4_init 1 = .ok (.invokespecial 3, 3) := by decide +kernel
theorem dX4_init_4 : decode cX4_init 4 = .ok (.return_, 1) := by decide +kernel
theorem dX4_come_0 : decode cX4_come 0 = .ok (.aload_n 0, 1) := by decide +kernel
theorem dX4_come_1 : decode cX4_come 1 = .ok (.iload_n 1, 1) := by decide +kernel
theorem dX4_come_2 : decode cX4_come 2 = .ok (.putfield 9, 3) := by decide +kernel
theorem dX4_come_5 : decode cX4_come 5 = .ok (.aload_n 0, 1) := by decide +kernel
theorem dX4_come_6 : decode cX4_come 6 = .ok (.iload_n 1, 1) := by decide +kernel
theorem dX4_come_7 : decode cX4_come 7 = .ok (.putfield 15, 3) := by decide +kernel
theorem dX4_come_10 : decode cX4_come 10 = .ok (.aload_n 0, 1) := by decide +kernel
theorem dX4_come_11 : decode cX4_come 11 = .ok (.bipush (-6), 2) := by decide +kernel
theorem dX4_come_13 : decode cX4_come 13 = .ok (.putfield 18, 3) := by decide +kernel
theorem dX4_come_16 : decode cX4_come 16 = .ok (.aload_n 0, 1) := by decide +kernel
theorem dX4_come_17 : decode cX4_come 17 = .ok (.iconst 0, 1) := by decide +kernel
theorem dX4_come_18 : decode cX4_come 18 = .ok (.putfield 21, 3) := by decide +kernel
theorem dX4_come_21 : decode cX4_come 21 = .ok (.aload_n 0, 1) := by decide +kernel
theorem dX4_come_22 : decode cX4_come 22 = .ok (.iconst 0, 1) := by decide +kernel
theorem dX4_come_23 : decode cX4_come 23 = .ok (.putfield 24, 3) := by decide +kernel
theorem dX4_come_26 : decode cX4_come 26 = .ok (.return_, 1) := by decide +kernel
theorem dX4_copyFrom_0 : decode cX4_copyFrom 0 = .ok (.aload_n 0, 1) := by decide +kernel
theorem dX4_copyFrom_1 : decode cX4_copyFrom 1 = .ok (.aload_n 1, 1) := by decide +kernel
theorem dX4_copyFrom_2 : decode cX4_copyFrom 2 = .ok (.getfield 9, 3) := by decide +kernel
theorem dX4_copyFrom_5 : decode cX4_copyFrom 5 = .ok (.putfield 9, 3) := by decide +kernel
theorem dX4_copyFrom_8 : decode cX4_copyFrom 8 = .ok (.aload_n 0, 1) := by decide +kernel
theorem dX4_copyFrom_9 : decode cX4_copyFrom 9 = .ok (.aload_n 1, 1) := by decide +kernel
theorem dX4_copyFrom_10 : decode cX4_copyFrom 10 = .ok (.getfield 15, 3) := by decide +kernel
theorem dX4_copyFrom_13 : decode cX4_copyFrom 13 = .ok (.putfield 15, 3) := by decide +kernel
theorem dX4_copyFrom_16 : decode cX4_copyFrom 16 = .ok (.aload_n 0, 1) := by decide +kernel
theorem dX4_copyFrom_17 : decode cX4_copyFrom 17 = .ok (.aload_n 1, 1) := by decide +kernel
theorem dX4_copyFrom_18 : decode cX4_copyFrom 18 = .ok (.getfield 18, 3) := by decide +kernel
theorem dX4_copyFrom_21 : decode cX4_copyFrom 21 = .ok (.putfield 18, 3) := by decide +kernel
theorem dX4_copyFrom_24 : decode cX4_copyFrom 24 = .ok (.aload_n 0, 1) := by decide +kernel
theorem dX4_copyFrom_25 : decode cX4_copyFrom 25 = .ok (.aload_n 1, 1) := by decide +kernel
theorem dX4_copyFrom_26 : decode cX4_copyFrom 26 = .ok (.getfield 21, 3) := by decide +kernel
theorem dX4_copyFrom_29 : decode cX4_copyFrom 29 = .ok (.putfield 21, 3) := by decide +kernel
theorem dX4_copyFrom_32 : decode cX4_copyFrom 32 = .ok (.aload_n 0, 1) := by decide +kernel
theorem dX4_copyFrom_33 : decode cX4_copyFrom 33 = .ok (.aload_n 1, 1) := by decide +kernel
theorem dX4_copyFrom_34 : decode cX4_copyFrom 34 = .ok (.getfield 24, 3) := by decide +kernel
theorem dX4_copyFrom_37 : decode cX4_copyFrom 37 = .ok (.putfield 24, 3) := by decide +kernel
theorem dX4_copyFrom_40 : decode cX4_copyFrom 40 = .ok (.return_, 1) := by decide +kernel
theorem dX4_rest_0 : decode cX4_rest 0 = .ok (.aload_n 0, 1) := by decide +kernel
theorem dX4_rest_1 : decode cX4_rest 1 = .ok (.aload_n 0, 1) := by decide +kernel
theorem dX4_rest_2 : decode cX4_rest 2 = .ok (.getfield 9, 3) := by decide +kernel
theorem dX4_rest_5 : decode cX4_rest 5 = .ok (.aload_n 0, 1) := by decide +kernel
theorem dX4_rest_6 : decode cX4_rest 6 = .ok (.getfield 15, 3) := by decide +kernel
theorem dX4_rest_9 : decode cX4_rest 9 = .ok (.iload_n 1, 1) := by decide +kernel
theorem dX4_rest_10 : decode cX4_rest 10 = .ok (.iadd, 1) := by decide +kernel
theorem dX4_rest_11 : decode cX4_rest 11 = .ok (.invokestatic 27, 3) := by decide +kernel
theorem dX4_rest_14 : decode cX4_rest 14 = .ok (.putfield 15, 3) := by decide +kernel
theorem dX4_rest_17 : decode cX4_rest 17 = .ok (.return_, 1) := by decide +kernel
theorem dX4_carry_0 : decode cX4_carry 0 = .ok (.aload_n 0, 1) := by decide +kernel
theorem dX4_carry_1 : decode cX4_carry 1 = .ok (.iconst 0, 1) := by decide +kernel
theorem dX4_carry_2 : decode cX4_carry 2 = .ok (.aload_n 0, 1) := by decide +kernel
theorem dX4_carry_3 : decode cX4_carry 3 = .ok (.getfield 15, 3) := by decide +kernel
theorem dX4_carry_6 : decode cX4_carry 6 = .ok (.iload_n 1, 1) := by decide +kernel
theorem dX4_carry_7 : decode cX4_carry 7 = .ok (.isub, 1) := by decide +kernel
theorem dX4_carry_8 : decode cX4_carry 8 = .ok (.invokestatic 33, 3) := by decide +kernel
theorem dX4_carry_11 : decode cX4_carry 11 = .ok (.putfield 15, 3) := by decide +kernel
theorem dX4_carry_14 : decode cX4_carry 14 = .ok (.aload_n 0, 1) := by decide +kernel
theorem dX4_carry_15 : decode cX4_carry 15 = .ok (.dup, 1) := by decide +kernel
theorem dX4_carry_16 : decode cX4_carry 16 = .ok (.getfield 21, 3) := by decide +kernel
theorem dX4_carry_19 : decode cX4_carry 19 = .ok (.iconst 1, 1) := by decide +kernel
theorem dX4_carry_20 : decode cX4_carry 20 = .ok (.iadd, 1) := by decide +kernel
theorem dX4_carry_21 : decode cX4_carry 21 = .ok (.putfield 21, 3) := by decide +kernel
theorem dX4_carry_24 : decode cX4_carry 24 = .ok (.return_, 1) := by decide +kernel
theorem dX4_tell_0 : decode cX4_tell 0 = .ok (.iload_n 1, 1) := by decide +kernel
theorem dX4_tell_1 : decode cX4_tell 1 = .ok (.tableswitch 70 0 5 #[39, 44, 49, 54, 59, 64], 39) := by decide +kernel
theorem dX4_tell_40 : decode cX4_tell 40 = .ok (.aload_n 0, 1) := by decide +kernel
theorem dX4_tell_41 : decode cX4_tell 41 = .ok (.getfield 9, 3) := by decide +kernel
theorem dX4_tell_44 : decode cX4_tell 44 = .ok (.ireturn, 1) := by decide +kernel
theorem dX4_tell_45 : decode cX4_tell 45 = .ok (.aload_n 0, 1) := by decide +kernel
theorem dX4_tell_46 : decode cX4_tell 46 = .ok (.getfield 15, 3) := by decide +kernel
theorem dX4_tell_49 : decode cX4_tell 49 = .ok (.ireturn, 1) := by decide +kernel
theorem dX4_tell_50 : decode cX4_tell 50 = .ok (.aload_n 0, 1) := by decide +kernel
theorem dX4_tell_51 : decode cX4_tell 51 = .ok (.getfield 18, 3) := by decide +kernel
theorem dX4_tell_54 : decode cX4_tell 54 = .ok (.ireturn, 1) := by decide +kernel
theorem dX4_tell_55 : decode cX4_tell 55 = .ok (.aload_n 0, 1) := by decide +kernel
theorem dX4_tell_56 : decode cX4_tell 56 = .ok (.getfield 21, 3) := by decide +kernel
theorem dX4_tell_59 : decode cX4_tell 59 = .ok (.ireturn, 1) := by decide +kernel
theorem dX4_tell_60 : decode cX4_tell 60 = .ok (.aload_n 0, 1) := by decide +kernel
theorem dX4_tell_61 : decode cX4_tell 61 = .ok (.getfield 24, 3) := by decide +kernel
theorem dX4_tell_64 : decode cX4_tell 64 = .ok (.ireturn, 1) := by decide +kernel
theorem dX4_tell_65 : decode cX4_tell 65 = .ok (.aload_n 0, 1) := by decide +kernel
theorem dX4_tell_66 : decode cX4_tell 66 = .ok (.iload_n 2, 1) := by decide +kernel
theorem dX4_tell_67 : decode cX4_tell 67 = .ok (.invokevirtual 36, 3) := by decide +kernel
theorem dX4_tell_70 : decode cX4_tell 70 = .ok (.ireturn, 1) := by decide +kernel
theorem dX4_tell_71 : decode cX4_tell 71 = .ok (.bipush (-2), 2) := by decide +kernel
theorem dX4_tell_73 : decode cX4_tell 73 = .ok (.ireturn, 1) := by decide +kernel
theorem dX4_hoursOfRest_0 : decode cX4_hoursOfRest 0 = .ok (.iconst 1, 1) := by decide +kernel
theorem dX4_hoursOfRest_1 : decode cX4_hoursOfRest 1 = .ok (.iload_n 1, 1) := by decide +kernel
theorem dX4_hoursOfRest_2 : decode cX4_hoursOfRest 2 = .ok (.invokestatic 33, 3) := by decide +kernel
theorem dX4_hoursOfRest_5 : decode cX4_hoursOfRest 5 = .ok (.istore_n 2, 1) := by decide +kernel
theorem dX4_hoursOfRest_6 : decode cX4_hoursOfRest 6 = .ok (.aload_n 0, 1) := by decide +kernel
theorem dX4_hoursOfRest_7 : decode cX4_hoursOfRest 7 = .ok (.getfield 9, 3) := by decide +kernel
theorem dX4_hoursOfRest_10 : decode cX4_hoursOfRest 10 = .ok (.aload_n 0, 1) := by decide +kernel
theorem dX4_hoursOfRest_11 : decode cX4_hoursOfRest 11 = .ok (.getfield 15, 3) := by decide +kernel
theorem dX4_hoursOfRest_14 : decode cX4_hoursOfRest 14 = .ok (.isub, 1) := by decide +kernel
theorem dX4_hoursOfRest_15 : decode cX4_hoursOfRest 15 = .ok (.iload_n 2, 1) := by decide +kernel
theorem dX4_hoursOfRest_16 : decode cX4_hoursOfRest 16 = .ok (.iadd, 1) := by decide +kernel
theorem dX4_hoursOfRest_17 : decode cX4_hoursOfRest 17 = .ok (.iconst 1, 1) := by decide +kernel
theorem dX4_hoursOfRest_18 : decode cX4_hoursOfRest 18 = .ok (.isub, 1) := by decide +kernel
theorem dX4_hoursOfRest_19 : decode cX4_hoursOfRest 19 = .ok (.iload_n 2, 1) := by decide +kernel
theorem dX4_hoursOfRest_20 : decode cX4_hoursOfRest 20 = .ok (.idiv, 1) := by decide +kernel
theorem dX4_hoursOfRest_21 : decode cX4_hoursOfRest 21 = .ok (.ireturn, 1) := by decide +kernel
theorem dX5_init_0 : decode cX5_init 0 = .ok (.aload_n 0, 1) := by decide +kernel
theorem dX5_init_1 : decode cX5_init 1 = .ok (.invokespecial 1, 3) := by decide +kernel
theorem dX5_init_4 : decode cX5_init 4 = .ok (.aload_n 0, 1) := by decide +kernel
theorem dX5_init_5 : decode cX5_init 5 = .ok (.new 7, 3) := by decide +kernel
theorem dX5_init_8 : decode cX5_init 8 = .ok (.dup, 1) := by decide +kernel
theorem dX5_init_9 : decode cX5_init 9 = .ok (.invokespecial 9, 3) := by decide +kernel
theorem dX5_init_12 : decode cX5_init 12 = .ok (.putfield 10, 3) := by decide +kernel
theorem dX5_init_15 : decode cX5_init 15 = .ok (.aload_n 0, 1) := by decide +kernel
theorem dX5_init_16 : decode cX5_init 16 = .ok (.new 7, 3) := by decide +kernel
theorem dX5_init_19 : decode cX5_init 19 = .ok (.dup, 1) := by decide +kernel
theorem dX5_init_20 : decode cX5_init 20 = .ok (.invokespecial 9, 3) := by decide +kernel
theorem dX5_init_23 : decode cX5_init 23 = .ok (.putfield 16, 3) := by decide +kernel
theorem dX5_init_26 : decode cX5_init 26 = .ok (.aload_n 0, 1) := by decide +kernel
theorem dX5_init_27 : decode cX5_init 27 = .ok (.iconst 2, 1) := by decide +kernel
theorem dX5_init_28 : decode cX5_init 28 = .ok (.anewarray 7, 3) := by decide +kernel
theorem dX5_init_31 : decode cX5_init 31 = .ok (.putfield 19, 3) := by decide +kernel
theorem dX5_init_34 : decode cX5_init 34 = .ok (.aload_n 0, 1) := by decide +kernel
theorem dX5_init_35 : decode cX5_init 35 = .ok (.iconst 2, 1) := by decide +kernel
theorem dX5_init_36 : decode cX5_init 36 = .ok (.newarray .boolean, 2) := by decide +kernel
theorem dX5_init_38 : decode cX5_init 38 = .ok (.putfield 23, 3) := by decide +kernel
theorem dX5_init_41 : decode cX5_init 41 = .ok (.aload_n 0, 1) := by decide +kernel
theorem dX5_init_42 : decode cX5_init 42 = .ok (.new 27, 3) := by decide +kernel
theorem dX5_init_45 : decode cX5_init 45 = .ok (.dup, 1) := by decide +kernel
theorem dX5_init_46 : decode cX5_init 46 = .ok (.invokespecial 29, 3) := by decide +kernel
theorem dX5_init_49 : decode cX5_init 49 = .ok (.putfield 30, 3) := by decide +kernel
theorem dX5_init_52 : decode cX5_init 52 = .ok (.aload_n 0, 1) := by decide +kernel
theorem dX5_init_53 : decode cX5_init 53 = .ok (.new 34, 3) := by decide +kernel
theorem dX5_init_56 : decode cX5_init 56 = .ok (.dup, 1) := by decide +kernel
theorem dX5_init_57 : decode cX5_init 57 = .ok (.invokespecial 36, 3) := by decide +kernel
theorem dX5_init_60 : decode cX5_init 60 = .ok (.putfield 37, 3) := by decide +kernel
theorem dX5_init_63 : decode cX5_init 63 = .ok (.iconst 0, 1) := by decide +kernel
theorem dX5_init_64 : decode cX5_init 64 = .ok (.istore_n 1, 1) := by decide +kernel
theorem dX5_init_65 : decode cX5_init 65 = .ok (.iload_n 1, 1) := by decide +kernel
theorem dX5_init_66 : decode cX5_init 66 = .ok (.iconst 2, 1) := by decide +kernel
theorem dX5_init_67 : decode cX5_init 67 = .ok (.if_icmp .ge 22, 3) := by decide +kernel
theorem dX5_init_70 : decode cX5_init 70 = .ok (.aload_n 0, 1) := by decide +kernel
theorem dX5_init_71 : decode cX5_init 71 = .ok (.getfield 19, 3) := by decide +kernel
theorem dX5_init_74 : decode cX5_init 74 = .ok (.iload_n 1, 1) := by decide +kernel
theorem dX5_init_75 : decode cX5_init 75 = .ok (.new 7, 3) := by decide +kernel
theorem dX5_init_78 : decode cX5_init 78 = .ok (.dup, 1) := by decide +kernel
theorem dX5_init_79 : decode cX5_init 79 = .ok (.invokespecial 9, 3) := by decide +kernel
theorem dX5_init_82 : decode cX5_init 82 = .ok (.aastore, 1) := by decide +kernel
theorem dX5_init_83 : decode cX5_init 83 = .ok (.iinc 1 1, 3) := by decide +kernel
theorem dX5_init_86 : decode cX5_init 86 = .ok (.goto (-21), 3) := by decide +kernel
theorem dX5_init_89 : decode cX5_init 89 = .ok (.return_, 1) := by decide +kernel
theorem dX5_set_0 : decode cX5_set 0 = .ok (.aload_n 0, 1) := by decide +kernel
theorem dX5_set_1 : decode cX5_set 1 = .ok (.getfield 30, 3) := by decide +kernel
theorem dX5_set_4 : decode cX5_set 4 = .ok (.aload_n 0, 1) := by decide +kernel
theorem dX5_set_5 : decode cX5_set 5 = .ok (.getfield 10, 3) := by decide +kernel
theorem dX5_set_8 : decode cX5_set 8 = .ok (.invokevirtual 41, 3) := by decide +kernel
theorem dX5_set_11 : decode cX5_set 11 = .ok (.aload_n 0, 1) := by decide +kernel
theorem dX5_set_12 : decode cX5_set 12 = .ok (.getfield 30, 3) := by decide +kernel
theorem dX5_set_15 : decode cX5_set 15 = .ok (.aload_n 0, 1) := by decide +kernel
theorem dX5_set_16 : decode cX5_set 16 = .ok (.getfield 10, 3) := by decide +kernel
theorem dX5_set_19 : decode cX5_set 19 = .ok (.iload_n 1, 1) := by decide +kernel
theorem dX5_set_20 : decode cX5_set 20 = .ok (.iload_n 2, 1) := by decide +kernel
theorem dX5_set_21 : decode cX5_set 21 = .ok (.invokevirtual 45, 3) := by decide +kernel
theorem dX5_set_24 : decode cX5_set 24 = .ok (.invokevirtual 49, 3) := by decide +kernel
theorem dX5_set_27 : decode cX5_set 27 = .ok (.ireturn, 1) := by decide +kernel
theorem dX5_person_0 : decode cX5_person 0 = .ok (.aload_n 0, 1) := by decide +kernel
theorem dX5_person_1 : decode cX5_person 1 = .ok (.getfield 30, 3) := by decide +kernel
theorem dX5_person_4 : decode cX5_person 4 = .ok (.aload_n 0, 1) := by decide +kernel
theorem dX5_person_5 : decode cX5_person 5 = .ok (.getfield 10, 3) := by decide +kernel
theorem dX5_person_8 : decode cX5_person 8 = .ok (.invokevirtual 41, 3) := by decide +kernel
theorem dX5_person_11 : decode cX5_person 11 = .ok (.aload_n 0, 1) := by decide +kernel
theorem dX5_person_12 : decode cX5_person 12 = .ok (.getfield 30, 3) := by decide +kernel
theorem dX5_person_15 : decode cX5_person 15 = .ok (.aload_n 0, 1) := by decide +kernel
theorem dX5_person_16 : decode cX5_person 16 = .ok (.getfield 10, 3) := by decide +kernel
theorem dX5_person_19 : decode cX5_person 19 = .ok (.iload_n 1, 1) := by decide +kernel
theorem dX5_person_20 : decode cX5_person 20 = .ok (.invokevirtual 53, 3) := by decide +kernel
theorem dX5_person_23 : decode cX5_person 23 = .ok (.invokevirtual 49, 3) := by decide +kernel
theorem dX5_person_26 : decode cX5_person 26 = .ok (.ireturn, 1) := by decide +kernel
theorem dX5_buy_0 : decode cX5_buy 0 = .ok (.aload_n 0, 1) := by decide +kernel
theorem dX5_buy_1 : decode cX5_buy 1 = .ok (.getfield 30, 3) := by decide +kernel
theorem dX5_buy_4 : decode cX5_buy 4 = .ok (.aload_n 0, 1) := by decide +kernel
theorem dX5_buy_5 : decode cX5_buy 5 = .ok (.getfield 10, 3) := by decide +kernel
theorem dX5_buy_8 : decode cX5_buy 8 = .ok (.invokevirtual 41, 3) := by decide +kernel
theorem dX5_buy_11 : decode cX5_buy 11 = .ok (.aload_n 0, 1) := by decide +kernel
theorem dX5_buy_12 : decode cX5_buy 12 = .ok (.getfield 30, 3) := by decide +kernel
theorem dX5_buy_15 : decode cX5_buy 15 = .ok (.aload_n 0, 1) := by decide +kernel
theorem dX5_buy_16 : decode cX5_buy 16 = .ok (.getfield 10, 3) := by decide +kernel
theorem dX5_buy_19 : decode cX5_buy 19 = .ok (.iload_n 1, 1) := by decide +kernel
theorem dX5_buy_20 : decode cX5_buy 20 = .ok (.invokevirtual 56, 3) := by decide +kernel
theorem dX5_buy_23 : decode cX5_buy 23 = .ok (.invokevirtual 49, 3) := by decide +kernel
theorem dX5_buy_26 : decode cX5_buy 26 = .ok (.ireturn, 1) := by decide +kernel
theorem dX5_job_0 : decode cX5_job 0 = .ok (.aload_n 0, 1) := by decide +kernel
theorem dX5_job_1 : decode cX5_job 1 = .ok (.getfield 30, 3) := by decide +kernel
theorem dX5_job_4 : decode cX5_job 4 = .ok (.aload_n 0, 1) := by decide +kernel
theorem dX5_job_5 : decode cX5_job 5 = .ok (.getfield 10, 3) := by decide +kernel
theorem dX5_job_8 : decode cX5_job 8 = .ok (.invokevirtual 41, 3) := by decide +kernel
theorem dX5_job_11 : decode cX5_job 11 = .ok (.aload_n 0, 1) := by decide +kernel
theorem dX5_job_12 : decode cX5_job 12 = .ok (.getfield 30, 3) := by decide +kernel
theorem dX5_job_15 : decode cX5_job 15 = .ok (.aload_n 0, 1) := by decide +kernel
theorem dX5_job_16 : decode cX5_job 16 = .ok (.getfield 10, 3) := by decide +kernel
theorem dX5_job_19 : decode cX5_job 19 = .ok (.iload_n 1, 1) := by decide +kernel
theorem dX5_job_20 : decode cX5_job 20 = .ok (.iload_n 2, 1) := by decide +kernel
theorem dX5_job_21 : decode cX5_job 21 = .ok (.iload_n 3, 1) := by decide +kernel
theorem dX5_job_22 : decode cX5_job 22 = .ok (.iload 4, 2) := by decide +kernel
theorem dX5_job_24 : decode cX5_job 24 = .ok (.iload 5, 2) := by decide +kernel
theorem dX5_job_26 : decode cX5_job 26 = .ok (.invokevirtual 59, 3) := by decide +kernel
theorem dX5_job_29 : decode cX5_job 29 = .ok (.invokevirtual 49, 3) := by decide +kernel
theorem dX5_job_32 : decode cX5_job 32 = .ok (.ireturn, 1) := by decide +kernel
theorem dX5_begin_0 : decode cX5_begin 0 = .ok (.aload_n 0, 1) := by decide +kernel
theorem dX5_begin_1 : decode cX5_begin 1 = .ok (.getfield 30, 3) := by decide +kernel
theorem dX5_begin_4 : decode cX5_begin 4 = .ok (.aload_n 0, 1) := by decide +kernel
theorem dX5_begin_5 : decode cX5_begin 5 = .ok (.getfield 10, 3) := by decide +kernel
theorem dX5_begin_8 : decode cX5_begin 8 = .ok (.invokevirtual 41, 3) := by decide +kernel
theorem dX5_begin_11 : decode cX5_begin 11 = .ok (.aload_n 0, 1) := by decide +kernel
theorem dX5_begin_12 : decode cX5_begin 12 = .ok (.getfield 30, 3) := by decide +kernel
theorem dX5_begin_15 : decode cX5_begin 15 = .ok (.aload_n 0, 1) := by decide +kernel
theorem dX5_begin_16 : decode cX5_begin 16 = .ok (.getfield 10, 3) := by decide +kernel
theorem dX5_begin_19 : decode cX5_begin 19 = .ok (.iload_n 1, 1) := by decide +kernel
theorem dX5_begin_20 : decode cX5_begin 20 = .ok (.iload_n 2, 1) := by decide +kernel
theorem dX5_begin_21 : decode cX5_begin 21 = .ok (.iload_n 3, 1) := by decide +kernel
theorem dX5_begin_22 : decode cX5_begin 22 = .ok (.invokevirtual 63, 3) := by decide +kernel
theorem dX5_begin_25 : decode cX5_begin 25 = .ok (.invokevirtual 49, 3) := by decide +kernel
end
section
theorem dX5_begin_28 : decode cX5_begin 28 = .ok (.ireturn, 1) := by decide +kernel
theorem dX5_assign_0 : decode cX5_assign 0 = .ok (.aload_n 0, 1) := by decide +kernel
theorem dX5_assign_1 : decode cX5_assign 1 = .ok (.getfield 30, 3) := by decide +kernel
theorem dX5_assign_4 : decode cX5_assign 4 = .ok (.aload_n 0, 1) := by decide +kernel
theorem dX5_assign_5 : decode cX5_assign 5 = .ok (.getfield 10, 3) := by decide +kernel
theorem dX5_assign_8 : decode cX5_assign 8 = .ok (.invokevirtual 41, 3) := by decide +kernel
theorem dX5_assign_11 : decode cX5_assign 11 = .ok (.aload_n 0, 1) := by decide +kernel
theorem dX5_assign_12 : decode cX5_assign 12 = .ok (.getfield 30, 3) := by decide +kernel
theorem dX5_assign_15 : decode cX5_assign 15 = .ok (.aload_n 0, 1) := by decide +kernel
theorem dX5_assign_16 : decode cX5_assign 16 = .ok (.getfield 10, 3) := by decide +kernel
theorem dX5_assign_19 : decode cX5_assign 19 = .ok (.invokevirtual 67, 3) := by decide +kernel
theorem dX5_assign_22 : decode cX5_assign 22 = .ok (.invokevirtual 49, 3) := by decide +kernel
theorem dX5_assign_25 : decode cX5_assign 25 = .ok (.ireturn, 1) := by decide +kernel
theorem dX5_delay_0 : decode cX5_delay 0 = .ok (.aload_n 0, 1) := by decide +kernel
theorem dX5_delay_1 : decode cX5_delay 1 = .ok (.getfield 30, 3) := by decide +kernel
theorem dX5_delay_4 : decode cX5_delay 4 = .ok (.aload_n 0, 1) := by decide +kernel
theorem dX5_delay_5 : decode cX5_delay 5 = .ok (.getfield 10, 3) := by decide +kernel
theorem dX5_delay_8 : decode cX5_delay 8 = .ok (.invokevirtual 41, 3) := by decide +kernel
theorem dX5_delay_11 : decode cX5_delay 11 = .ok (.aload_n 0, 1) := by decide +kernel
theorem dX5_delay_12 : decode cX5_delay 12 = .ok (.getfield 30, 3) := by decide +kernel
theorem dX5_delay_15 : decode cX5_delay 15 = .ok (.aload_n 0, 1) := by decide +kernel
theorem dX5_delay_16 : decode cX5_delay 16 = .ok (.getfield 10, 3) := by decide +kernel
theorem dX5_delay_19 : decode cX5_delay 19 = .ok (.iload_n 1, 1) := by decide +kernel
theorem dX5_delay_20 : decode cX5_delay 20 = .ok (.iload_n 2, 1) := by decide +kernel
theorem dX5_delay_21 : decode cX5_delay 21 = .ok (.invokevirtual 71, 3) := by decide +kernel
theorem dX5_delay_24 : decode cX5_delay 24 = .ok (.invokevirtual 49, 3) := by decide +kernel
theorem dX5_delay_27 : decode cX5_delay 27 = .ok (.ireturn, 1) := by decide +kernel
theorem dX5_callOff_0 : decode cX5_callOff 0 = .ok (.aload_n 0, 1) := by decide +kernel
theorem dX5_callOff_1 : decode cX5_callOff 1 = .ok (.getfield 30, 3) := by decide +kernel
theorem dX5_callOff_4 : decode cX5_callOff 4 = .ok (.aload_n 0, 1) := by decide +kernel
theorem dX5_callOff_5 : decode cX5_callOff 5 = .ok (.getfield 10, 3) := by decide +kernel
theorem dX5_callOff_8 : decode cX5_callOff 8 = .ok (.invokevirtual 41, 3) := by decide +kernel
theorem dX5_callOff_11 : decode cX5_callOff 11 = .ok (.aload_n 0, 1) := by decide +kernel
theorem dX5_callOff_12 : decode cX5_callOff 12 = .ok (.getfield 30, 3) := by decide +kernel
theorem dX5_callOff_15 : decode cX5_callOff 15 = .ok (.aload_n 0, 1) := by decide +kernel
theorem dX5_callOff_16 : decode cX5_callOff 16 = .ok (.getfield 10, 3) := by decide +kernel
theorem dX5_callOff_19 : decode cX5_callOff 19 = .ok (.iload_n 1, 1) := by decide +kernel
theorem dX5_callOff_20 : decode cX5_callOff 20 = .ok (.invokevirtual 74, 3) := by decide +kernel
theorem dX5_callOff_23 : decode cX5_callOff 23 = .ok (.invokevirtual 49, 3) := by decide +kernel
theorem dX5_callOff_26 : decode cX5_callOff 26 = .ok (.ireturn, 1) := by decide +kernel
theorem dX5_pass_0 : decode cX5_pass 0 = .ok (.aload_n 0, 1) := by decide +kernel
theorem dX5_pass_1 : decode cX5_pass 1 = .ok (.getfield 30, 3) := by decide +kernel
theorem dX5_pass_4 : decode cX5_pass 4 = .ok (.aload_n 0, 1) := by decide +kernel
theorem dX5_pass_5 : decode cX5_pass 5 = .ok (.getfield 10, 3) := by decide +kernel
theorem dX5_pass_8 : decode cX5_pass 8 = .ok (.invokevirtual 41, 3) := by decide +kernel
theorem dX5_pass_11 : decode cX5_pass 11 = .ok (.aload_n 0, 1) := by decide +kernel
theorem dX5_pass_12 : decode cX5_pass 12 = .ok (.getfield 30, 3) := by decide +kernel
theorem dX5_pass_15 : decode cX5_pass 15 = .ok (.aload_n 0, 1) := by decide +kernel
theorem dX5_pass_16 : decode cX5_pass 16 = .ok (.getfield 10, 3) := by decide +kernel
theorem dX5_pass_19 : decode cX5_pass 19 = .ok (.iload_n 1, 1) := by decide +kernel
theorem dX5_pass_20 : decode cX5_pass 20 = .ok (.invokevirtual 77, 3) := by decide +kernel
theorem dX5_pass_23 : decode cX5_pass 23 = .ok (.invokevirtual 49, 3) := by decide +kernel
theorem dX5_pass_26 : decode cX5_pass 26 = .ok (.ireturn, 1) := by decide +kernel
theorem dX5_of_0 : decode cX5_of 0 = .ok (.aload_n 0, 1) := by decide +kernel
theorem dX5_of_1 : decode cX5_of 1 = .ok (.getfield 10, 3) := by decide +kernel
theorem dX5_of_4 : decode cX5_of 4 = .ok (.iload_n 1, 1) := by decide +kernel
theorem dX5_of_5 : decode cX5_of 5 = .ok (.invokevirtual 80, 3) := by decide +kernel
theorem dX5_of_8 : decode cX5_of 8 = .ok (.ifCond .ne 5, 3) := by decide +kernel
theorem dX5_of_11 : decode cX5_of 11 = .ok (.iconst (-1), 1) := by decide +kernel
theorem dX5_of_12 : decode cX5_of 12 = .ok (.ireturn, 1) := by decide +kernel
theorem dX5_of_13 : decode cX5_of 13 = .ok (.aload_n 0, 1) := by decide +kernel
theorem dX5_of_14 : decode cX5_of 14 = .ok (.getfield 10, 3) := by decide +kernel
theorem dX5_of_17 : decode cX5_of 17 = .ok (.getfield 84, 3) := by decide +kernel
theorem dX5_of_20 : decode cX5_of 20 = .ok (.iload_n 1, 1) := by decide +kernel
theorem dX5_of_21 : decode cX5_of 21 = .ok (.aaload, 1) := by decide +kernel
theorem dX5_of_22 : decode cX5_of 22 = .ok (.iload_n 2, 1) := by decide +kernel
theorem dX5_of_23 : decode cX5_of 23 = .ok (.aload_n 0, 1) := by decide +kernel
theorem dX5_of_24 : decode cX5_of 24 = .ok (.getfield 10, 3) := by decide +kernel
theorem dX5_of_27 : decode cX5_of 27 = .ok (.getfield 88, 3) := by decide +kernel
theorem dX5_of_30 : decode cX5_of 30 = .ok (.iconst 1, 1) := by decide +kernel
theorem dX5_of_31 : decode cX5_of 31 = .ok (.iaload, 1) := by decide +kernel
theorem dX5_of_32 : decode cX5_of 32 = .ok (.invokevirtual 92, 3) := by decide +kernel
theorem dX5_of_35 : decode cX5_of 35 = .ok (.ireturn, 1) := by decide +kernel
theorem dX5_ofJob_0 : decode cX5_ofJob 0 = .ok (.aload_n 0, 1) := by decide +kernel
theorem dX5_ofJob_1 : decode cX5_ofJob 1 = .ok (.getfield 10, 3) := by decide +kernel
theorem dX5_ofJob_4 : decode cX5_ofJob 4 = .ok (.iload_n 1, 1) := by decide +kernel
theorem dX5_ofJob_5 : decode cX5_ofJob 5 = .ok (.invokevirtual 97, 3) := by decide +kernel
theorem dX5_ofJob_8 : decode cX5_ofJob 8 = .ok (.ifCond .ne 5, 3) := by decide +kernel
theorem dX5_ofJob_11 : decode cX5_ofJob 11 = .ok (.iconst (-1), 1) := by decide +kernel
theorem dX5_ofJob_12 : decode cX5_ofJob 12 = .ok (.ireturn, 1) := by decide +kernel
theorem dX5_ofJob_13 : decode cX5_ofJob 13 = .ok (.aload_n 0, 1) := by decide +kernel
theorem dX5_ofJob_14 : decode cX5_ofJob 14 = .ok (.getfield 10, 3) := by decide +kernel
theorem dX5_ofJob_17 : decode cX5_ofJob 17 = .ok (.aload_n 0, 1) := by decide +kernel
theorem dX5_ofJob_18 : decode cX5_ofJob 18 = .ok (.getfield 10, 3) := by decide +kernel
theorem dX5_ofJob_21 : decode cX5_ofJob 21 = .ok (.getfield 100, 3) := by decide +kernel
theorem dX5_ofJob_24 : decode cX5_ofJob 24 = .ok (.iload_n 1, 1) := by decide +kernel
theorem dX5_ofJob_25 : decode cX5_ofJob 25 = .ok (.aaload, 1) := by decide +kernel
theorem dX5_ofJob_26 : decode cX5_ofJob 26 = .ok (.iload_n 2, 1) := by decide +kernel
theorem dX5_ofJob_27 : decode cX5_ofJob 27 = .ok (.invokevirtual 104, 3) := by decide +kernel
theorem dX5_ofJob_30 : decode cX5_ofJob 30 = .ok (.ireturn, 1) := by decide +kernel
theorem dX5_waiting_0 : decode cX5_waiting 0 = .ok (.aload_n 0, 1) := by decide +kernel
theorem dX5_waiting_1 : decode cX5_waiting 1 = .ok (.getfield 10, 3) := by decide +kernel
theorem dX5_waiting_4 : decode cX5_waiting 4 = .ok (.iload_n 1, 1) := by decide +kernel
theorem dX5_waiting_5 : decode cX5_waiting 5 = .ok (.invokevirtual 108, 3) := by decide +kernel
theorem dX5_waiting_8 : decode cX5_waiting 8 = .ok (.ireturn, 1) := by decide +kernel
theorem dX5_straps_0 : decode cX5_straps 0 = .ok (.iload_n 1, 1) := by decide +kernel
theorem dX5_straps_1 : decode cX5_straps 1 = .ok (.invokestatic 111, 3) := by decide +kernel
theorem dX5_straps_4 : decode cX5_straps 4 = .ok (.ifCond .ne 5, 3) := by decide +kernel
theorem dX5_straps_7 : decode cX5_straps 7 = .ok (.iconst (-1), 1) := by decide +kernel
theorem dX5_straps_8 : decode cX5_straps 8 = .ok (.ireturn, 1) := by decide +kernel
theorem dX5_straps_9 : decode cX5_straps 9 = .ok (.iload_n 2, 1) := by decide +kernel
theorem dX5_straps_10 : decode cX5_straps 10 = .ok (.lookupswitch 46 #[(0, 26), (1, 36)], 26) := by decide +kernel
theorem dX5_straps_36 : decode cX5_straps 36 = .ok (.aload_n 0, 1) := by decide +kernel
theorem dX5_straps_37 : decode cX5_straps 37 = .ok (.getfield 10, 3) := by decide +kernel
theorem dX5_straps_40 : decode cX5_straps 40 = .ok (.getfield 114, 3) := by decide +kernel
theorem dX5_straps_43 : decode cX5_straps 43 = .ok (.iload_n 1, 1) := by decide +kernel
theorem dX5_straps_44 : decode cX5_straps 44 = .ok (.iaload, 1) := by decide +kernel
theorem dX5_straps_45 : decode cX5_straps 45 = .ok (.ireturn, 1) := by decide +kernel
theorem dX5_straps_46 : decode cX5_straps 46 = .ok (.aload_n 0, 1) := by decide +kernel
theorem dX5_straps_47 : decode cX5_straps 47 = .ok (.getfield 10, 3) := by decide +kernel
theorem dX5_straps_50 : decode cX5_straps 50 = .ok (.getfield 117, 3) := by decide +kernel
theorem dX5_straps_53 : decode cX5_straps 53 = .ok (.iload_n 1, 1) := by decide +kernel
theorem dX5_straps_54 : decode cX5_straps 54 = .ok (.iaload, 1) := by decide +kernel
theorem dX5_straps_55 : decode cX5_straps 55 = .ok (.ireturn, 1) := by decide +kernel
theorem dX5_straps_56 : decode cX5_straps 56 = .ok (.bipush (-2), 2) := by decide +kernel
theorem dX5_straps_58 : decode cX5_straps 58 = .ok (.ireturn, 1) := by decide +kernel
theorem dX5_count_0 : decode cX5_count 0 = .ok (.iload_n 1, 1) := by decide +kernel
theorem dX5_count_1 : decode cX5_count 1 = .ok (.lookupswitch 43 #[(14, 27), (15, 35)], 27) := by decide +kernel
theorem dX5_count_28 : decode cX5_count 28 = .ok (.aload_n 0, 1) := by decide +kernel
theorem dX5_count_29 : decode cX5_count 29 = .ok (.getfield 37, 3) := by decide +kernel
theorem dX5_count_32 : decode cX5_count 32 = .ok (.getfield 120, 3) := by decide +kernel
theorem dX5_count_35 : decode cX5_count 35 = .ok (.ireturn, 1) := by decide +kernel
theorem dX5_count_36 : decode cX5_count 36 = .ok (.aload_n 0, 1) := by decide +kernel
theorem dX5_count_37 : decode cX5_count 37 = .ok (.getfield 30, 3) := by decide +kernel
theorem dX5_count_40 : decode cX5_count 40 = .ok (.getfield 124, 3) := by decide +kernel
theorem dX5_count_43 : decode cX5_count 43 = .ok (.ireturn, 1) := by decide +kernel
theorem dX5_count_44 : decode cX5_count 44 = .ok (.aload_n 0, 1) := by decide +kernel
theorem dX5_count_45 : decode cX5_count 45 = .ok (.getfield 10, 3) := by decide +kernel
theorem dX5_count_48 : decode cX5_count 48 = .ok (.iload_n 1, 1) := by decide +kernel
theorem dX5_count_49 : decode cX5_count 49 = .ok (.invokevirtual 127, 3) := by decide +kernel
theorem dX5_count_52 : decode cX5_count 52 = .ok (.ireturn, 1) := by decide +kernel
theorem dX5_why_0 : decode cX5_why 0 = .ok (.aload_n 0, 1) := by decide +kernel
theorem dX5_why_1 : decode cX5_why 1 = .ok (.getfield 10, 3) := by decide +kernel
theorem dX5_why_4 : decode cX5_why 4 = .ok (.iload_n 1, 1) := by decide +kernel
theorem dX5_why_5 : decode cX5_why 5 = .ok (.iload_n 2, 1) := by decide +kernel
theorem dX5_why_6 : decode cX5_why 6 = .ok (.iload_n 3, 1) := by decide +kernel
theorem dX5_why_7 : decode cX5_why 7 = .ok (.invokevirtual 130, 3) := by decide +kernel
theorem dX5_why_10 : decode cX5_why 10 = .ok (.ireturn, 1) := by decide +kernel
theorem dX5_crew_0 : decode cX5_crew 0 = .ok (.aload_n 0, 1) := by decide +kernel
theorem dX5_crew_1 : decode cX5_crew 1 = .ok (.getfield 10, 3) := by decide +kernel
theorem dX5_crew_4 : decode cX5_crew 4 = .ok (.iload_n 1, 1) := by decide +kernel
theorem dX5_crew_5 : decode cX5_crew 5 = .ok (.invokevirtual 97, 3) := by decide +kernel
theorem dX5_crew_8 : decode cX5_crew 8 = .ok (.ifCond .ne 5, 3) := by decide +kernel
theorem dX5_crew_11 : decode cX5_crew 11 = .ok (.iconst (-1), 1) := by decide +kernel
theorem dX5_crew_12 : decode cX5_crew 12 = .ok (.ireturn, 1) := by decide +kernel
theorem dX5_crew_13 : decode cX5_crew 13 = .ok (.iload_n 2, 1) := by decide +kernel
theorem dX5_crew_14 : decode cX5_crew 14 = .ok (.invokestatic 133, 3) := by decide +kernel
theorem dX5_crew_17 : decode cX5_crew 17 = .ok (.ifCond .ne 6, 3) := by decide +kernel
theorem dX5_crew_20 : decode cX5_crew 20 = .ok (.bipush (-2), 2) := by decide +kernel
theorem dX5_crew_22 : decode cX5_crew 22 = .ok (.ireturn, 1) := by decide +kernel
theorem dX5_crew_23 : decode cX5_crew 23 = .ok (.aload_n 0, 1) := by decide +kernel
theorem dX5_crew_24 : decode cX5_crew 24 = .ok (.getfield 10, 3) := by decide +kernel
theorem dX5_crew_27 : decode cX5_crew 27 = .ok (.getfield 100, 3) := by decide +kernel
theorem dX5_crew_30 : decode cX5_crew 30 = .ok (.iload_n 1, 1) := by decide +kernel
theorem dX5_crew_31 : decode cX5_crew 31 = .ok (.aaload, 1) := by decide +kernel
theorem dX5_crew_32 : decode cX5_crew 32 = .ok (.getfield 136, 3) := by decide +kernel
theorem dX5_crew_35 : decode cX5_crew 35 = .ok (.ifCond .eq 6, 3) := by decide +kernel
theorem dX5_crew_38 : decode cX5_crew 38 = .ok (.bipush (-5), 2) := by decide +kernel
theorem dX5_crew_40 : decode cX5_crew 40 = .ok (.ireturn, 1) := by decide +kernel
theorem dX5_crew_41 : decode cX5_crew 41 = .ok (.aload_n 0, 1) := by decide +kernel
theorem dX5_crew_42 : decode cX5_crew 42 = .ok (.getfield 10, 3) := by decide +kernel
theorem dX5_crew_45 : decode cX5_crew 45 = .ok (.aload_n 0, 1) := by decide +kernel
theorem dX5_crew_46 : decode cX5_crew 46 = .ok (.getfield 10, 3) := by decide +kernel
theorem dX5_crew_49 : decode cX5_crew 49 = .ok (.getfield 100, 3) := by decide +kernel
theorem dX5_crew_52 : decode cX5_crew 52 = .ok (.iload_n 1, 1) := by decide +kernel
theorem dX5_crew_53 : decode cX5_crew 53 = .ok (.aaload, 1) := by decide +kernel
theorem dX5_crew_54 : decode cX5_crew 54 = .ok (.iload_n 2, 1) := by decide +kernel
theorem dX5_crew_55 : decode cX5_crew 55 = .ok (.invokevirtual 141, 3) := by decide +kernel
theorem dX5_crew_58 : decode cX5_crew 58 = .ok (.ireturn, 1) := by decide +kernel
theorem dX5_bestStraps_0 : decode cX5_bestStraps 0 = .ok (.aload_n 0, 1) := by decide +kernel
theorem dX5_bestStraps_1 : decode cX5_bestStraps 1 = .ok (.getfield 10, 3) := by decide +kernel
theorem dX5_bestStraps_4 : decode cX5_bestStraps 4 = .ok (.iload_n 1, 1) := by decide +kernel
theorem dX5_bestStraps_5 : decode cX5_bestStraps 5 = .ok (.invokevirtual 97, 3) := by decide +kernel
theorem dX5_bestStraps_8 : decode cX5_bestStraps 8 = .ok (.ifCond .ne 5, 3) := by decide +kernel
theorem dX5_bestStraps_11 : decode cX5_bestStraps 11 = .ok (.iconst (-1), 1) := by decide +kernel
theorem dX5_bestStraps_12 : decode cX5_bestStraps 12 = .ok (.ireturn, 1) := by decide +kernel
theorem dX5_bestStraps_13 : decode cX5_bestStraps 13 = .ok (.aload_n 0, 1) := by decide +kernel
theorem dX5_bestStraps_14 : decode cX5_bestStraps 14 = .ok (.getfield 10, 3) := by decide +kernel
theorem dX5_bestStraps_17 : decode cX5_bestStraps 17 = .ok (.getfield 100, 3) := by decide +kernel
theorem dX5_bestStraps_20 : decode cX5_bestStraps 20 = .ok (.iload_n 1, 1) := by decide +kernel
theorem dX5_bestStraps_21 : decode cX5_bestStraps 21 = .ok (.aaload, 1) := by decide +kernel
theorem dX5_bestStraps_22 : decode cX5_bestStraps 22 = .ok (.getfield 136, 3) := by decide +kernel
theorem dX5_bestStraps_25 : decode cX5_bestStraps 25 = .ok (.ifCond .eq 6, 3) := by decide +kernel
theorem dX5_bestStraps_28 : decode cX5_bestStraps 28 = .ok (.bipush (-5), 2) := by decide +kernel
theorem dX5_bestStraps_30 : decode cX5_bestStraps 30 = .ok (.ireturn, 1) := by decide +kernel
theorem dX5_bestStraps_31 : decode cX5_bestStraps 31 = .ok (.aload_n 0, 1) := by decide +kernel
theorem dX5_bestStraps_32 : decode cX5_bestStraps 32 = .ok (.getfield 10, 3) := by decide +kernel
theorem dX5_bestStraps_35 : decode cX5_bestStraps 35 = .ok (.aload_n 0, 1) := by decide +kernel
theorem dX5_bestStraps_36 : decode cX5_bestStraps 36 = .ok (.getfield 10, 3) := by decide +kernel
theorem dX5_bestStraps_39 : decode cX5_bestStraps 39 = .ok (.getfield 100, 3) := by decide +kernel
theorem dX5_bestStraps_42 : decode cX5_bestStraps 42 = .ok (.iload_n 1, 1) := by decide +kernel
theorem dX5_bestStraps_43 : decode cX5_bestStraps 43 = .ok (.aaload, 1) := by decide +kernel
theorem dX5_bestStraps_44 : decode cX5_bestStraps 44 = .ok (.invokevirtual 144, 3) := by decide +kernel
theorem dX5_bestStraps_47 : decode cX5_bestStraps 47 = .ok (.ireturn, 1) := by decide +kernel
theorem dX5_doneIn_0 : decode cX5_doneIn 0 = .ok (.aload_n 0, 1) := by decide +kernel
theorem dX5_doneIn_1 : decode cX5_doneIn 1 = .ok (.getfield 10, 3) := by decide +kernel
theorem dX5_doneIn_4 : decode cX5_doneIn 4 = .ok (.iload_n 1, 1) := by decide +kernel
theorem dX5_doneIn_5 : decode cX5_doneIn 5 = .ok (.invokevirtual 97, 3) := by decide +kernel
theorem dX5_doneIn_8 : decode cX5_doneIn 8 = .ok (.ifCond .ne 5, 3) := by decide +kernel
theorem dX5_doneIn_11 : decode cX5_doneIn 11 = .ok (.iconst (-1), 1) := by decide +kernel
theorem dX5_doneIn_12 : decode cX5_doneIn 12 = .ok (.ireturn, 1) := by decide +kernel
theorem dX5_doneIn_13 : decode cX5_doneIn 13 = .ok (.aload_n 0, 1) := by decide +kernel
theorem dX5_doneIn_14 : decode cX5_doneIn 14 = .ok (.getfield 10, 3) := by decide +kernel
theorem dX5_doneIn_17 : decode cX5_doneIn 17 = .ok (.getfield 100, 3) := by decide +kernel
theorem dX5_doneIn_20 : decode cX5_doneIn 20 = .ok (.iload_n 1, 1) := by decide +kernel
theorem dX5_doneIn_21 : decode cX5_doneIn 21 = .ok (.aaload, 1) := by decide +kernel
theorem dX5_doneIn_22 : decode cX5_doneIn 22 = .ok (.getfield 136, 3) := by decide +kernel
theorem dX5_doneIn_25 : decode cX5_doneIn 25 = .ok (.iconst 1, 1) := by decide +kernel
theorem dX5_doneIn_26 : decode cX5_doneIn 26 = .ok (.if_icmp .eq 6, 3) := by decide +kernel
theorem dX5_doneIn_29 : decode cX5_doneIn 29 = .ok (.bipush (-5), 2) := by decide +kernel
theorem dX5_doneIn_31 : decode cX5_doneIn 31 = .ok (.ireturn, 1) := by decide +kernel
theorem dX5_doneIn_32 : decode cX5_doneIn 32 = .ok (.aload_n 0, 1) := by decide +kernel
theorem dX5_doneIn_33 : decode cX5_doneIn 33 = .ok (.getfield 16, 3) := by decide +kernel
theorem dX5_doneIn_36 : decode cX5_doneIn 36 = .ok (.aload_n 0, 1) := by decide +kernel
theorem dX5_doneIn_37 : decode cX5_doneIn 37 = .ok (.getfield 10, 3) := by decide +kernel
theorem dX5_doneIn_40 : decode cX5_doneIn 40 = .ok (.invokevirtual 148, 3) := by decide +kernel
theorem dX5_doneIn_43 : decode cX5_doneIn 43 = .ok (.iconst 1, 1) := by decide +kernel
theorem dX5_doneIn_44 : decode cX5_doneIn 44 = .ok (.istore_n 2, 1) := by decide +kernel
theorem dX5_doneIn_45 : decode cX5_doneIn 45 = .ok (.iload_n 2, 1) := by decide +kernel
theorem dX5_doneIn_46 : decode cX5_doneIn 46 = .ok (.sipush 500, 3) := by decide +kernel
theorem dX5_doneIn_49 : decode cX5_doneIn 49 = .ok (.if_icmp .gt 30, 3) := by decide +kernel
theorem dX5_doneIn_52 : decode cX5_doneIn 52 = .ok (.aload_n 0, 1) := by decide +kernel
theorem dX5_doneIn_53 : decode cX5_doneIn 53 = .ok (.getfield 16, 3) := by decide +kernel
theorem dX5_doneIn_56 : decode cX5_doneIn 56 = .ok (.aload_n 0, 1) := by decide +kernel
theorem dX5_doneIn_57 : decode cX5_doneIn 57 = .ok (.getfield 16, 3) := by decide +kernel
theorem dX5_doneIn_60 : decode cX5_doneIn 60 = .ok (.getfield 100, 3) := by decide +kernel
theorem dX5_doneIn_63 : decode cX5_doneIn 63 = .ok (.iload_n 1, 1) := by decide +kernel
theorem dX5_doneIn_64 : decode cX5_doneIn 64 = .ok (.aaload, 1) := by decide +kernel
theorem dX5_doneIn_65 : decode cX5_doneIn 65 = .ok (.invokevirtual 151, 3) := by decide +kernel
theorem dX5_doneIn_68 : decode cX5_doneIn 68 = .ok (.ifCond .eq 5, 3) := by decide +kernel
theorem dX5_doneIn_71 : decode cX5_doneIn 71 = .ok (.iload_n 2, 1) := by decide +kernel
theorem dX5_doneIn_72 : decode cX5_doneIn 72 = .ok (.ireturn, 1) := by decide +kernel
theorem dX5_doneIn_73 : decode cX5_doneIn 73 = .ok (.iinc 2 1, 3) := by decide +kernel
theorem dX5_doneIn_76 : decode cX5_doneIn 76 = .ok (.goto (-31), 3) := by decide +kernel
theorem dX5_doneIn_79 : decode cX5_doneIn 79 = .ok (.bipush (-6), 2) := by decide +kernel
theorem dX5_doneIn_81 : decode cX5_doneIn 81 = .ok (.ireturn, 1) := by decide +kernel
theorem dX5_ifAssigned_0 : decode cX5_ifAssigned 0 = .ok (.aload_n 0, 1) := by decide +kernel
theorem dX5_ifAssigned_1 : decode cX5_ifAssigned 1 = .ok (.getfield 16, 3) := by decide +kernel
theorem dX5_ifAssigned_4 : decode cX5_ifAssigned 4 = .ok (.aload_n 0, 1) := by decide +kernel
theorem dX5_ifAssigned_5 : decode cX5_ifAssigned 5 = .ok (.getfield 10, 3) := by decide +kernel
theorem dX5_ifAssigned_8 : decode cX5_ifAssigned 8 = .ok (.invokevirtual 148, 3) := by decide +kernel
theorem dX5_ifAssigned_11 : decode cX5_ifAssigned 11 = .ok (.aload_n 0, 1) := by decide +kernel
theorem dX5_ifAssigned_12 : decode cX5_ifAssigned 12 = .ok (.getfield 16, 3) := by decide +kernel
theorem dX5_ifAssigned_15 : decode cX5_ifAssigned 15 = .ok (.invokevirtual 67, 3) := by decide +kernel
theorem dX5_ifAssigned_18 : decode cX5_ifAssigned 18 = .ok (.ireturn, 1) := by decide +kernel
theorem dX5_put_0 : decode cX5_put 0 = .ok (.aload_n 0, 1) := by decide +kernel
theorem dX5_put_1 : decode cX5_put 1 = .ok (.getfield 37, 3) := by decide +kernel
theorem dX5_put_4 : decode cX5_put 4 = .ok (.lload_n 1, 1) := by decide +kernel
theorem dX5_put_5 : decode cX5_put 5 = .ok (.invokevirtual 155, 3) := by decide +kernel
theorem dX5_put_8 : decode cX5_put 8 = .ok (.ireturn, 1) := by decide +kernel
theorem dX5_wipe_0 : decode cX5_wipe 0 = .ok (.aload_n 0, 1) := by decide +kernel
theorem dX5_wipe_1 : decode cX5_wipe 1 = .ok (.getfield 37, 3) := by decide +kernel
theorem dX5_wipe_4 : decode cX5_wipe 4 = .ok (.invokevirtual 159, 3) := by decide +kernel
theorem dX5_wipe_7 : decode cX5_wipe 7 = .ok (.ireturn, 1) := by decide +kernel
theorem dX5_fault_0 : decode cX5_fault 0 = .ok (.aload_n 0, 1) := by decide +kernel
theorem dX5_fault_1 : decode cX5_fault 1 = .ok (.getfield 37, 3) := by decide +kernel
theorem dX5_fault_4 : decode cX5_fault 4 = .ok (.invokevirtual 162, 3) := by decide +kernel
theorem dX5_fault_7 : decode cX5_fault 7 = .ok (.ireturn, 1) := by decide +kernel
theorem dX5_carryOut_0 : decode cX5_carryOut 0 = .ok (.aload_n 0, 1) := by decide +kernel
theorem dX5_carryOut_1 : decode cX5_carryOut 1 = .ok (.getfield 37, 3) := by decide +kernel
theorem dX5_carryOut_4 : decode cX5_carryOut 4 = .ok (.invokevirtual 162, 3) := by decide +kernel
theorem dX5_carryOut_7 : decode cX5_carryOut 7 = .ok (.bipush (-6), 2) := by decide +kernel
theorem dX5_carryOut_9 : decode cX5_carryOut 9 = .ok (.if_icmp .eq 6, 3) := by decide +kernel
theorem dX5_carryOut_12 : decode cX5_carryOut 12 = .ok (.bipush (-3), 2) := by decide +kernel
theorem dX5_carryOut_14 : decode cX5_carryOut 14 = .ok (.ireturn, 1) := by decide +kernel
theorem dX5_carryOut_15 : decode cX5_carryOut 15 = .ok (.aload_n 0, 1) := by decide +kernel
theorem dX5_carryOut_16 : decode cX5_carryOut 16 = .ok (.getfield 30, 3) := by decide +kernel
theorem dX5_carryOut_19 : decode cX5_carryOut 19 = .ok (.aload_n 0, 1) := by decide +kernel
theorem dX5_carryOut_20 : decode cX5_carryOut 20 = .ok (.getfield 10, 3) := by decide +kernel
theorem dX5_carryOut_23 : decode cX5_carryOut 23 = .ok (.invokevirtual 41, 3) := by decide +kernel
theorem dX5_carryOut_26 : decode cX5_carryOut 26 = .ok (.aload_n 0, 1) := by decide +kernel
theorem dX5_carryOut_27 : decode cX5_carryOut 27 = .ok (.getfield 37, 3) := by decide +kernel
theorem dX5_carryOut_30 : decode cX5_carryOut 30 = .ok (.invokevirtual 165, 3) := by decide +kernel
theorem dX5_carryOut_33 : decode cX5_carryOut 33 = .ok (.iconst 0, 1) := by decide +kernel
theorem dX5_carryOut_34 : decode cX5_carryOut 34 = .ok (.istore_n 1, 1) := by decide +kernel
theorem dX5_carryOut_35 : decode cX5_carryOut 35 = .ok (.iload_n 1, 1) := by decide +kernel
theorem dX5_carryOut_36 : decode cX5_carryOut 36 = .ok (.bipush 80, 2) := by decide +kernel
theorem dX5_carryOut_38 : decode cX5_carryOut 38 = .ok (.if_icmp .gt 36, 3) := by decide +kernel
theorem dX5_carryOut_41 : decode cX5_carryOut 41 = .ok (.aload_n 0, 1) := by decide +kernel
theorem dX5_carryOut_42 : decode cX5_carryOut 42 = .ok (.getfield 37, 3) := by decide +kernel
theorem dX5_carryOut_45 : decode cX5_carryOut 45 = .ok (.invokevirtual 168, 3) := by decide +kernel
theorem dX5_carryOut_48 : decode cX5_carryOut 48 = .ok (.ifCond .eq 26, 3) := by decide +kernel
theorem dX5_carryOut_51 : decode cX5_carryOut 51 = .ok (.aload_n 0, 1) := by decide +kernel
theorem dX5_carryOut_52 : decode cX5_carryOut 52 = .ok (.invokevirtual 172, 3) := by decide +kernel
theorem dX5_carryOut_55 : decode cX5_carryOut 55 = .ok (.ifCond .lt 19, 3) := by decide +kernel
theorem dX5_carryOut_58 : decode cX5_carryOut 58 = .ok (.iinc 1 1, 3) := by decide +kernel
theorem dX5_carryOut_61 : decode cX5_carryOut 61 = .ok (.aload_n 0, 1) := by decide +kernel
theorem dX5_carryOut_62 : decode cX5_carryOut 62 = .ok (.getfield 37, 3) := by decide +kernel
theorem dX5_carryOut_65 : decode cX5_carryOut 65 = .ok (.bipush 59, 2) := by decide +kernel
theorem dX5_carryOut_67 : decode cX5_carryOut 67 = .ok (.invokevirtual 175, 3) := by decide +kernel
theorem dX5_carryOut_70 : decode cX5_carryOut 70 = .ok (.pop, 1) := by decide +kernel
theorem dX5_carryOut_71 : decode cX5_carryOut 71 = .ok (.goto (-36), 3) := by decide +kernel
theorem dX5_carryOut_74 : decode cX5_carryOut 74 = .ok (.aload_n 0, 1) := by decide +kernel
theorem dX5_carryOut_75 : decode cX5_carryOut 75 = .ok (.getfield 37, 3) := by decide +kernel
theorem dX5_carryOut_78 : decode cX5_carryOut 78 = .ok (.invokevirtual 159, 3) := by decide +kernel
theorem dX5_carryOut_81 : decode cX5_carryOut 81 = .ok (.pop, 1) := by decide +kernel
theorem dX5_carryOut_82 : decode cX5_carryOut 82 = .ok (.aload_n 0, 1) := by decide +kernel
theorem dX5_carryOut_83 : decode cX5_carryOut 83 = .ok (.getfield 30, 3) := by decide +kernel
theorem dX5_carryOut_86 : decode cX5_carryOut 86 = .ok (.iload_n 1, 1) := by decide +kernel
theorem dX5_carryOut_87 : decode cX5_carryOut 87 = .ok (.invokevirtual 49, 3) := by decide +kernel
theorem dX5_carryOut_90 : decode cX5_carryOut 90 = .ok (.ireturn, 1) := by decide +kernel
theorem dX5_obeyOrder_0 : decode cX5_obeyOrder 0 = .ok (.aload_n 0, 1) := by decide +kernel
theorem dX5_obeyOrder_1 : decode cX5_obeyOrder 1 = .ok (.getfield 37, 3) := by decide +kernel
theorem dX5_obeyOrder_4 : decode cX5_obeyOrder 4 = .ok (.iconst 0, 1) := by decide +kernel
theorem dX5_obeyOrder_5 : decode cX5_obeyOrder 5 = .ok (.invokevirtual 178, 3) := by decide +kernel
theorem dX5_obeyOrder_8 : decode cX5_obeyOrder 8 = .ok (.istore_n 1, 1) := by decide +kernel
theorem dX5_obeyOrder_9 : decode cX5_obeyOrder 9 = .ok (.aload_n 0, 1) := by decide +kernel
theorem dX5_obeyOrder_10 : decode cX5_obeyOrder 10 = .ok (.getfield 37, 3) := by decide +kernel
theorem dX5_obeyOrder_13 : decode cX5_obeyOrder 13 = .ok (.getfield 181, 3) := by decide +kernel
theorem dX5_obeyOrder_16 : decode cX5_obeyOrder 16 = .ok (.tableswitch 228 97 120 #[211, 228, 228, 185, 228, 228, 162, 228, 228, 121, 228, 228, 228, 219, 228, 228, 228, 228, 228, 228, 228, 228, 112, 202], 112) := by decide +kernel
theorem dX5_obeyOrder_128 : decode cX5_obeyOrder 128 = .ok (.aload_n 0, 1) := by decide +kernel
theorem dX5_obeyOrder_129 : decode cX5_obeyOrder 129 = .ok (.getfield 10, 3) := by decide +kernel
theorem dX5_obeyOrder_132 : decode cX5_obeyOrder 132 = .ok (.iload_n 1, 1) := by decide +kernel
theorem dX5_obeyOrder_133 : decode cX5_obeyOrder 133 = .ok (.invokevirtual 53, 3) := by decide +kernel
theorem dX5_obeyOrder_136 : decode cX5_obeyOrder 136 = .ok (.ireturn, 1) := by decide +kernel
theorem dX5_obeyOrder_137 : decode cX5_obeyOrder 137 = .ok (.aload_n 0, 1) := by decide +kernel
theorem dX5_obeyOrder_138 : decode cX5_obeyOrder 138 = .ok (.getfield 10, 3) := by decide +kernel
theorem dX5_obeyOrder_141 : decode cX5_obeyOrder 141 = .ok (.iload_n 1, 1) := by decide +kernel
theorem dX5_obeyOrder_142 : decode cX5_obeyOrder 142 = .ok (.aload_n 0, 1) := by decide +kernel
theorem dX5_obeyOrder_143 : decode cX5_obeyOrder 143 = .ok (.getfield 37, 3) := by decide +kernel
theorem dX5_obeyOrder_146 : decode cX5_obeyOrder 146 = .ok (.iconst 1, 1) := by decide +kernel
theorem dX5_obeyOrder_147 : decode cX5_obeyOrder 147 = .ok (.invokevirtual 178, 3) := by decide +kernel
theorem dX5_obeyOrder_150 : decode cX5_obeyOrder 150 = .ok (.aload_n 0, 1) := by decide +kernel
theorem dX5_obeyOrder_151 : decode cX5_obeyOrder 151 = .ok (.getfield 37, 3) := by decide +kernel
theorem dX5_obeyOrder_154 : decode cX5_obeyOrder 154 = .ok (.iconst 2, 1) := by decide +kernel
theorem dX5_obeyOrder_155 : decode cX5_obeyOrder 155 = .ok (.invokevirtual 178, 3) := by decide +kernel
theorem dX5_obeyOrder_158 : decode cX5_obeyOrder 158 = .ok (.aload_n 0, 1) := by decide +kernel
theorem dX5_obeyOrder_159 : decode cX5_obeyOrder 159 = .ok (.getfield 37, 3) := by decide +kernel
theorem dX5_obeyOrder_162 : decode cX5_obeyOrder 162 = .ok (.iconst 3, 1) := by decide +kernel
theorem dX5_obeyOrder_163 : decode cX5_obeyOrder 163 = .ok (.invokevirtual 178, 3) := by decide +kernel
theorem dX5_obeyOrder_166 : decode cX5_obeyOrder 166 = .ok (.aload_n 0, 1) := by decide +kernel
theorem dX5_obeyOrder_167 : decode cX5_obeyOrder 167 = .ok (.getfield 37, 3) := by decide +kernel
theorem dX5_obeyOrder_170 : decode cX5_obeyOrder 170 = .ok (.iconst 4, 1) := by decide +kernel
theorem dX5_obeyOrder_171 : decode cX5_obeyOrder 171 = .ok (.invokevirtual 178, 3) := by decide +kernel
theorem dX5_obeyOrder_174 : decode cX5_obeyOrder 174 = .ok (.invokevirtual 59, 3) := by decide +kernel
theorem dX5_obeyOrder_177 : decode cX5_obeyOrder 177 = .ok (.ireturn, 1) := by decide +kernel
theorem dX5_obeyOrder_178 : decode cX5_obeyOrder 178 = .ok (.aload_n 0, 1) := by decide +kernel
theorem dX5_obeyOrder_179 : decode cX5_obeyOrder 179 = .ok (.getfield 10, 3) := by decide +kernel
theorem dX5_obeyOrder_182 : decode cX5_obeyOrder 182 = .ok (.iload_n 1, 1) := by decide +kernel
theorem dX5_obeyOrder_183 : decode cX5_obeyOrder 183 = .ok (.aload_n 0, 1) := by decide +kernel
theorem dX5_obeyOrder_184 : decode cX5_obeyOrder 184 = .ok (.getfield 37, 3) := by decide +kernel
theorem dX5_obeyOrder_187 : decode cX5_obeyOrder 187 = .ok (.getfield 184, 3) := by decide +kernel
theorem dX5_obeyOrder_190 : decode cX5_obeyOrder 190 = .ok (.aload_n 0, 1) := by decide +kernel
theorem dX5_obeyOrder_191 : decode cX5_obeyOrder 191 = .ok (.getfield 37, 3) := by decide +kernel
theorem dX5_obeyOrder_194 : decode cX5_obeyOrder 194 = .ok (.getfield 187, 3) := by decide +kernel
theorem dX5_obeyOrder_197 : decode cX5_obeyOrder 197 = .ok (.invokevirtual 63, 3) := by decide +kernel
theorem dX5_obeyOrder_200 : decode cX5_obeyOrder 200 = .ok (.ireturn, 1) := by decide +kernel
theorem dX5_obeyOrder_201 : decode cX5_obeyOrder 201 = .ok (.aload_n 0, 1) := by decide +kernel
theorem dX5_obeyOrder_202 : decode cX5_obeyOrder 202 = .ok (.getfield 10, 3) := by decide +kernel
theorem dX5_obeyOrder_205 : decode cX5_obeyOrder 205 = .ok (.iload_n 1, 1) := by decide +kernel
theorem dX5_obeyOrder_206 : decode cX5_obeyOrder 206 = .ok (.aload_n 0, 1) := by decide +kernel
theorem dX5_obeyOrder_207 : decode cX5_obeyOrder 207 = .ok (.getfield 37, 3) := by decide +kernel
theorem dX5_obeyOrder_210 : decode cX5_obeyOrder 210 = .ok (.iconst 1, 1) := by decide +kernel
theorem dX5_obeyOrder_211 : decode cX5_obeyOrder 211 = .ok (.invokevirtual 178, 3) := by decide +kernel
theorem dX5_obeyOrder_214 : decode cX5_obeyOrder 214 = .ok (.invokevirtual 71, 3) := by decide +kernel
theorem dX5_obeyOrder_217 : decode cX5_obeyOrder 217 = .ok (.ireturn, 1) := by decide +kernel
theorem dX5_obeyOrder_218 : decode cX5_obeyOrder 218 = .ok (.aload_n 0, 1) := by decide +kernel
theorem dX5_obeyOrder_219 : decode cX5_obeyOrder 219 = .ok (.getfield 10, 3) := by decide +kernel
theorem dX5_obeyOrder_222 : decode cX5_obeyOrder 222 = .ok (.iload_n 1, 1) := by decide +kernel
theorem dX5_obeyOrder_223 : decode cX5_obeyOrder 223 = .ok (.invokevirtual 74, 3) := by decide +kernel
theorem dX5_obeyOrder_226 : decode cX5_obeyOrder 226 = .ok (.ireturn, 1) := by decide +kernel
theorem dX5_obeyOrder_227 : decode cX5_obeyOrder 227 = .ok (.aload_n 0, 1) := by decide +kernel
theorem dX5_obeyOrder_228 : decode cX5_obeyOrder 228 = .ok (.getfield 10, 3) := by decide +kernel
theorem dX5_obeyOrder_231 : decode cX5_obeyOrder 231 = .ok (.invokevirtual 67, 3) := by decide +kernel
theorem dX5_obeyOrder_234 : decode cX5_obeyOrder 234 = .ok (.ireturn, 1) := by decide +kernel
theorem dX5_obeyOrder_235 : decode cX5_obeyOrder 235 = .ok (.aload_n 0, 1) := by decide +kernel
theorem dX5_obeyOrder_236 : decode cX5_obeyOrder 236 = .ok (.getfield 10, 3) := by decide +kernel
theorem dX5_obeyOrder_239 : decode cX5_obeyOrder 239 = .ok (.iload_n 1, 1) := by decide +kernel
theorem dX5_obeyOrder_240 : decode cX5_obeyOrder 240 = .ok (.invokevirtual 77, 3) := by decide +kernel
theorem dX5_obeyOrder_243 : decode cX5_obeyOrder 243 = .ok (.ireturn, 1) := by decide +kernel
theorem dX5_obeyOrder_244 : decode cX5_obeyOrder 244 = .ok (.bipush (-3), 2) := by decide +kernel
theorem dX5_obeyOrder_246 : decode cX5_obeyOrder 246 = .ok (.ireturn, 1) := by decide +kernel
theorem dX5_undo_0 : decode cX5_undo 0 = .ok (.aload_n 0, 1) := by decide +kernel
theorem dX5_undo_1 : decode cX5_undo 1 = .ok (.getfield 30, 3) := by decide +kernel
theorem dX5_undo_4 : decode cX5_undo 4 = .ok (.aload_n 0, 1) := by decide +kernel
theorem dX5_undo_5 : decode cX5_undo 5 = .ok (.getfield 10, 3) := by decide +kernel
theorem dX5_undo_8 : decode cX5_undo 8 = .ok (.invokevirtual 190, 3) := by decide +kernel
theorem dX5_undo_11 : decode cX5_undo 11 = .ok (.ireturn, 1) := by decide +kernel
theorem dX5_save_0 : decode cX5_save 0 = .ok (.iload_n 1, 1) := by decide +kernel
theorem dX5_save_1 : decode cX5_save 1 = .ok (.invokestatic 194, 3) := by decide +kernel
theorem dX5_save_4 : decode cX5_save 4 = .ok (.ifCond .ne 6, 3) := by decide +kernel
theorem dX5_save_7 : decode cX5_save 7 = .ok (.bipush (-2), 2) := by decide +kernel
theorem dX5_save_9 : decode cX5_save 9 = .ok (.ireturn, 1) := by decide +kernel
theorem dX5_save_10 : decode cX5_save 10 = .ok (.aload_n 0, 1) := by decide +kernel
theorem dX5_save_11 : decode cX5_save 11 = .ok (.getfield 19, 3) := by decide +kernel
theorem dX5_save_14 : decode cX5_save 14 = .ok (.iload_n 1, 1) := by decide +kernel
theorem dX5_save_15 : decode cX5_save 15 = .ok (.aaload, 1) := by decide +kernel
theorem dX5_save_16 : decode cX5_save 16 = .ok (.aload_n 0, 1) := by decide +kernel
theorem dX5_save_17 : decode cX5_save 17 = .ok (.getfield 10, 3) := by decide +kernel
theorem dX5_save_20 : decode cX5_save 20 = .ok (.invokevirtual 148, 3) := by decide +kernel
theorem dX5_save_23 : decode cX5_save 23 = .ok (.aload_n 0, 1) := by decide +kernel
theorem dX5_save_24 : decode cX5_save 24 = .ok (.getfield 23, 3) := by decide +kernel
theorem dX5_save_27 : decode cX5_save 27 = .ok (.iload_n 1, 1) := by decide +kernel
theorem dX5_save_28 : decode cX5_save 28 = .ok (.iconst 1, 1) := by decide +kernel
theorem dX5_save_29 : decode cX5_save 29 = .ok (.bastore, 1) := by decide +kernel
theorem dX5_save_30 : decode cX5_save 30 = .ok (.aload_n 0, 1) := by decide +kernel
theorem dX5_save_31 : decode cX5_save 31 = .ok (.getfield 10, 3) := by decide +kernel
theorem dX5_save_34 : decode cX5_save 34 = .ok (.getfield 197, 3) := by decide +kernel
theorem dX5_save_37 : decode cX5_save 37 = .ok (.ireturn, 1) := by decide +kernel
theorem dX5_restore_0 : decode cX5_restore 0 = .ok (.iload_n 1, 1) := by decide +kernel
theorem dX5_restore_1 : decode cX5_restore 1 = .ok (.invokestatic 194, 3) := by decide +kernel
theorem dX5_restore_4 : decode cX5_restore 4 = .ok (.ifCond .ne 6, 3) := by decide +kernel
theorem dX5_restore_7 : decode cX5_restore 7 = .ok (.bipush (-2), 2) := by decide +kernel
theorem dX5_restore_9 : decode cX5_restore 9 = .ok (.ireturn, 1) := by decide +kernel
theorem dX5_restore_10 : decode cX5_restore 10 = .ok (.aload_n 0, 1) := by decide +kernel
theorem dX5_restore_11 : decode cX5_restore 11 = .ok (.getfield 23, 3) := by decide +kernel
theorem dX5_restore_14 : decode cX5_restore 14 = .ok (.iload_n 1, 1) := by decide +kernel
theorem dX5_restore_15 : decode cX5_restore 15 = .ok (.baload, 1) := by decide +kernel
theorem dX5_restore_16 : decode cX5_restore 16 = .ok (.ifCond .ne 6, 3) := by decide +kernel
theorem dX5_restore_19 : decode cX5_restore 19 = .ok (.bipush (-5), 2) := by decide +kernel
theorem dX5_restore_21 : decode cX5_restore 21 = .ok (.ireturn, 1) := by decide +kernel
theorem dX5_restore_22 : decode cX5_restore 22 = .ok (.aload_n 0, 1) := by decide +kernel
theorem dX5_restore_23 : decode cX5_restore 23 = .ok (.getfield 30, 3) := by decide +kernel
theorem dX5_restore_26 : decode cX5_restore 26 = .ok (.aload_n 0, 1) := by decide +kernel
theorem dX5_restore_27 : decode cX5_restore 27 = .ok (.getfield 10, 3) := by decide +kernel
theorem dX5_restore_30 : decode cX5_restore 30 = .ok (.invokevirtual 41, 3) := by decide +kernel
theorem dX5_restore_33 : decode cX5_restore 33 = .ok (.aload_n 0, 1) := by decide +kernel
theorem dX5_restore_34 : decode cX5_restore 34 = .ok (.getfield 10, 3) := by decide +kernel
theorem dX5_restore_37 : decode cX5_restore 37 = .ok (.aload_n 0, 1) := by decide +kernel
theorem dX5_restore_38 : decode cX5_restore 38 = .ok (.getfield 19, 3) := by decide +kernel
theorem dX5_restore_41 : decode cX5_restore 41 = .ok (.iload_n 1, 1) := by decide +kernel
theorem dX5_restore_42 : decode cX5_restore 42 = .ok (.aaload, 1) := by decide +kernel
theorem dX5_restore_43 : decode cX5_restore 43 = .ok (.invokevirtual 148, 3) := by decide +kernel
theorem dX5_restore_46 : decode cX5_restore 46 = .ok (.aload_n 0, 1) := by decide +kernel
theorem dX5_restore_47 : decode cX5_restore 47 = .ok (.getfield 30, 3) := by decide +kernel
theorem dX5_restore_50 : decode cX5_restore 50 = .ok (.aload_n 0, 1) := by decide +kernel
theorem dX5_restore_51 : decode cX5_restore 51 = .ok (.getfield 10, 3) := by decide +kernel
theorem dX5_restore_54 : decode cX5_restore 54 = .ok (.getfield 197, 3) := by decide +kernel
theorem dX5_restore_57 : decode cX5_restore 57 = .ok (.invokevirtual 49, 3) := by decide +kernel
theorem dX5_restore_60 : decode cX5_restore 60 = .ok (.ireturn, 1) := by decide +kernel
theorem dX5_isSlot_0 : decode cX5_isSlot 0 = .ok (.iload_n 0, 1) := by decide +kernel
theorem dX5_isSlot_1 : decode cX5_isSlot 1 = .ok (.iconst 0, 1) := by decide +kernel
theorem dX5_isSlot_2 : decode cX5_isSlot 2 = .ok (.iconst 1, 1) := by decide +kernel
theorem dX5_isSlot_3 : decode cX5_isSlot 3 = .ok (.invokestatic 200, 3) := by decide +kernel
theorem dX5_isSlot_6 : decode cX5_isSlot 6 = .ok (.ireturn, 1) := by decide +kernel
theorem dX5_isKind_0 : decode cX5_isKind 0 = .ok (.iload_n 0, 1) := by decide +kernel
theorem dX5_isKind_1 : decode cX5_isKind 1 = .ok (.ifCond .lt 12, 3) := by decide +kernel
theorem dX5_isKind_4 : decode cX5_isKind 4 = .ok (.iload_n 0, 1) := by decide +kernel
theorem dX5_isKind_5 : decode cX5_isKind 5 = .ok (.iconst 3, 1) := by decide +kernel
theorem dX5_isKind_6 : decode cX5_isKind 6 = .ok (.if_icmp .ge 7, 3) := by decide +kernel
theorem dX5_isKind_9 : decode cX5_isKind 9 = .ok (.iconst 1, 1) := by decide +kernel
theorem dX5_isKind_10 : decode cX5_isKind 10 = .ok (.goto 4, 3) := by decide +kernel
theorem dX5_isKind_13 : decode cX5_isKind 13 = .ok (.iconst 0, 1) := by decide +kernel
theorem dX5_isKind_14 : decode cX5_isKind 14 = .ok (.ireturn, 1) := by decide +kernel
theorem dX5_isKindOrNone_0 : decode cX5_isKindOrNone 0 = .ok (.iload_n 0, 1) := by decide +kernel
theorem dX5_isKindOrNone_1 : decode cX5_isKindOrNone 1 = .ok (.bipush (-6), 2) := by decide +kernel
theorem dX5_isKindOrNone_3 : decode cX5_isKindOrNone 3 = .ok (.if_icmp .eq 10, 3) := by decide +kernel
theorem dX5_isKindOrNone_6 : decode cX5_isKindOrNone 6 = .ok (.iload_n 0, 1) := by decide +kernel
theorem dX5_isKindOrNone_7 : decode cX5_isKindOrNone 7 = .ok (.invokestatic 111, 3) := by decide +kernel
theorem dX5_isKindOrNone_10 : decode cX5_isKindOrNone 10 = .ok (.ifCond .eq 7, 3) := by decide +kernel
theorem dX5_isKindOrNone_13 : decode cX5_isKindOrNone 13 = .ok (.iconst 1, 1) := by decide +kernel
theorem dX5_isKindOrNone_14 : decode cX5_isKindOrNone 14 = .ok (.goto 4, 3) := by decide +kernel
theorem dX5_isKindOrNone_17 : decode cX5_isKindOrNone 17 = .ok (.iconst 0, 1) := by decide +kernel
theorem dX5_isKindOrNone_18 : decode cX5_isKindOrNone 18 = .ok (.ireturn, 1) := by decide +kernel
theorem dX5_isWithin_0 : decode cX5_isWithin 0 = .ok (.iload_n 0, 1) := by decide +kernel
theorem dX5_isWithin_1 : decode cX5_isWithin 1 = .ok (.iload_n 1, 1) := by decide +kernel
theorem dX5_isWithin_2 : decode cX5_isWithin 2 = .ok (.if_icmp .lt 12, 3) := by decide +kernel
theorem dX5_isWithin_5 : decode cX5_isWithin 5 = .ok (.iload_n 0, 1) := by decide +kernel
theorem dX5_isWithin_6 : decode cX5_isWithin 6 = .ok (.iload_n 2, 1) := by decide +kernel
theorem dX5_isWithin_7 : decode cX5_isWithin 7 = .ok (.if_icmp .gt 7, 3) := by decide +kernel
theorem dX5_isWithin_10 : decode cX5_isWithin 10 = .ok (.iconst 1, 1) := by decide +kernel
theorem dX5_isWithin_11 : decode cX5_isWithin 11 = .ok (.goto 4, 3) := by decide +kernel
theorem dX5_isWithin_14 : decode cX5_isWithin 14 = .ok (.iconst 0, 1) := by decide +kernel
theorem dX5_isWithin_15 : decode cX5_isWithin 15 = .ok (.ireturn, 1) := by decide +kernel
theorem dX5_isIn_0 : decode cX5_isIn 0 = .ok (.iload_n 1, 1) := by decide +kernel
theorem dX5_isIn_1 : decode cX5_isIn 1 = .ok (.iconst 1, 1) := by decide +kernel
theorem dX5_isIn_2 : decode cX5_isIn 2 = .ok (.iload_n 0, 1) := by decide +kernel
theorem dX5_isIn_3 : decode cX5_isIn 3 = .ok (.ishl, 1) := by decide +kernel
theorem dX5_isIn_4 : decode cX5_isIn 4 = .ok (.iand, 1) := by decide +kernel
theorem dX5_isIn_5 : decode cX5_isIn 5 = .ok (.ifCond .eq 7, 3) := by decide +kernel
theorem dX5_isIn_8 : decode cX5_isIn 8 = .ok (.iconst 1, 1) := by decide +kernel
theorem dX5_isIn_9 : decode cX5_isIn 9 = .ok (.goto 4, 3) := by decide +kernel
theorem dX5_isIn_12 : decode cX5_isIn 12 = .ok (.iconst 0, 1) := by decide +kernel
theorem dX5_isIn_13 : decode cX5_isIn 13 = .ok (.ireturn, 1) := by decide +kernel
theorem dX6_init_0 : decode cX6_init 0 = .ok (.aload_n 0, 1) := by decide +kernel
theorem dX6_init_1 : decode cX6_init 1 = .ok (.invokespecial 1, 3) := by decide +kernel
theorem dX6_init_4 : decode cX6_init 4 = .ok (.aload_n 0, 1) := by decide +kernel
theorem dX6_init_5 : decode cX6_init 5 = .ok (.sipush 244, 3) := by decide +kernel
theorem dX6_init_8 : decode cX6_init 8 = .ok (.newarray .int, 2) := by decide +kernel
theorem dX6_init_10 : decode cX6_init 10 = .ok (.putfield 7, 3) := by decide +kernel
theorem dX6_init_13 : decode cX6_init 13 = .ok (.aload_n 0, 1) := by decide +kernel
theorem dX6_init_14 : decode cX6_init 14 = .ok (.sipush 244, 3) := by decide +kernel
theorem dX6_init_17 : decode cX6_init 17 = .ok (.newarray .int, 2) := by decide +kernel
theorem dX6_init_19 : decode cX6_init 19 = .ok (.putfield 13, 3) := by decide +kernel
theorem dX6_init_22 : decode cX6_init 22 = .ok (.aload_n 0, 1) := by decide +kernel
theorem dX6_init_23 : decode cX6_init 23 = .ok (.sipush 1464, 3) := by decide +kernel
theorem dX6_init_26 : decode cX6_init 26 = .ok (.newarray .int, 2) := by decide +kernel
theorem dX6_init_28 : decode cX6_init 28 = .ok (.putfield 16, 3) := by decide +kernel
theorem dX6_init_31 : decode cX6_init 31 = .ok (.aload_n 0, 1) := by decide +kernel
theorem dX6_init_32 : decode cX6_init 32 = .ok (.sipush 488, 3) := by decide +kernel
theorem dX6_init_35 : decode cX6_init 35 = .ok (.newarray .int, 2) := by decide +kernel
theorem dX6_init_37 : decode cX6_init 37 = .ok (.putfield 19, 3) := by decide +kernel
theorem dX6_init_40 : decode cX6_init 40 = .ok (.aload_n 0, 1) := by decide +kernel
theorem dX6_init_41 : decode cX6_init 41 = .ok (.iconst 2, 1) := by decide +kernel
theorem dX6_init_42 : decode cX6_init 42 = .ok (.newarray .boolean, 2) := by decide +kernel
theorem dX6_init_44 : decode cX6_init 44 = .ok (.putfield 22, 3) := by decide +kernel
theorem dX6_init_47 : decode cX6_init 47 = .ok (.aload_n 0, 1) := by decide +kernel
theorem dX6_init_48 : decode cX6_init 48 = .ok (.bipush 80, 2) := by decide +kernel
theorem dX6_init_50 : decode cX6_init 50 = .ok (.newarray .int, 2) := by decide +kernel
theorem dX6_init_52 : decode cX6_init 52 = .ok (.putfield 26, 3) := by decide +kernel
theorem dX6_init_55 : decode cX6_init 55 = .ok (.aload_n 0, 1) := by decide +kernel
theorem dX6_init_56 : decode cX6_init 56 = .ok (.sipush 252, 3) := by decide +kernel
theorem dX6_init_59 : decode cX6_init 59 = .ok (.newarray .int, 2) := by decide +kernel
theorem dX6_init_61 : decode cX6_init 61 = .ok (.putfield 29, 3) := by decide +kernel
theorem dX6_init_64 : decode cX6_init 64 = .ok (.aload_n 0, 1) := by decide +kernel
theorem dX6_init_65 : decode cX6_init 65 = .ok (.iconst 0, 1) := by decide +kernel
theorem dX6_init_66 : decode cX6_init 66 = .ok (.putfield 32, 3) := by decide +kernel
theorem dX6_init_69 : decode cX6_init 69 = .ok (.aload_n 0, 1) := by decide +kernel
theorem dX6_init_70 : decode cX6_init 70 = .ok (.getfield 7, 3) := by decide +kernel
theorem dX6_init_73 : decode cX6_init 73 = .ok (.iconst 0, 1) := by decide +kernel
theorem dX6_init_74 : decode cX6_init 74 = .ok (.bipush 10, 2) := by decide +kernel
theorem dX6_init_76 : decode cX6_init 76 = .ok (.iastore, 1) := by decide +kernel
theorem dX6_init_77 : decode cX6_init 77 = .ok (.aload_n 0, 1) := by decide +kernel
theorem dX6_init_78 : decode cX6_init 78 = .ok (.getfield 7, 3) := by decide +kernel
theorem dX6_init_81 : decode cX6_init 81 = .ok (.iconst 1, 1) := by decide +kernel
theorem dX6_init_82 : decode cX6_init 82 = .ok (.iconst 5, 1) := by decide +kernel
theorem dX6_init_83 : decode cX6_init 83 = .ok (.iastore, 1) := by decide +kernel
theorem dX6_init_84 : decode cX6_init 84 = .ok (.aload_n 0, 1) := by decide +kernel
theorem dX6_init_85 : decode cX6_init 85 = .ok (.getfield 7, 3) := by decide +kernel
theorem dX6_init_88 : decode cX6_init 88 = .ok (.iconst 2, 1) := by decide +kernel
theorem dX6_init_89 : decode cX6_init 89 = .ok (.iconst 4, 1) := by decide +kernel
theorem dX6_init_90 : decode cX6_init 90 = .ok (.iastore, 1) := by decide +kernel
theorem dX6_init_91 : decode cX6_init 91 = .ok (.aload_n 0, 1) := by decide +kernel
theorem dX6_init_92 : decode cX6_init 92 = .ok (.getfield 7, 3) := by decide +kernel
theorem dX6_init_95 : decode cX6_init 95 = .ok (.iconst 3, 1) := by decide +kernel
theorem dX6_init_96 : decode cX6_init 96 = .ok (.iconst 4, 1) := by decide +kernel
theorem dX6_init_97 : decode cX6_init 97 = .ok (.iastore, 1) := by decide +kernel
theorem dX6_init_98 : decode cX6_init 98 = .ok (.iconst 0, 1) := by decide +kernel
theorem dX6_init_99 : decode cX6_init 99 = .ok (.istore_n 1, 1) := by decide +kernel
theorem dX6_init_100 : decode cX6_init 100 = .ok (.iload_n 1, 1) := by decide +kernel
theorem dX6_init_101 : decode cX6_init 101 = .ok (.iconst 3, 1) := by decide +kernel
theorem dX6_init_102 : decode cX6_init 102 = .ok (.if_icmp .ge 19, 3) := by decide +kernel
theorem dX6_init_105 : decode cX6_init 105 = .ok (.aload_n 0, 1) := by decide +kernel
theorem dX6_init_106 : decode cX6_init 106 = .ok (.getfield 7, 3) := by decide +kernel
theorem dX6_init_109 : decode cX6_init 109 = .ok (.bipush 9, 2) := by decide +kernel
theorem dX6_init_111 : decode cX6_init 111 = .ok (.iload_n 1, 1) := by decide +kernel
theorem dX6_init_112 : decode cX6_init 112 = .ok (.iadd, 1) := by decide +kernel
theorem dX6_init_113 : decode cX6_init 113 = .ok (.iconst 2, 1) := by decide +kernel
theorem dX6_init_114 : decode cX6_init 114 = .ok (.iastore, 1) := by decide +kernel
theorem dX6_init_115 : decode cX6_init 115 = .ok (.iinc 1 1, 3) := by decide +kernel
theorem dX6_init_118 : decode cX6_init 118 = .ok (.goto (-18), 3) := by decide +kernel
theorem dX6_init_121 : decode cX6_init 121 = .ok (.return_, 1) := by decide +kernel
theorem dX6_in_0 : decode cX6_in 0 = .ok (.iload_n 0, 1) := by decide +kernel
theorem dX6_in_1 : decode cX6_in 1 = .ok (.iload_n 1, 1) := by decide +kernel
theorem dX6_in_2 : decode cX6_in 2 = .ok (.if_icmp .lt 12, 3) := by decide +kernel
theorem dX6_in_5 : decode cX6_in 5 = .ok (.iload_n 0, 1) := by decide +kernel
theorem dX6_in_6 : decode cX6_in 6 = .ok (.iload_n 2, 1) := by decide +kernel
theorem dX6_in_7 : decode cX6_in 7 = .ok (.if_icmp .gt 7, 3) := by decide +kernel
theorem dX6_in_10 : decode cX6_in 10 = .ok (.iconst 1, 1) := by decide +kernel
theorem dX6_in_11 : decode cX6_in 11 = .ok (.goto 4, 3) := by decide +kernel
theorem dX6_in_14 : decode cX6_in 14 = .ok (.iconst 0, 1) := by decide +kernel
theorem dX6_in_15 : decode cX6_in 15 = .ok (.ireturn, 1) := by decide +kernel
theorem dX6_ones_0 : decode cX6_ones 0 = .ok (.iconst 0, 1) := by decide +kernel
theorem dX6_ones_1 : decode cX6_ones 1 = .ok (.istore_n 1, 1) := by decide +kernel
theorem dX6_ones_2 : decode cX6_ones 2 = .ok (.iconst 0, 1) := by decide +kernel
theorem dX6_ones_3 : decode cX6_ones 3 = .ok (.istore_n 2, 1) := by decide +kernel
theorem dX6_ones_4 : decode cX6_ones 4 = .ok (.iload_n 2, 1) := by decide +kernel
theorem dX6_ones_5 : decode cX6_ones 5 = .ok (.bipush 31, 2) := by decide +kernel
theorem dX6_ones_7 : decode cX6_ones 7 = .ok (.if_icmp .ge 17, 3) := by decide +kernel
theorem dX6_ones_10 : decode cX6_ones 10 = .ok (.iload_n 1, 1) := by decide +kernel
theorem dX6_ones_11 : decode cX6_ones 11 = .ok (.iload_n 0, 1) := by decide +kernel
theorem dX6_ones_12 : decode cX6_ones 12 = .ok (.iload_n 2, 1) := by decide +kernel
theorem dX6_ones_13 : decode cX6_ones 13 = .ok (.ishr, 1) := by decide +kernel
theorem dX6_ones_14 : decode cX6_ones 14 = .ok (.iconst 1, 1) := by decide +kernel
theorem dX6_ones_15 : decode cX6_ones 15 = .ok (.iand, 1) := by decide +kernel
theorem dX6_ones_16 : decode cX6_ones 16 = .ok (.iadd, 1) := by decide +kernel
theorem dX6_ones_17 : decode cX6_ones 17 = .ok (.istore_n 1, 1) := by decide +kernel
theorem dX6_ones_18 : decode cX6_ones 18 = .ok (.iinc 2 1, 3) := by decide +kernel
theorem dX6_ones_21 : decode cX6_ones 21 = .ok (.goto (-17), 3) := by decide +kernel
theorem dX6_ones_24 : decode cX6_ones 24 = .ok (.iload_n 1, 1) := by decide +kernel
theorem dX6_ones_25 : decode cX6_ones 25 = .ok (.ireturn, 1) := by decide +kernel
theorem dX6_ofPerson_0 : decode cX6_ofPerson 0 = .ok (.aload_n 0, 1) := by decide +kernel
theorem dX6_ofPerson_1 : decode cX6_ofPerson 1 = .ok (.getfield 7, 3) := by decide +kernel
theorem dX6_ofPerson_4 : decode cX6_ofPerson 4 = .ok (.bipush 12, 2) := by decide +kernel
theorem dX6_ofPerson_6 : decode cX6_ofPerson 6 = .ok (.iconst 4, 1) := by decide +kernel
theorem dX6_ofPerson_7 : decode cX6_ofPerson 7 = .ok (.iload_n 1, 1) := by decide +kernel
theorem dX6_ofPerson_8 : decode cX6_ofPerson 8 = .ok (.imul, 1) := by decide +kernel
theorem dX6_ofPerson_9 : decode cX6_ofPerson 9 = .ok (.iadd, 1) := by decide +kernel
theorem dX6_ofPerson_10 : decode cX6_ofPerson 10 = .ok (.iload_n 2, 1) := by decide +kernel
theorem dX6_ofPerson_11 : decode cX6_ofPerson 11 = .ok (.iadd, 1) := by decide +kernel
theorem dX6_ofPerson_12 : decode cX6_ofPerson 12 = .ok (.iaload, 1) := by decide +kernel
theorem dX6_ofPerson_13 : decode cX6_ofPerson 13 = .ok (.ireturn, 1) := by decide +kernel
theorem dX6_layPerson_0 : decode cX6_layPerson 0 = .ok (.aload_n 0, 1) := by decide +kernel
theorem dX6_layPerson_1 : decode cX6_layPerson 1 = .ok (.getfield 7, 3) := by decide +kernel
theorem dX6_layPerson_4 : decode cX6_layPerson 4 = .ok (.bipush 12, 2) := by decide +kernel
theorem dX6_layPerson_6 : decode cX6_layPerson 6 = .ok (.iconst 4, 1) := by decide +kernel
theorem dX6_layPerson_7 : decode cX6_layPerson 7 = .ok (.iload_n 1, 1) := by decide +kernel
theorem dX6_layPerson_8 : decode cX6_layPerson 8 = .ok (.imul, 1) := by decide +kernel
theorem dX6_layPerson_9 : decode cX6_layPerson 9 = .ok (.iadd, 1) := by decide +kernel
theorem dX6_layPerson_10 : decode cX6_layPerson 10 = .ok (.iload_n 2, 1) := by decide +kernel
theorem dX6_layPerson_11 : decode cX6_layPerson 11 = .ok (.iadd, 1) := by decide +kernel
theorem dX6_layPerson_12 : decode cX6_layPerson 12 = .ok (.iload_n 3, 1) := by decide +kernel
theorem dX6_layPerson_13 : decode cX6_layPerson 13 = .ok (.iastore, 1) := by decide +kernel
theorem dX6_layPerson_14 : decode cX6_layPerson 14 = .ok (.return_, 1) := by decide +kernel
theorem dX6_ofJobs_0 : decode cX6_ofJobs 0 = .ok (.aload_n 0, 1) := by decide +kernel
theorem dX6_ofJobs_1 : decode cX6_ofJobs 1 = .ok (.getfield 7, 3) := by decide +kernel
theorem dX6_ofJobs_4 : decode cX6_ofJobs 4 = .ok (.bipush 52, 2) := by decide +kernel
theorem dX6_ofJobs_6 : decode cX6_ofJobs 6 = .ok (.bipush 12, 2) := by decide +kernel
theorem dX6_ofJobs_8 : decode cX6_ofJobs 8 = .ok (.iload_n 1, 1) := by decide +kernel
theorem dX6_ofJobs_9 : decode cX6_ofJobs 9 = .ok (.imul, 1) := by decide +kernel
theorem dX6_ofJobs_10 : decode cX6_ofJobs 10 = .ok (.iadd, 1) := by decide +kernel
theorem dX6_ofJobs_11 : decode cX6_ofJobs 11 = .ok (.iload_n 2, 1) := by decide +kernel
theorem dX6_ofJobs_12 : decode cX6_ofJobs 12 = .ok (.iadd, 1) := by decide +kernel
theorem dX6_ofJobs_13 : decode cX6_ofJobs 13 = .ok (.iaload, 1) := by decide +kernel
theorem dX6_ofJobs_14 : decode cX6_ofJobs 14 = .ok (.ireturn, 1) := by decide +kernel
theorem dX6_lay_0 : decode cX6_lay 0 = .ok (.aload_n 0, 1) := by decide +kernel
theorem dX6_lay_1 : decode cX6_lay 1 = .ok (.getfield 7, 3) := by decide +kernel
theorem dX6_lay_4 : decode cX6_lay 4 = .ok (.bipush 52, 2) := by decide +kernel
theorem dX6_lay_6 : decode cX6_lay 6 = .ok (.bipush 12, 2) := by decide +kernel
theorem dX6_lay_8 : decode cX6_lay 8 = .ok (.iload_n 1, 1) := by decide +kernel
theorem dX6_lay_9 : decode cX6_lay 9 = .ok (.imul, 1) := by decide +kernel
theorem dX6_lay_10 : decode cX6_lay 10 = .ok (.iadd, 1) := by decide +kernel
theorem dX6_lay_11 : decode cX6_lay 11 = .ok (.iload_n 2, 1) := by decide +kernel
theorem dX6_lay_12 : decode cX6_lay 12 = .ok (.iadd, 1) := by decide +kernel
theorem dX6_lay_13 : decode cX6_lay 13 = .ok (.iload_n 3, 1) := by decide +kernel
theorem dX6_lay_14 : decode cX6_lay 14 = .ok (.iastore, 1) := by decide +kernel
theorem dX6_lay_15 : decode cX6_lay 15 = .ok (.return_, 1) := by decide +kernel
theorem dX6_isJob_0 : decode cX6_isJob 0 = .ok (.iload_n 1, 1) := by decide +kernel
theorem dX6_isJob_1 : decode cX6_isJob 1 = .ok (.iconst 0, 1) := by decide +kernel
theorem dX6_isJob_2 : decode cX6_isJob 2 = .ok (.aload_n 0, 1) := by decide +kernel
theorem dX6_isJob_3 : decode cX6_isJob 3 = .ok (.getfield 7, 3) := by decide +kernel
theorem dX6_isJob_6 : decode cX6_isJob 6 = .ok (.bipush 6, 2) := by decide +kernel
theorem dX6_isJob_8 : decode cX6_isJob 8 = .ok (.iaload, 1) := by decide +kernel
theorem dX6_isJob_9 : decode cX6_isJob 9 = .ok (.iconst 1, 1) := by decide +kernel
theorem dX6_isJob_10 : decode cX6_isJob 10 = .ok (.isub, 1) := by decide +kernel
theorem dX6_isJob_11 : decode cX6_isJob 11 = .ok (.invokestatic 36, 3) := by decide +kernel
theorem dX6_isJob_14 : decode cX6_isJob 14 = .ok (.ireturn, 1) := by decide +kernel
theorem dX6_isStraps_0 : decode cX6_isStraps 0 = .ok (.iload_n 0, 1) := by decide +kernel
theorem dX6_isStraps_1 : decode cX6_isStraps 1 = .ok (.bipush (-6), 2) := by decide +kernel
theorem dX6_isStraps_3 : decode cX6_isStraps 3 = .ok (.if_icmp .eq 12, 3) := by decide +kernel
theorem dX6_isStraps_6 : decode cX6_isStraps 6 = .ok (.iload_n 0, 1) := by decide +kernel
theorem dX6_isStraps_7 : decode cX6_isStraps 7 = .ok (.iconst 0, 1) := by decide +kernel
theorem dX6_isStraps_8 : decode cX6_isStraps 8 = .ok (.iconst 2, 1) := by decide +kernel
theorem dX6_isStraps_9 : decode cX6_isStraps 9 = .ok (.invokestatic 36, 3) := by decide +kernel
theorem dX6_isStraps_12 : decode cX6_isStraps 12 = .ok (.ifCond .eq 7, 3) := by decide +kernel
theorem dX6_isStraps_15 : decode cX6_isStraps 15 = .ok (.iconst 1, 1) := by decide +kernel
theorem dX6_isStraps_16 : decode cX6_isStraps 16 = .ok (.goto 4, 3) := by decide +kernel
theorem dX6_isStraps_19 : decode cX6_isStraps 19 = .ok (.iconst 0, 1) := by decide +kernel
theorem dX6_isStraps_20 : decode cX6_isStraps 20 = .ok (.ireturn, 1) := by decide +kernel
theorem dX6_records_0 : decode cX6_records 0 = .ok (.aload_n 0, 1) := by decide +kernel
theorem dX6_records_1 : decode cX6_records 1 = .ok (.getfield 40, 3) := by decide +kernel
theorem dX6_records_4 : decode cX6_records 4 = .ok (.bipush 6, 2) := by decide +kernel
theorem dX6_records_6 : decode cX6_records 6 = .ok (.if_icmp .ne 44, 3) := by decide +kernel
theorem dX6_records_9 : decode cX6_records 9 = .ok (.iconst 0, 1) := by decide +kernel
theorem dX6_records_10 : decode cX6_records 10 = .ok (.istore_n 1, 1) := by decide +kernel
theorem dX6_records_11 : decode cX6_records 11 = .ok (.iload_n 1, 1) := by decide +kernel
theorem dX6_records_12 : decode cX6_records 12 = .ok (.sipush 1220, 3) := by decide +kernel
theorem dX6_records_15 : decode cX6_records 15 = .ok (.if_icmp .ge 25, 3) := by decide +kernel
theorem dX6_records_18 : decode cX6_records 18 = .ok (.aload_n 0, 1) := by decide +kernel
theorem dX6_records_19 : decode cX6_records 19 = .ok (.getfield 16, 3) := by decide +kernel
theorem dX6_records_22 : decode cX6_records 22 = .ok (.iload_n 1, 1) := by decide +kernel
theorem dX6_records_23 : decode cX6_records 23 = .ok (.aload_n 0, 1) := by decide +kernel
theorem dX6_records_24 : decode cX6_records 24 = .ok (.getfield 16, 3) := by decide +kernel
theorem dX6_records_27 : decode cX6_records 27 = .ok (.iload_n 1, 1) := by decide +kernel
theorem dX6_records_28 : decode cX6_records 28 = .ok (.sipush 244, 3) := by decide +kernel
theorem dX6_records_31 : decode cX6_records 31 = .ok (.iadd, 1) := by decide +kernel
theorem dX6_records_32 : decode cX6_records 32 = .ok (.iaload, 1) := by decide +kernel
theorem dX6_records_33 : decode cX6_records 33 = .ok (.iastore, 1) := by decide +kernel
theorem dX6_records_34 : decode cX6_records 34 = .ok (.iinc 1 1, 3) := by decide +kernel
theorem dX6_records_37 : decode cX6_records 37 = .ok (.goto (-26), 3) := by decide +kernel
theorem dX6_records_40 : decode cX6_records 40 = .ok (.aload_n 0, 1) := by decide +kernel
theorem dX6_records_41 : decode cX6_records 41 = .ok (.dup, 1) := by decide +kernel
theorem dX6_records_42 : decode cX6_records 42 = .ok (.getfield 40, 3) := by decide +kernel
theorem dX6_records_45 : decode cX6_records 45 = .ok (.iconst 1, 1) := by decide +kernel
theorem dX6_records_46 : decode cX6_records 46 = .ok (.isub, 1) := by decide +kernel
theorem dX6_records_47 : decode cX6_records 47 = .ok (.putfield 40, 3) := by decide +kernel
theorem dX6_records_50 : decode cX6_records 50 = .ok (.iconst 0, 1) := by decide +kernel
theorem dX6_records_51 : decode cX6_records 51 = .ok (.istore_n 1, 1) := by decide +kernel
theorem dX6_records_52 : decode cX6_records 52 = .ok (.iload_n 1, 1) := by decide +kernel
theorem dX6_records_53 : decode cX6_records 53 = .ok (.sipush 244, 3) := by decide +kernel
theorem dX6_records_56 : decode cX6_records 56 = .ok (.if_icmp .ge 30, 3) := by decide +kernel
theorem dX6_records_59 : decode cX6_records 59 = .ok (.aload_n 0, 1) := by decide +kernel
theorem dX6_records_60 : decode cX6_records 60 = .ok (.getfield 16, 3) := by decide +kernel
theorem dX6_records_63 : decode cX6_records 63 = .ok (.sipush 244, 3) := by decide +kernel
theorem dX6_records_66 : decode cX6_records 66 = .ok (.aload_n 0, 1) := by decide +kernel
theorem dX6_records_67 : decode cX6_records 67 = .ok (.getfield 40, 3) := by decide +kernel
theorem dX6_records_70 : decode cX6_records 70 = .ok (.imul, 1) := by decide +kernel
theorem dX6_records_71 : decode cX6_records 71 = .ok (.iload_n 1, 1) := by decide +kernel
theorem dX6_records_72 : decode cX6_records 72 = .ok (.iadd, 1) := by decide +kernel
theorem dX6_records_73 : decode cX6_records 73 = .ok (.aload_n 0, 1) := by decide +kernel
theorem dX6_records_74 : decode cX6_records 74 = .ok (.getfield 7, 3) := by decide +kernel
theorem dX6_records_77 : decode cX6_records 77 = .ok (.iload_n 1, 1) := by decide +kernel
theorem dX6_records_78 : decode cX6_records 78 = .ok (.iaload, 1) := by decide +kernel
theorem dX6_records_79 : decode cX6_records 79 = .ok (.iastore, 1) := by decide +kernel
theorem dX6_records_80 : decode cX6_records 80 = .ok (.iinc 1 1, 3) := by decide +kernel
theorem dX6_records_83 : decode cX6_records 83 = .ok (.goto (-31), 3) := by decide +kernel
theorem dX6_records_86 : decode cX6_records 86 = .ok (.aload_n 0, 1) := by decide +kernel
theorem dX6_records_87 : decode cX6_records 87 = .ok (.dup, 1) := by decide +kernel
theorem dX6_records_88 : decode cX6_records 88 = .ok (.getfield 40, 3) := by decide +kernel
theorem dX6_records_91 : decode cX6_records 91 = .ok (.iconst 1, 1) := by decide +kernel
theorem dX6_records_92 : decode cX6_records 92 = .ok (.iadd, 1) := by decide +kernel
theorem dX6_records_93 : decode cX6_records 93 = .ok (.putfield 40, 3) := by decide +kernel
theorem dX6_records_96 : decode cX6_records 96 = .ok (.return_, 1) := by decide +kernel
theorem dX6_putAside_0 : decode cX6_putAside 0 = .ok (.iconst 0, 1) := by decide +kernel
theorem dX6_putAside_1 : decode cX6_putAside 1 = .ok (.istore_n 1, 1) := by decide +kernel
theorem dX6_putAside_2 : decode cX6_putAside 2 = .ok (.iload_n 1, 1) := by decide +kernel
theorem dX6_putAside_3 : decode cX6_putAside 3 = .ok (.sipush 244, 3) := by decide +kernel
theorem dX6_putAside_6 : decode cX6_putAside 6 = .ok (.if_icmp .ge 21, 3) := by decide +kernel
theorem dX6_putAside_9 : decode cX6_putAside 9 = .ok (.aload_n 0, 1) := by decide +kernel
theorem dX6_putAside_10 : decode cX6_putAside 10 = .ok (.getfield 13, 3) := by decide +kernel
theorem dX6_putAside_13 : decode cX6_putAside 13 = .ok (.iload_n 1, 1) := by decide +kernel
theorem dX6_putAside_14 : decode cX6_putAside 14 = .ok (.aload_n 0, 1) := by decide +kernel
theorem dX6_putAside_15 : decode cX6_putAside 15 = .ok (.getfield 7, 3) := by decide +kernel
theorem dX6_putAside_18 : decode cX6_putAside 18 = .ok (.iload_n 1, 1) := by decide +kernel
theorem dX6_putAside_19 : decode cX6_putAside 19 = .ok (.iaload, 1) := by decide +kernel
theorem dX6_putAside_20 : decode cX6_putAside 20 = .ok (.iastore, 1) := by decide +kernel
theorem dX6_putAside_21 : decode cX6_putAside 21 = .ok (.iinc 1 1, 3) := by decide +kernel
theorem dX6_putAside_24 : decode cX6_putAside 24 = .ok (.goto (-22), 3) := by decide +kernel
theorem dX6_putAside_27 : decode cX6_putAside 27 = .ok (.return_, 1) := by decide +kernel
theorem dX6_takeBack_0 : decode cX6_takeBack 0 = .ok (.iconst 0, 1) := by decide +kernel
theorem dX6_takeBack_1 : decode cX6_takeBack 1 = .ok (.istore_n 1, 1) := by decide +kernel
theorem dX6_takeBack_2 : decode cX6_takeBack 2 = .ok (.iload_n 1, 1) := by decide +kernel
theorem dX6_takeBack_3 : decode cX6_takeBack 3 = .ok (.sipush 244, 3) := by decide +kernel
theorem dX6_takeBack_6 : decode cX6_takeBack 6 = .ok (.if_icmp .ge 21, 3) := by decide +kernel
theorem dX6_takeBack_9 : decode cX6_takeBack 9 = .ok (.aload_n 0, 1) := by decide +kernel
theorem dX6_takeBack_10 : decode cX6_takeBack 10 = .ok (.getfield 7, 3) := by decide +kernel
theorem dX6_takeBack_13 : decode cX6_takeBack 13 = .ok (.iload_n 1, 1) := by decide +kernel
theorem dX6_takeBack_14 : decode cX6_takeBack 14 = .ok (.aload_n 0, 1) := by decide +kernel
theorem dX6_takeBack_15 : decode cX6_takeBack 15 = .ok (.getfield 13, 3) := by decide +kernel
theorem dX6_takeBack_18 : decode cX6_takeBack 18 = .ok (.iload_n 1, 1) := by decide +kernel
theorem dX6_takeBack_19 : decode cX6_takeBack 19 = .ok (.iaload, 1) := by decide +kernel
theorem dX6_takeBack_20 : decode cX6_takeBack 20 = .ok (.iastore, 1) := by decide +kernel
theorem dX6_takeBack_21 : decode cX6_takeBack 21 = .ok (.iinc 1 1, 3) := by decide +kernel
theorem dX6_takeBack_24 : decode cX6_takeBack 24 = .ok (.goto (-22), 3) := by decide +kernel
theorem dX6_takeBack_27 : decode cX6_takeBack 27 = .ok (.return_, 1) := by decide +kernel
theorem dX6_loadBy_0 : decode cX6_loadBy 0 = .ok (.aload_n 0, 1) := by decide +kernel
theorem dX6_loadBy_1 : decode cX6_loadBy 1 = .ok (.iload_n 1, 1) := by decide +kernel
theorem dX6_loadBy_2 : decode cX6_loadBy 2 = .ok (.iconst 0, 1) := by decide +kernel
theorem dX6_loadBy_3 : decode cX6_loadBy 3 = .ok (.invokevirtual 43, 3) := by decide +kernel
theorem dX6_loadBy_6 : decode cX6_loadBy 6 = .ok (.bipush 100, 2) := by decide +kernel
theorem dX6_loadBy_8 : decode cX6_loadBy 8 = .ok (.aload_n 0, 1) := by decide +kernel
theorem dX6_loadBy_9 : decode cX6_loadBy 9 = .ok (.getfield 7, 3) := by decide +kernel
theorem dX6_loadBy_12 : decode cX6_loadBy 12 = .ok (.iconst 0, 1) := by decide +kernel
theorem dX6_loadBy_13 : decode cX6_loadBy 13 = .ok (.iaload, 1) := by decide +kernel
theorem dX6_loadBy_14 : decode cX6_loadBy 14 = .ok (.aload_n 0, 1) := by decide +kernel
theorem dX6_loadBy_15 : decode cX6_loadBy 15 = .ok (.iload_n 1, 1) := by decide +kernel
theorem dX6_loadBy_16 : decode cX6_loadBy 16 = .ok (.iconst 1, 1) := by decide +kernel
theorem dX6_loadBy_17 : decode cX6_loadBy 17 = .ok (.invokevirtual 43, 3) := by decide +kernel
theorem dX6_loadBy_20 : decode cX6_loadBy 20 = .ok (.imul, 1) := by decide +kernel
theorem dX6_loadBy_21 : decode cX6_loadBy 21 = .ok (.iadd, 1) := by decide +kernel
theorem dX6_loadBy_22 : decode cX6_loadBy 22 = .ok (.imul, 1) := by decide +kernel
theorem dX6_loadBy_23 : decode cX6_loadBy 23 = .ok (.bipush 100, 2) := by decide +kernel
theorem dX6_loadBy_25 : decode cX6_loadBy 25 = .ok (.idiv, 1) := by decide +kernel
theorem dX6_loadBy_26 : decode cX6_loadBy 26 = .ok (.istore_n 3, 1) := by decide +kernel
theorem dX6_loadBy_27 : decode cX6_loadBy 27 = .ok (.iload_n 2, 1) := by decide +kernel
theorem dX6_loadBy_28 : decode cX6_loadBy 28 = .ok (.ifCond .ne 7, 3) := by decide +kernel
theorem dX6_loadBy_31 : decode cX6_loadBy 31 = .ok (.iconst 5, 1) := by decide +kernel
theorem dX6_loadBy_32 : decode cX6_loadBy 32 = .ok (.goto 24, 3) := by decide +kernel
theorem dX6_loadBy_35 : decode cX6_loadBy 35 = .ok (.iload_n 2, 1) := by decide +kernel
theorem dX6_loadBy_36 : decode cX6_loadBy 36 = .ok (.iconst 1, 1) := by decide +kernel
theorem dX6_loadBy_37 : decode cX6_loadBy 37 = .ok (.if_icmp .ne 8, 3) := by decide +kernel
theorem dX6_loadBy_40 : decode cX6_loadBy 40 = .ok (.bipush 10, 2) := by decide +kernel
theorem dX6_loadBy_42 : decode cX6_loadBy 42 = .ok (.goto 14, 3) := by decide +kernel
theorem dX6_loadBy_45 : decode cX6_loadBy 45 = .ok (.iload_n 2, 1) := by decide +kernel
theorem dX6_loadBy_46 : decode cX6_loadBy 46 = .ok (.iconst 2, 1) := by decide +kernel
theorem dX6_loadBy_47 : decode cX6_loadBy 47 = .ok (.if_icmp .ne 8, 3) := by decide +kernel
theorem dX6_loadBy_50 : decode cX6_loadBy 50 = .ok (.bipush 20, 2) := by decide +kernel
theorem dX6_loadBy_52 : decode cX6_loadBy 52 = .ok (.goto 4, 3) := by decide +kernel
theorem dX6_loadBy_55 : decode cX6_loadBy 55 = .ok (.iconst 0, 1) := by decide +kernel
theorem dX6_loadBy_56 : decode cX6_loadBy 56 = .ok (.istore 4, 2) := by decide +kernel
theorem dX6_loadBy_58 : decode cX6_loadBy 58 = .ok (.iload_n 2, 1) := by decide +kernel
theorem dX6_loadBy_59 : decode cX6_loadBy 59 = .ok (.bipush (-6), 2) := by decide +kernel
theorem dX6_loadBy_61 : decode cX6_loadBy 61 = .ok (.if_icmp .ne 7, 3) := by decide +kernel
theorem dX6_loadBy_64 : decode cX6_loadBy 64 = .ok (.iload_n 3, 1) := by decide +kernel
theorem dX6_loadBy_65 : decode cX6_loadBy 65 = .ok (.goto 13, 3) := by decide +kernel
theorem dX6_loadBy_68 : decode cX6_loadBy 68 = .ok (.iload_n 3, 1) := by decide +kernel
theorem dX6_loadBy_69 : decode cX6_loadBy 69 = .ok (.bipush 100, 2) := by decide +kernel
theorem dX6_loadBy_71 : decode cX6_loadBy 71 = .ok (.iload 4, 2) := by decide +kernel
theorem dX6_loadBy_73 : decode cX6_loadBy 73 = .ok (.isub, 1) := by decide +kernel
theorem dX6_loadBy_74 : decode cX6_loadBy 74 = .ok (.imul, 1) := by decide +kernel
theorem dX6_loadBy_75 : decode cX6_loadBy 75 = .ok (.bipush 100, 2) := by decide +kernel
theorem dX6_loadBy_77 : decode cX6_loadBy 77 = .ok (.idiv, 1) := by decide +kernel
theorem dX6_loadBy_78 : decode cX6_loadBy 78 = .ok (.ireturn, 1) := by decide +kernel
theorem dX6_busy_0 : decode cX6_busy 0 = .ok (.iconst 0, 1) := by decide +kernel
theorem dX6_busy_1 : decode cX6_busy 1 = .ok (.istore_n 1, 1) := by decide +kernel
theorem dX6_busy_2 : decode cX6_busy 2 = .ok (.iconst 0, 1) := by decide +kernel
theorem dX6_busy_3 : decode cX6_busy 3 = .ok (.istore_n 2, 1) := by decide +kernel
theorem dX6_busy_4 : decode cX6_busy 4 = .ok (.iload_n 2, 1) := by decide +kernel
theorem dX6_busy_5 : decode cX6_busy 5 = .ok (.aload_n 0, 1) := by decide +kernel
theorem dX6_busy_6 : decode cX6_busy 6 = .ok (.getfield 7, 3) := by decide +kernel
theorem dX6_busy_9 : decode cX6_busy 9 = .ok (.bipush 6, 2) := by decide +kernel
theorem dX6_busy_11 : decode cX6_busy 11 = .ok (.iaload, 1) := by decide +kernel
theorem dX6_busy_12 : decode cX6_busy 12 = .ok (.if_icmp .ge 33, 3) := by decide +kernel
theorem dX6_busy_15 : decode cX6_busy 15 = .ok (.iload_n 1, 1) := by decide +kernel
theorem dX6_busy_16 : decode cX6_busy 16 = .ok (.aload_n 0, 1) := by decide +kernel
theorem dX6_busy_17 : decode cX6_busy 17 = .ok (.iload_n 2, 1) := by decide +kernel
theorem dX6_busy_18 : decode cX6_busy 18 = .ok (.iconst 5, 1) := by decide +kernel
theorem dX6_busy_19 : decode cX6_busy 19 = .ok (.invokevirtual 43, 3) := by decide +kernel
theorem dX6_busy_22 : decode cX6_busy 22 = .ok (.iconst 1, 1) := by decide +kernel
theorem dX6_busy_23 : decode cX6_busy 23 = .ok (.if_icmp .ne 13, 3) := by decide +kernel
theorem dX6_busy_26 : decode cX6_busy 26 = .ok (.aload_n 0, 1) := by decide +kernel
theorem dX6_busy_27 : decode cX6_busy 27 = .ok (.iload_n 2, 1) := by decide +kernel
theorem dX6_busy_28 : decode cX6_busy 28 = .ok (.bipush 7, 2) := by decide +kernel
theorem dX6_busy_30 : decode cX6_busy 30 = .ok (.invokevirtual 43, 3) := by decide +kernel
theorem dX6_busy_33 : decode cX6_busy 33 = .ok (.goto 4, 3) := by decide +kernel
theorem dX6_busy_36 : decode cX6_busy 36 = .ok (.iconst 0, 1) := by decide +kernel
theorem dX6_busy_37 : decode cX6_busy 37 = .ok (.ior, 1) := by decide +kernel
theorem dX6_busy_38 : decode cX6_busy 38 = .ok (.istore_n 1, 1) := by decide +kernel
theorem dX6_busy_39 : decode cX6_busy 39 = .ok (.iinc 2 1, 3) := by decide +kernel
theorem dX6_busy_42 : decode cX6_busy 42 = .ok (.goto (-38), 3) := by decide +kernel
theorem dX6_busy_45 : decode cX6_busy 45 = .ok (.iload_n 1, 1) := by decide +kernel
theorem dX6_busy_46 : decode cX6_busy 46 = .ok (.ireturn, 1) := by decide +kernel
theorem dX6_freeStraps_0 : decode cX6_freeStraps 0 = .ok (.aload_n 0, 1) := by decide +kernel
theorem dX6_freeStraps_1 : decode cX6_freeStraps 1 = .ok (.getfield 7, 3) := by decide +kernel
theorem dX6_freeStraps_4 : decode cX6_freeStraps 4 = .ok (.bipush 9, 2) := by decide +kernel
theorem dX6_freeStraps_6 : decode cX6_freeStraps 6 = .ok (.iload_n 1, 1) := by decide +kernel
theorem dX6_freeStraps_7 : decode cX6_freeStraps 7 = .ok (.iadd, 1) := by decide +kernel
theorem dX6_freeStraps_8 : decode cX6_freeStraps 8 = .ok (.iaload, 1) := by decide +kernel
theorem dX6_freeStraps_9 : decode cX6_freeStraps 9 = .ok (.istore_n 2, 1) := by decide +kernel
theorem dX6_freeStraps_10 : decode cX6_freeStraps 10 = .ok (.iconst 0, 1) := by decide +kernel
theorem dX6_freeStraps_11 : decode cX6_freeStraps 11 = .ok (.istore_n 3, 1) := by decide +kernel
theorem dX6_freeStraps_12 : decode cX6_freeStraps 12 = .ok (.iload_n 3, 1) := by decide +kernel
theorem dX6_freeStraps_13 : decode cX6_freeStraps 13 = .ok (.aload_n 0, 1) := by decide +kernel
theorem dX6_freeStraps_14 : decode cX6_freeStraps 14 = .ok (.getfield 7, 3) := by decide +kernel
theorem dX6_freeStraps_17 : decode cX6_freeStraps 17 = .ok (.bipush 6, 2) := by decide +kernel
theorem dX6_freeStraps_19 : decode cX6_freeStraps 19 = .ok (.iaload, 1) := by decide +kernel
theorem dX6_freeStraps_20 : decode cX6_freeStraps 20 = .ok (.if_icmp .ge 38, 3) := by decide +kernel
theorem dX6_freeStraps_23 : decode cX6_freeStraps 23 = .ok (.iload_n 2, 1) := by decide +kernel
theorem dX6_freeStraps_24 : decode cX6_freeStraps 24 = .ok (.aload_n 0, 1) := by decide +kernel
theorem dX6_freeStraps_25 : decode cX6_freeStraps 25 = .ok (.iload_n 3, 1) := by decide +kernel
theorem dX6_freeStraps_26 : decode cX6_freeStraps 26 = .ok (.iconst 5, 1) := by decide +kernel
theorem dX6_freeStraps_27 : decode cX6_freeStraps 27 = .ok (.invokevirtual 43, 3) := by decide +kernel
theorem dX6_freeStraps_30 : decode cX6_freeStraps 30 = .ok (.iconst 1, 1) := by decide +kernel
theorem dX6_freeStraps_31 : decode cX6_freeStraps 31 = .ok (.if_icmp .ne 18, 3) := by decide +kernel
theorem dX6_freeStraps_34 : decode cX6_freeStraps 34 = .ok (.aload_n 0, 1) := by decide +kernel
theorem dX6_freeStraps_35 : decode cX6_freeStraps 35 = .ok (.iload_n 3, 1) := by decide +kernel
theorem dX6_freeStraps_36 : decode cX6_freeStraps 36 = .ok (.bipush 8, 2) := by decide +kernel
theorem dX6_freeStraps_38 : decode cX6_freeStraps 38 = .ok (.invokevirtual 43, 3) := by decide +kernel
theorem dX6_freeStraps_41 : decode cX6_freeStraps 41 = .ok (.iload_n 1, 1) := by decide +kernel
theorem dX6_freeStraps_42 : decode cX6_freeStraps 42 = .ok (.if_icmp .ne 7, 3) := by decide +kernel
theorem dX6_freeStraps_45 : decode cX6_freeStraps 45 = .ok (.iconst 1, 1) := by decide +kernel
theorem dX6_freeStraps_46 : decode cX6_freeStraps 46 = .ok (.goto 4, 3) := by decide +kernel
theorem dX6_freeStraps_49 : decode cX6_freeStraps 49 = .ok (.iconst 0, 1) := by decide +kernel
theorem dX6_freeStraps_50 : decode cX6_freeStraps 50 = .ok (.isub, 1) := by decide +kernel
theorem dX6_freeStraps_51 : decode cX6_freeStraps 51 = .ok (.istore_n 2, 1) := by decide +kernel
theorem dX6_freeStraps_52 : decode cX6_freeStraps 52 = .ok (.iinc 3 1, 3) := by decide +kernel
theorem dX6_freeStraps_55 : decode cX6_freeStraps 55 = .ok (.goto (-43), 3) := by decide +kernel
theorem dX6_freeStraps_58 : decode cX6_freeStraps 58 = .ok (.iload_n 2, 1) := by decide +kernel
theorem dX6_freeStraps_59 : decode cX6_freeStraps 59 = .ok (.ireturn, 1) := by decide +kernel
theorem dX6_strength_0 : decode cX6_strength 0 = .ok (.iconst 0, 1) := by decide +kernel
theorem dX6_strength_1 : decode cX6_strength 1 = .ok (.istore_n 2, 1) := by decide +kernel
theorem dX6_strength_2 : decode cX6_strength 2 = .ok (.iconst 0, 1) := by decide +kernel
theorem dX6_strength_3 : decode cX6_strength 3 = .ok (.istore_n 3, 1) := by decide +kernel
theorem dX6_strength_4 : decode cX6_strength 4 = .ok (.iload_n 3, 1) := by decide +kernel
theorem dX6_strength_5 : decode cX6_strength 5 = .ok (.aload_n 0, 1) := by decide +kernel
theorem dX6_strength_6 : decode cX6_strength 6 = .ok (.getfield 7, 3) := by decide +kernel
theorem dX6_strength_9 : decode cX6_strength 9 = .ok (.iconst 5, 1) := by decide +kernel
theorem dX6_strength_10 : decode cX6_strength 10 = .ok (.iaload, 1) := by decide +kernel
theorem dX6_strength_11 : decode cX6_strength 11 = .ok (.if_icmp .ge 31, 3) := by decide +kernel
theorem dX6_strength_14 : decode cX6_strength 14 = .ok (.iload_n 2, 1) := by decide +kernel
theorem dX6_strength_15 : decode cX6_strength 15 = .ok (.iload_n 1, 1) := by decide +kernel
theorem dX6_strength_16 : decode cX6_strength 16 = .ok (.iload_n 3, 1) := by decide +kernel
theorem dX6_strength_17 : decode cX6_strength 17 = .ok (.ishr, 1) := by decide +kernel
theorem dX6_strength_18 : decode cX6_strength 18 = .ok (.iconst 1, 1) := by decide +kernel
theorem dX6_strength_19 : decode cX6_strength 19 = .ok (.iand, 1) := by decide +kernel
theorem dX6_strength_20 : decode cX6_strength 20 = .ok (.iconst 1, 1) := by decide +kernel
theorem dX6_strength_21 : decode cX6_strength 21 = .ok (.if_icmp .ne 12, 3) := by decide +kernel
theorem dX6_strength_24 : decode cX6_strength 24 = .ok (.aload_n 0, 1) := by decide +kernel
theorem dX6_strength_25 : decode cX6_strength 25 = .ok (.iload_n 3, 1) := by decide +kernel
theorem dX6_strength_26 : decode cX6_strength 26 = .ok (.iconst 1, 1) := by decide +kernel
theorem dX6_strength_27 : decode cX6_strength 27 = .ok (.invokevirtual 47, 3) := by decide +kernel
theorem dX6_strength_30 : decode cX6_strength 30 = .ok (.goto 4, 3) := by decide +kernel
theorem dX6_strength_33 : decode cX6_strength 33 = .ok (.iconst 0, 1) := by decide +kernel
theorem dX6_strength_34 : decode cX6_strength 34 = .ok (.iadd, 1) := by decide +kernel
theorem dX6_strength_35 : decode cX6_strength 35 = .ok (.istore_n 2, 1) := by decide +kernel
theorem dX6_strength_36 : decode cX6_strength 36 = .ok (.iinc 3 1, 3) := by decide +kernel
theorem dX6_strength_39 : decode cX6_strength 39 = .ok (.goto (-35), 3) := by decide +kernel
theorem dX6_strength_42 : decode cX6_strength 42 = .ok (.iload_n 2, 1) := by decide +kernel
theorem dX6_strength_43 : decode cX6_strength 43 = .ok (.ireturn, 1) := by decide +kernel
theorem dX6_canHave_0 : decode cX6_canHave 0 = .ok (.iload_n 2, 1) := by decide +kernel
theorem dX6_canHave_1 : decode cX6_canHave 1 = .ok (.bipush (-6), 2) := by decide +kernel
theorem dX6_canHave_3 : decode cX6_canHave 3 = .ok (.if_icmp .eq 25, 3) := by decide +kernel
theorem dX6_canHave_6 : decode cX6_canHave 6 = .ok (.aload_n 0, 1) := by decide +kernel
theorem dX6_canHave_7 : decode cX6_canHave 7 = .ok (.iload_n 2, 1) := by decide +kernel
theorem dX6_canHave_8 : decode cX6_canHave 8 = .ok (.invokevirtual 50, 3) := by decide +kernel
theorem dX6_canHave_11 : decode cX6_canHave 11 = .ok (.ifCond .le 21, 3) := by decide +kernel
theorem dX6_canHave_14 : decode cX6_canHave 14 = .ok (.iload_n 2, 1) := by decide +kernel
theorem dX6_canHave_15 : decode cX6_canHave 15 = .ok (.iconst 2, 1) := by decide +kernel
theorem dX6_canHave_16 : decode cX6_canHave 16 = .ok (.if_icmp .ne 12, 3) := by decide +kernel
theorem dX6_canHave_19 : decode cX6_canHave 19 = .ok (.aload_n 0, 1) := by decide +kernel
theorem dX6_canHave_20 : decode cX6_canHave 20 = .ok (.iload_n 1, 1) := by decide +kernel
theorem dX6_canHave_21 : decode cX6_canHave 21 = .ok (.iconst 1, 1) := by decide +kernel
theorem dX6_canHave_22 : decode cX6_canHave 22 = .ok (.invokevirtual 43, 3) := by decide +kernel
theorem dX6_canHave_25 : decode cX6_canHave 25 = .ok (.ifCond .ne 7, 3) := by decide +kernel
theorem dX6_canHave_28 : decode cX6_canHave 28 = .ok (.iconst 1, 1) := by decide +kernel
theorem dX6_canHave_29 : decode cX6_canHave 29 = .ok (.goto 4, 3) := by decide +kernel
theorem dX6_canHave_32 : decode cX6_canHave 32 = .ok (.iconst 0, 1) := by decide +kernel
theorem dX6_canHave_33 : decode cX6_canHave 33 = .ok (.ireturn, 1) := by decide +kernel
theorem dX6_reason_0 : decode cX6_reason 0 = .ok (.aload_n 0, 1) := by decide +kernel
theorem dX6_reason_1 : decode cX6_reason 1 = .ok (.iload_n 1, 1) := by decide +kernel
theorem dX6_reason_2 : decode cX6_reason 2 = .ok (.iconst 5, 1) := by decide +kernel
theorem dX6_reason_3 : decode cX6_reason 3 = .ok (.invokevirtual 43, 3) := by decide +kernel
theorem dX6_reason_6 : decode cX6_reason 6 = .ok (.ifCond .eq 5, 3) := by decide +kernel
theorem dX6_reason_9 : decode cX6_reason 9 = .ok (.iconst 1, 1) := by decide +kernel
theorem dX6_reason_10 : decode cX6_reason 10 = .ok (.ireturn, 1) := by decide +kernel
theorem dX6_reason_11 : decode cX6_reason 11 = .ok (.iload_n 2, 1) := by decide +kernel
theorem dX6_reason_12 : decode cX6_reason 12 = .ok (.ifCond .le 28, 3) := by decide +kernel
theorem dX6_reason_15 : decode cX6_reason 15 = .ok (.iload_n 2, 1) := by decide +kernel
theorem dX6_reason_16 : decode cX6_reason 16 = .ok (.iconst 1, 1) := by decide +kernel
theorem dX6_reason_17 : decode cX6_reason 17 = .ok (.aload_n 0, 1) := by decide +kernel
theorem dX6_reason_18 : decode cX6_reason 18 = .ok (.getfield 7, 3) := by decide +kernel
theorem dX6_reason_21 : decode cX6_reason 21 = .ok (.iconst 5, 1) := by decide +kernel
theorem dX6_reason_22 : decode cX6_reason 22 = .ok (.iaload, 1) := by decide +kernel
theorem dX6_reason_23 : decode cX6_reason 23 = .ok (.ishl, 1) := by decide +kernel
theorem dX6_reason_24 : decode cX6_reason 24 = .ok (.if_icmp .ge 16, 3) := by decide +kernel
theorem dX6_reason_27 : decode cX6_reason 27 = .ok (.iload_n 2, 1) := by decide +kernel
theorem dX6_reason_28 : decode cX6_reason 28 = .ok (.invokestatic 54, 3) := by decide +kernel
theorem dX6_reason_31 : decode cX6_reason 31 = .ok (.aload_n 0, 1) := by decide +kernel
theorem dX6_reason_32 : decode cX6_reason 32 = .ok (.getfield 7, 3) := by decide +kernel
theorem dX6_reason_35 : decode cX6_reason 35 = .ok (.iconst 3, 1) := by decide +kernel
theorem dX6_reason_36 : decode cX6_reason 36 = .ok (.iaload, 1) := by decide +kernel
theorem dX6_reason_37 : decode cX6_reason 37 = .ok (.if_icmp .le 5, 3) := by decide +kernel
theorem dX6_reason_40 : decode cX6_reason 40 = .ok (.iconst 2, 1) := by decide +kernel
theorem dX6_reason_41 : decode cX6_reason 41 = .ok (.ireturn, 1) := by decide +kernel
theorem dX6_reason_42 : decode cX6_reason 42 = .ok (.iload_n 2, 1) := by decide +kernel
theorem dX6_reason_43 : decode cX6_reason 43 = .ok (.aload_n 0, 1) := by decide +kernel
theorem dX6_reason_44 : decode cX6_reason 44 = .ok (.invokevirtual 57, 3) := by decide +kernel
theorem dX6_reason_47 : decode cX6_reason 47 = .ok (.iand, 1) := by decide +kernel
theorem dX6_reason_48 : decode cX6_reason 48 = .ok (.ifCond .eq 5, 3) := by decide +kernel
theorem dX6_reason_51 : decode cX6_reason 51 = .ok (.iconst 3, 1) := by decide +kernel
theorem dX6_reason_52 : decode cX6_reason 52 = .ok (.ireturn, 1) := by decide +kernel
theorem dX6_reason_53 : decode cX6_reason 53 = .ok (.aload_n 0, 1) := by decide +kernel
theorem dX6_reason_54 : decode cX6_reason 54 = .ok (.iload_n 1, 1) := by decide +kernel
theorem dX6_reason_55 : decode cX6_reason 55 = .ok (.iload_n 3, 1) := by decide +kernel
theorem dX6_reason_56 : decode cX6_reason 56 = .ok (.invokevirtual 61, 3) := by decide +kernel
theorem dX6_reason_59 : decode cX6_reason 59 = .ok (.ifCond .ne 5, 3) := by decide +kernel
theorem dX6_reason_62 : decode cX6_reason 62 = .ok (.iconst 4, 1) := by decide +kernel
theorem dX6_reason_63 : decode cX6_reason 63 = .ok (.ireturn, 1) := by decide +kernel
theorem dX6_reason_64 : decode cX6_reason 64 = .ok (.aload_n 0, 1) := by decide +kernel
theorem dX6_reason_65 : decode cX6_reason 65 = .ok (.iload_n 2, 1) := by decide +kernel
theorem dX6_reason_66 : decode cX6_reason 66 = .ok (.invokevirtual 65, 3) := by decide +kernel
theorem dX6_reason_69 : decode cX6_reason 69 = .ok (.aload_n 0, 1) := by decide +kernel
theorem dX6_reason_70 : decode cX6_reason 70 = .ok (.iload_n 1, 1) := by decide +kernel
theorem dX6_reason_71 : decode cX6_reason 71 = .ok (.iload_n 3, 1) := by decide +kernel
theorem dX6_reason_72 : decode cX6_reason 72 = .ok (.invokevirtual 68, 3) := by decide +kernel
theorem dX6_reason_75 : decode cX6_reason 75 = .ok (.if_icmp .ge 7, 3) := by decide +kernel
theorem dX6_reason_78 : decode cX6_reason 78 = .ok (.iconst 5, 1) := by decide +kernel
theorem dX6_reason_79 : decode cX6_reason 79 = .ok (.goto 4, 3) := by decide +kernel
theorem dX6_reason_82 : decode cX6_reason 82 = .ok (.iconst 0, 1) := by decide +kernel
theorem dX6_reason_83 : decode cX6_reason 83 = .ok (.ireturn, 1) := by decide +kernel
theorem dX6_strongestBut_0 : decode cX6_strongestBut 0 = .ok (.bipush (-6), 2) := by decide +kernel
theorem dX6_strongestBut_2 : decode cX6_strongestBut 2 = .ok (.istore_n 2, 1) := by decide +kernel
theorem dX6_strongestBut_3 : decode cX6_strongestBut 3 = .ok (.iconst 0, 1) := by decide +kernel
theorem dX6_strongestBut_4 : decode cX6_strongestBut 4 = .ok (.istore_n 3, 1) := by decide +kernel
theorem dX6_strongestBut_5 : decode cX6_strongestBut 5 = .ok (.iload_n 3, 1) := by decide +kernel
theorem dX6_strongestBut_6 : decode cX6_strongestBut 6 = .ok (.aload_n 0, 1) := by decide +kernel
theorem dX6_strongestBut_7 : decode cX6_strongestBut 7 = .ok (.getfield 7, 3) := by decide +kernel
theorem dX6_strongestBut_10 : decode cX6_strongestBut 10 = .ok (.iconst 5, 1) := by decide +kernel
theorem dX6_strongestBut_11 : decode cX6_strongestBut 11 = .ok (.iaload, 1) := by decide +kernel
theorem dX6_strongestBut_12 : decode cX6_strongestBut 12 = .ok (.if_icmp .ge 56, 3) := by decide +kernel
theorem dX6_strongestBut_15 : decode cX6_strongestBut 15 = .ok (.iload_n 1, 1) := by decide +kernel
theorem dX6_strongestBut_16 : decode cX6_strongestBut 16 = .ok (.iload_n 3, 1) := by decide +kernel
theorem dX6_strongestBut_17 : decode cX6_strongestBut 17 = .ok (.ishr, 1) := by decide +kernel
theorem dX6_strongestBut_18 : decode cX6_strongestBut 18 = .ok (.iconst 1, 1) := by decide +kernel
theorem dX6_strongestBut_19 : decode cX6_strongestBut 19 = .ok (.iand, 1) := by decide +kernel
theorem dX6_strongestBut_20 : decode cX6_strongestBut 20 = .ok (.ifCond .ne 7, 3) := by decide +kernel
theorem dX6_strongestBut_23 : decode cX6_strongestBut 23 = .ok (.iconst 1, 1) := by decide +kernel
theorem dX6_strongestBut_24 : decode cX6_strongestBut 24 = .ok (.goto 4, 3) := by decide +kernel
theorem dX6_strongestBut_27 : decode cX6_strongestBut 27 = .ok (.iconst 0, 1) := by decide +kernel
theorem dX6_strongestBut_28 : decode cX6_strongestBut 28 = .ok (.istore 4, 2) := by decide +kernel
theorem dX6_strongestBut_30 : decode cX6_strongestBut 30 = .ok (.iload 4, 2) := by decide +kernel
theorem dX6_strongestBut_32 : decode cX6_strongestBut 32 = .ok (.ifCond .eq 28, 3) := by decide +kernel
theorem dX6_strongestBut_35 : decode cX6_strongestBut 35 = .ok (.iload_n 2, 1) := by decide +kernel
theorem dX6_strongestBut_36 : decode cX6_strongestBut 36 = .ok (.bipush (-6), 2) := by decide +kernel
theorem dX6_strongestBut_38 : decode cX6_strongestBut 38 = .ok (.if_icmp .eq 18, 3) := by decide +kernel
theorem dX6_strongestBut_41 : decode cX6_strongestBut 41 = .ok (.aload_n 0, 1) := by decide +kernel
theorem dX6_strongestBut_42 : decode cX6_strongestBut 42 = .ok (.iload_n 3, 1) := by decide +kernel
theorem dX6_strongestBut_43 : decode cX6_strongestBut 43 = .ok (.iconst 1, 1) := by decide +kernel
theorem dX6_strongestBut_44 : decode cX6_strongestBut 44 = .ok (.invokevirtual 47, 3) := by decide +kernel
theorem dX6_strongestBut_47 : decode cX6_strongestBut 47 = .ok (.aload_n 0, 1) := by decide +kernel
theorem dX6_strongestBut_48 : decode cX6_strongestBut 48 = .ok (.iload_n 2, 1) := by decide +kernel
theorem dX6_strongestBut_49 : decode cX6_strongestBut 49 = .ok (.iconst 1, 1) := by decide +kernel
theorem dX6_strongestBut_50 : decode cX6_strongestBut 50 = .ok (.invokevirtual 47, 3) := by decide +kernel
theorem dX6_strongestBut_53 : decode cX6_strongestBut 53 = .ok (.if_icmp .le 7, 3) := by decide +kernel
theorem dX6_strongestBut_56 : decode cX6_strongestBut 56 = .ok (.iload_n 3, 1) := by decide +kernel
theorem dX6_strongestBut_57 : decode cX6_strongestBut 57 = .ok (.goto 4, 3) := by decide +kernel
theorem dX6_strongestBut_60 : decode cX6_strongestBut 60 = .ok (.iload_n 2, 1) := by decide +kernel
theorem dX6_strongestBut_61 : decode cX6_strongestBut 61 = .ok (.istore_n 2, 1) := by decide +kernel
theorem dX6_strongestBut_62 : decode cX6_strongestBut 62 = .ok (.iinc 3 1, 3) := by decide +kernel
theorem dX6_strongestBut_65 : decode cX6_strongestBut 65 = .ok (.goto (-60), 3) := by decide +kernel
theorem dX6_strongestBut_68 : decode cX6_strongestBut 68 = .ok (.iload_n 2, 1) := by decide +kernel
theorem dX6_strongestBut_69 : decode cX6_strongestBut 69 = .ok (.ireturn, 1) := by decide +kernel
theorem dX6_crewFor_0 : decode cX6_crewFor 0 = .ok (.aload_n 0, 1) := by decide +kernel
theorem dX6_crewFor_1 : decode cX6_crewFor 1 = .ok (.iload_n 1, 1) := by decide +kernel
theorem dX6_crewFor_2 : decode cX6_crewFor 2 = .ok (.iload_n 2, 1) := by decide +kernel
theorem dX6_crewFor_3 : decode cX6_crewFor 3 = .ok (.invokevirtual 61, 3) := by decide +kernel
theorem dX6_crewFor_6 : decode cX6_crewFor 6 = .ok (.ifCond .ne 6, 3) := by decide +kernel
theorem dX6_crewFor_9 : decode cX6_crewFor 9 = .ok (.bipush (-6), 2) := by decide +kernel
theorem dX6_crewFor_11 : decode cX6_crewFor 11 = .ok (.ireturn, 1) := by decide +kernel
theorem dX6_crewFor_12 : decode cX6_crewFor 12 = .ok (.aload_n 0, 1) := by decide +kernel
theorem dX6_crewFor_13 : decode cX6_crewFor 13 = .ok (.invokevirtual 57, 3) := by decide +kernel
theorem dX6_crewFor_16 : decode cX6_crewFor 16 = .ok (.istore_n 3, 1) := by decide +kernel
theorem dX6_crewFor_17 : decode cX6_crewFor 17 = .ok (.iconst 0, 1) := by decide +kernel
theorem dX6_crewFor_18 : decode cX6_crewFor 18 = .ok (.istore 4, 2) := by decide +kernel
theorem dX6_crewFor_20 : decode cX6_crewFor 20 = .ok (.aload_n 0, 1) := by decide +kernel
theorem dX6_crewFor_21 : decode cX6_crewFor 21 = .ok (.iload_n 1, 1) := by decide +kernel
theorem dX6_crewFor_22 : decode cX6_crewFor 22 = .ok (.iload_n 2, 1) := by decide +kernel
theorem dX6_crewFor_23 : decode cX6_crewFor 23 = .ok (.invokevirtual 68, 3) := by decide +kernel
theorem dX6_crewFor_26 : decode cX6_crewFor 26 = .ok (.istore 5, 2) := by decide +kernel
theorem dX6_crewFor_28 : decode cX6_crewFor 28 = .ok (.aload_n 0, 1) := by decide +kernel
theorem dX6_crewFor_29 : decode cX6_crewFor 29 = .ok (.iload 4, 2) := by decide +kernel
theorem dX6_crewFor_31 : decode cX6_crewFor 31 = .ok (.invokevirtual 65, 3) := by decide +kernel
theorem dX6_crewFor_34 : decode cX6_crewFor 34 = .ok (.iload 5, 2) := by decide +kernel
theorem dX6_crewFor_36 : decode cX6_crewFor 36 = .ok (.if_icmp .ge 49, 3) := by decide +kernel
theorem dX6_crewFor_39 : decode cX6_crewFor 39 = .ok (.aload_n 0, 1) := by decide +kernel
theorem dX6_crewFor_40 : decode cX6_crewFor 40 = .ok (.iload_n 3, 1) := by decide +kernel
theorem dX6_crewFor_41 : decode cX6_crewFor 41 = .ok (.iload 4, 2) := by decide +kernel
theorem dX6_crewFor_43 : decode cX6_crewFor 43 = .ok (.ior, 1) := by decide +kernel
theorem dX6_crewFor_44 : decode cX6_crewFor 44 = .ok (.invokevirtual 71, 3) := by decide +kernel
theorem dX6_crewFor_47 : decode cX6_crewFor 47 = .ok (.istore 6, 2) := by decide +kernel
theorem dX6_crewFor_49 : decode cX6_crewFor 49 = .ok (.iload 6, 2) := by decide +kernel
theorem dX6_crewFor_51 : decode cX6_crewFor 51 = .ok (.bipush (-6), 2) := by decide +kernel
theorem dX6_crewFor_53 : decode cX6_crewFor 53 = .ok (.if_icmp .eq 17, 3) := by decide +kernel
theorem dX6_crewFor_56 : decode cX6_crewFor 56 = .ok (.iload 4, 2) := by decide +kernel
theorem dX6_crewFor_58 : decode cX6_crewFor 58 = .ok (.invokestatic 54, 3) := by decide +kernel
theorem dX6_crewFor_61 : decode cX6_crewFor 61 = .ok (.aload_n 0, 1) := by decide +kernel
theorem dX6_crewFor_62 : decode cX6_crewFor 62 = .ok (.getfield 7, 3) := by decide +kernel
theorem dX6_crewFor_65 : decode cX6_crewFor 65 = .ok (.iconst 3, 1) := by decide +kernel
theorem dX6_crewFor_66 : decode cX6_crewFor 66 = .ok (.iaload, 1) := by decide +kernel
theorem dX6_crewFor_67 : decode cX6_crewFor 67 = .ok (.if_icmp .ne 6, 3) := by decide +kernel
theorem dX6_crewFor_70 : decode cX6_crewFor 70 = .ok (.bipush (-6), 2) := by decide +kernel
theorem dX6_crewFor_72 : decode cX6_crewFor 72 = .ok (.ireturn, 1) := by decide +kernel
theorem dX6_crewFor_73 : decode cX6_crewFor 73 = .ok (.iload 4, 2) := by decide +kernel
theorem dX6_crewFor_75 : decode cX6_crewFor 75 = .ok (.iconst 1, 1) := by decide +kernel
theorem dX6_crewFor_76 : decode cX6_crewFor 76 = .ok (.iload 6, 2) := by decide +kernel
theorem dX6_crewFor_78 : decode cX6_crewFor 78 = .ok (.ishl, 1) := by decide +kernel
theorem dX6_crewFor_79 : decode cX6_crewFor 79 = .ok (.ior, 1) := by decide +kernel
theorem dX6_crewFor_80 : decode cX6_crewFor 80 = .ok (.istore 4, 2) := by decide +kernel
theorem dX6_crewFor_82 : decode cX6_crewFor 82 = .ok (.goto (-54), 3) := by decide +kernel
theorem dX6_crewFor_85 : decode cX6_crewFor 85 = .ok (.iload 4, 2) := by decide +kernel
theorem dX6_crewFor_87 : decode cX6_crewFor 87 = .ok (.ireturn, 1) := by decide +kernel
theorem dX6_strapsFor_0 : decode cX6_strapsFor 0 = .ok (.bipush (-6), 2) := by decide +kernel
theorem dX6_strapsFor_2 : decode cX6_strapsFor 2 = .ok (.istore_n 2, 1) := by decide +kernel
theorem dX6_strapsFor_3 : decode cX6_strapsFor 3 = .ok (.iconst 0, 1) := by decide +kernel
theorem dX6_strapsFor_4 : decode cX6_strapsFor 4 = .ok (.istore_n 3, 1) := by decide +kernel
theorem dX6_strapsFor_5 : decode cX6_strapsFor 5 = .ok (.iconst 0, 1) := by decide +kernel
theorem dX6_strapsFor_6 : decode cX6_strapsFor 6 = .ok (.istore 4, 2) := by decide +kernel
theorem dX6_strapsFor_8 : decode cX6_strapsFor 8 = .ok (.iload 4, 2) := by decide +kernel
theorem dX6_strapsFor_10 : decode cX6_strapsFor 10 = .ok (.iconst 4, 1) := by decide +kernel
theorem dX6_strapsFor_11 : decode cX6_strapsFor 11 = .ok (.if_icmp .ge 97, 3) := by decide +kernel
theorem dX6_strapsFor_14 : decode cX6_strapsFor 14 = .ok (.aload_n 0, 1) := by decide +kernel
theorem dX6_strapsFor_15 : decode cX6_strapsFor 15 = .ok (.iload_n 1, 1) := by decide +kernel
theorem dX6_strapsFor_16 : decode cX6_strapsFor 16 = .ok (.iload 4, 2) := by decide +kernel
theorem dX6_strapsFor_18 : decode cX6_strapsFor 18 = .ok (.ifCond .ne 8, 3) := by decide +kernel
theorem dX6_strapsFor_21 : decode cX6_strapsFor 21 = .ok (.bipush (-6), 2) := by decide +kernel
theorem dX6_strapsFor_23 : decode cX6_strapsFor 23 = .ok (.goto 7, 3) := by decide +kernel
theorem dX6_strapsFor_26 : decode cX6_strapsFor 26 = .ok (.iload 4, 2) := by decide +kernel
theorem dX6_strapsFor_28 : decode cX6_strapsFor 28 = .ok (.iconst 1, 1) := by decide +kernel
theorem dX6_strapsFor_29 : decode cX6_strapsFor 29 = .ok (.isub, 1) := by decide +kernel
theorem dX6_strapsFor_30 : decode cX6_strapsFor 30 = .ok (.invokevirtual 74, 3) := by decide +kernel
theorem dX6_strapsFor_33 : decode cX6_strapsFor 33 = .ok (.istore 5, 2) := by decide +kernel
theorem dX6_strapsFor_35 : decode cX6_strapsFor 35 = .ok (.iload 5, 2) := by decide +kernel
theorem dX6_strapsFor_37 : decode cX6_strapsFor 37 = .ok (.bipush (-6), 2) := by decide +kernel
theorem dX6_strapsFor_39 : decode cX6_strapsFor 39 = .ok (.if_icmp .eq 22, 3) := by decide +kernel
theorem dX6_strapsFor_42 : decode cX6_strapsFor 42 = .ok (.iload_n 2, 1) := by decide +kernel
theorem dX6_strapsFor_43 : decode cX6_strapsFor 43 = .ok (.bipush (-6), 2) := by decide +kernel
theorem dX6_strapsFor_45 : decode cX6_strapsFor 45 = .ok (.if_icmp .eq 12, 3) := by decide +kernel
theorem dX6_strapsFor_48 : decode cX6_strapsFor 48 = .ok (.iload 5, 2) := by decide +kernel
theorem dX6_strapsFor_50 : decode cX6_strapsFor 50 = .ok (.invokestatic 54, 3) := by decide +kernel
theorem dX6_strapsFor_53 : decode cX6_strapsFor 53 = .ok (.iload_n 3, 1) := by decide +kernel
theorem dX6_strapsFor_54 : decode cX6_strapsFor 54 = .ok (.if_icmp .ge 7, 3) := by decide +kernel
theorem dX6_strapsFor_57 : decode cX6_strapsFor 57 = .ok (.iconst 1, 1) := by decide +kernel
theorem dX6_strapsFor_58 : decode cX6_strapsFor 58 = .ok (.goto 4, 3) := by decide +kernel
theorem dX6_strapsFor_61 : decode cX6_strapsFor 61 = .ok (.iconst 0, 1) := by decide +kernel
theorem dX6_strapsFor_62 : decode cX6_strapsFor 62 = .ok (.istore 6, 2) := by decide +kernel
theorem dX6_strapsFor_64 : decode cX6_strapsFor 64 = .ok (.iload 6, 2) := by decide +kernel
theorem dX6_strapsFor_66 : decode cX6_strapsFor 66 = .ok (.ifCond .eq 19, 3) := by decide +kernel
theorem dX6_strapsFor_69 : decode cX6_strapsFor 69 = .ok (.iload 4, 2) := by decide +kernel
theorem dX6_strapsFor_71 : decode cX6_strapsFor 71 = .ok (.ifCond .ne 7, 3) := by decide +kernel
theorem dX6_strapsFor_74 : decode cX6_strapsFor 74 = .ok (.iconst 3, 1) := by decide +kernel
theorem dX6_strapsFor_75 : decode cX6_strapsFor 75 = .ok (.goto 11, 3) := by decide +kernel
theorem dX6_strapsFor_78 : decode cX6_strapsFor 78 = .ok (.iload 4, 2) := by decide +kernel
theorem dX6_strapsFor_80 : decode cX6_strapsFor 80 = .ok (.iconst 1, 1) := by decide +kernel
theorem dX6_strapsFor_81 : decode cX6_strapsFor 81 = .ok (.isub, 1) := by decide +kernel
theorem dX6_strapsFor_82 : decode cX6_strapsFor 82 = .ok (.goto 4, 3) := by decide +kernel
theorem dX6_strapsFor_85 : decode cX6_strapsFor 85 = .ok (.iload_n 2, 1) := by decide +kernel
theorem dX6_strapsFor_86 : decode cX6_strapsFor 86 = .ok (.istore_n 2, 1) := by decide +kernel
theorem dX6_strapsFor_87 : decode cX6_strapsFor 87 = .ok (.iload 6, 2) := by decide +kernel
theorem dX6_strapsFor_89 : decode cX6_strapsFor 89 = .ok (.ifCond .eq 11, 3) := by decide +kernel
theorem dX6_strapsFor_92 : decode cX6_strapsFor 92 = .ok (.iload 5, 2) := by decide +kernel
theorem dX6_strapsFor_94 : decode cX6_strapsFor 94 = .ok (.invokestatic 54, 3) := by decide +kernel
theorem dX6_strapsFor_97 : decode cX6_strapsFor 97 = .ok (.goto 4, 3) := by decide +kernel
theorem dX6_strapsFor_100 : decode cX6_strapsFor 100 = .ok (.iload_n 3, 1) := by decide +kernel
theorem dX6_strapsFor_101 : decode cX6_strapsFor 101 = .ok (.istore_n 3, 1) := by decide +kernel
theorem dX6_strapsFor_102 : decode cX6_strapsFor 102 = .ok (.iinc 4 1, 3) := by decide +kernel
theorem dX6_strapsFor_105 : decode cX6_strapsFor 105 = .ok (.goto (-97), 3) := by decide +kernel
theorem dX6_strapsFor_108 : decode cX6_strapsFor 108 = .ok (.iload_n 2, 1) := by decide +kernel
theorem dX6_strapsFor_109 : decode cX6_strapsFor 109 = .ok (.ireturn, 1) := by decide +kernel
theorem dX6_begins_0 : decode cX6_begins 0 = .ok (.aload_n 0, 1) := by decide +kernel
theorem dX6_begins_1 : decode cX6_begins 1 = .ok (.iload_n 1, 1) := by decide +kernel
theorem dX6_begins_2 : decode cX6_begins 2 = .ok (.iload_n 3, 1) := by decide +kernel
theorem dX6_begins_3 : decode cX6_begins 3 = .ok (.invokevirtual 68, 3) := by decide +kernel
theorem dX6_begins_6 : decode cX6_begins 6 = .ok (.istore 4, 2) := by decide +kernel
theorem dX6_begins_8 : decode cX6_begins 8 = .ok (.aload_n 0, 1) := by decide +kernel
theorem dX6_begins_9 : decode cX6_begins 9 = .ok (.iload_n 1, 1) := by decide +kernel
theorem dX6_begins_10 : decode cX6_begins 10 = .ok (.bipush 6, 2) := by decide +kernel
theorem dX6_begins_12 : decode cX6_begins 12 = .ok (.iload 4, 2) := by decide +kernel
theorem dX6_begins_14 : decode cX6_begins 14 = .ok (.invokevirtual 77, 3) := by decide +kernel
theorem dX6_begins_17 : decode cX6_begins 17 = .ok (.aload_n 0, 1) := by decide +kernel
theorem dX6_begins_18 : decode cX6_begins 18 = .ok (.iload_n 1, 1) := by decide +kernel
end
section
theorem dX6_begins_19 : decode cX6_begins 19 = .ok (.bipush 7, 2) := by decide +kernel
theorem dX6_begins_21 : decode cX6_begins 21 = .ok (.iload_n 2, 1) := by decide +kernel
theorem dX6_begins_22 : decode cX6_begins 22 = .ok (.invokevirtual 77, 3) := by decide +kernel
theorem dX6_begins_25 : decode cX6_begins 25 = .ok (.aload_n 0, 1) := by decide +kernel
theorem dX6_begins_26 : decode cX6_begins 26 = .ok (.iload_n 1, 1) := by decide +kernel
theorem dX6_begins_27 : decode cX6_begins 27 = .ok (.bipush 8, 2) := by decide +kernel
theorem dX6_begins_29 : decode cX6_begins 29 = .ok (.iload_n 3, 1) := by decide +kernel
theorem dX6_begins_30 : decode cX6_begins 30 = .ok (.invokevirtual 77, 3) := by decide +kernel
theorem dX6_begins_33 : decode cX6_begins 33 = .ok (.aload_n 0, 1) := by decide +kernel
theorem dX6_begins_34 : decode cX6_begins 34 = .ok (.iload_n 1, 1) := by decide +kernel
theorem dX6_begins_35 : decode cX6_begins 35 = .ok (.iconst 5, 1) := by decide +kernel
theorem dX6_begins_36 : decode cX6_begins 36 = .ok (.iconst 1, 1) := by decide +kernel
theorem dX6_begins_37 : decode cX6_begins 37 = .ok (.invokevirtual 77, 3) := by decide +kernel
theorem dX6_begins_40 : decode cX6_begins 40 = .ok (.iload 4, 2) := by decide +kernel
theorem dX6_begins_42 : decode cX6_begins 42 = .ok (.ireturn, 1) := by decide +kernel
theorem dX6_isAhead_0 : decode cX6_isAhead 0 = .ok (.aload_n 0, 1) := by decide +kernel
theorem dX6_isAhead_1 : decode cX6_isAhead 1 = .ok (.iload_n 2, 1) := by decide +kernel
theorem dX6_isAhead_2 : decode cX6_isAhead 2 = .ok (.iconst 3, 1) := by decide +kernel
theorem dX6_isAhead_3 : decode cX6_isAhead 3 = .ok (.invokevirtual 43, 3) := by decide +kernel
theorem dX6_isAhead_6 : decode cX6_isAhead 6 = .ok (.aload_n 0, 1) := by decide +kernel
theorem dX6_isAhead_7 : decode cX6_isAhead 7 = .ok (.iload_n 1, 1) := by decide +kernel
theorem dX6_isAhead_8 : decode cX6_isAhead 8 = .ok (.iconst 3, 1) := by decide +kernel
theorem dX6_isAhead_9 : decode cX6_isAhead 9 = .ok (.invokevirtual 43, 3) := by decide +kernel
theorem dX6_isAhead_12 : decode cX6_isAhead 12 = .ok (.isub, 1) := by decide +kernel
theorem dX6_isAhead_13 : decode cX6_isAhead 13 = .ok (.istore_n 3, 1) := by decide +kernel
theorem dX6_isAhead_14 : decode cX6_isAhead 14 = .ok (.iload_n 3, 1) := by decide +kernel
theorem dX6_isAhead_15 : decode cX6_isAhead 15 = .ok (.ifCond .ne 19, 3) := by decide +kernel
theorem dX6_isAhead_18 : decode cX6_isAhead 18 = .ok (.aload_n 0, 1) := by decide +kernel
theorem dX6_isAhead_19 : decode cX6_isAhead 19 = .ok (.iload_n 1, 1) := by decide +kernel
theorem dX6_isAhead_20 : decode cX6_isAhead 20 = .ok (.iconst 4, 1) := by decide +kernel
theorem dX6_isAhead_21 : decode cX6_isAhead 21 = .ok (.invokevirtual 43, 3) := by decide +kernel
theorem dX6_isAhead_24 : decode cX6_isAhead 24 = .ok (.aload_n 0, 1) := by decide +kernel
theorem dX6_isAhead_25 : decode cX6_isAhead 25 = .ok (.iload_n 2, 1) := by decide +kernel
theorem dX6_isAhead_26 : decode cX6_isAhead 26 = .ok (.iconst 4, 1) := by decide +kernel
theorem dX6_isAhead_27 : decode cX6_isAhead 27 = .ok (.invokevirtual 43, 3) := by decide +kernel
theorem dX6_isAhead_30 : decode cX6_isAhead 30 = .ok (.isub, 1) := by decide +kernel
theorem dX6_isAhead_31 : decode cX6_isAhead 31 = .ok (.goto 4, 3) := by decide +kernel
theorem dX6_isAhead_34 : decode cX6_isAhead 34 = .ok (.iload_n 3, 1) := by decide +kernel
theorem dX6_isAhead_35 : decode cX6_isAhead 35 = .ok (.istore_n 3, 1) := by decide +kernel
theorem dX6_isAhead_36 : decode cX6_isAhead 36 = .ok (.iload_n 3, 1) := by decide +kernel
theorem dX6_isAhead_37 : decode cX6_isAhead 37 = .ok (.ifCond .lt 12, 3) := by decide +kernel
theorem dX6_isAhead_40 : decode cX6_isAhead 40 = .ok (.iload_n 3, 1) := by decide +kernel
theorem dX6_isAhead_41 : decode cX6_isAhead 41 = .ok (.ifCond .ne 12, 3) := by decide +kernel
theorem dX6_isAhead_44 : decode cX6_isAhead 44 = .ok (.iload_n 1, 1) := by decide +kernel
theorem dX6_isAhead_45 : decode cX6_isAhead 45 = .ok (.iload_n 2, 1) := by decide +kernel
theorem dX6_isAhead_46 : decode cX6_isAhead 46 = .ok (.if_icmp .ge 7, 3) := by decide +kernel
theorem dX6_isAhead_49 : decode cX6_isAhead 49 = .ok (.iconst 1, 1) := by decide +kernel
theorem dX6_isAhead_50 : decode cX6_isAhead 50 = .ok (.goto 4, 3) := by decide +kernel
theorem dX6_isAhead_53 : decode cX6_isAhead 53 = .ok (.iconst 0, 1) := by decide +kernel
theorem dX6_isAhead_54 : decode cX6_isAhead 54 = .ok (.ireturn, 1) := by decide +kernel
theorem dX6_waitingAt_0 : decode cX6_waitingAt 0 = .ok (.iconst 0, 1) := by decide +kernel
theorem dX6_waitingAt_1 : decode cX6_waitingAt 1 = .ok (.istore_n 3, 1) := by decide +kernel
theorem dX6_waitingAt_2 : decode cX6_waitingAt 2 = .ok (.iload_n 3, 1) := by decide +kernel
theorem dX6_waitingAt_3 : decode cX6_waitingAt 3 = .ok (.aload_n 0, 1) := by decide +kernel
theorem dX6_waitingAt_4 : decode cX6_waitingAt 4 = .ok (.getfield 7, 3) := by decide +kernel
theorem dX6_waitingAt_7 : decode cX6_waitingAt 7 = .ok (.bipush 6, 2) := by decide +kernel
theorem dX6_waitingAt_9 : decode cX6_waitingAt 9 = .ok (.iaload, 1) := by decide +kernel
theorem dX6_waitingAt_10 : decode cX6_waitingAt 10 = .ok (.if_icmp .ge 115, 3) := by decide +kernel
theorem dX6_waitingAt_13 : decode cX6_waitingAt 13 = .ok (.iconst 0, 1) := by decide +kernel
theorem dX6_waitingAt_14 : decode cX6_waitingAt 14 = .ok (.istore 4, 2) := by decide +kernel
theorem dX6_waitingAt_16 : decode cX6_waitingAt 16 = .ok (.iconst 0, 1) := by decide +kernel
theorem dX6_waitingAt_17 : decode cX6_waitingAt 17 = .ok (.istore 5, 2) := by decide +kernel
theorem dX6_waitingAt_19 : decode cX6_waitingAt 19 = .ok (.iload 5, 2) := by decide +kernel
theorem dX6_waitingAt_21 : decode cX6_waitingAt 21 = .ok (.aload_n 0, 1) := by decide +kernel
theorem dX6_waitingAt_22 : decode cX6_waitingAt 22 = .ok (.getfield 7, 3) := by decide +kernel
theorem dX6_waitingAt_25 : decode cX6_waitingAt 25 = .ok (.bipush 6, 2) := by decide +kernel
theorem dX6_waitingAt_27 : decode cX6_waitingAt 27 = .ok (.iaload, 1) := by decide +kernel
theorem dX6_waitingAt_28 : decode cX6_waitingAt 28 = .ok (.if_icmp .ge 66, 3) := by decide +kernel
theorem dX6_waitingAt_31 : decode cX6_waitingAt 31 = .ok (.aload_n 0, 1) := by decide +kernel
theorem dX6_waitingAt_32 : decode cX6_waitingAt 32 = .ok (.iload 5, 2) := by decide +kernel
theorem dX6_waitingAt_34 : decode cX6_waitingAt 34 = .ok (.iconst 5, 1) := by decide +kernel
theorem dX6_waitingAt_35 : decode cX6_waitingAt 35 = .ok (.invokevirtual 43, 3) := by decide +kernel
theorem dX6_waitingAt_38 : decode cX6_waitingAt 38 = .ok (.ifCond .ne 16, 3) := by decide +kernel
theorem dX6_waitingAt_41 : decode cX6_waitingAt 41 = .ok (.iload_n 2, 1) := by decide +kernel
theorem dX6_waitingAt_42 : decode cX6_waitingAt 42 = .ok (.iload 5, 2) := by decide +kernel
theorem dX6_waitingAt_44 : decode cX6_waitingAt 44 = .ok (.ishr, 1) := by decide +kernel
theorem dX6_waitingAt_45 : decode cX6_waitingAt 45 = .ok (.iconst 1, 1) := by decide +kernel
theorem dX6_waitingAt_46 : decode cX6_waitingAt 46 = .ok (.iand, 1) := by decide +kernel
theorem dX6_waitingAt_47 : decode cX6_waitingAt 47 = .ok (.ifCond .ne 7, 3) := by decide +kernel
theorem dX6_waitingAt_50 : decode cX6_waitingAt 50 = .ok (.iconst 1, 1) := by decide +kernel
theorem dX6_waitingAt_51 : decode cX6_waitingAt 51 = .ok (.goto 4, 3) := by decide +kernel
theorem dX6_waitingAt_54 : decode cX6_waitingAt 54 = .ok (.iconst 0, 1) := by decide +kernel
theorem dX6_waitingAt_55 : decode cX6_waitingAt 55 = .ok (.istore 6, 2) := by decide +kernel
theorem dX6_waitingAt_57 : decode cX6_waitingAt 57 = .ok (.iload 4, 2) := by decide +kernel
theorem dX6_waitingAt_59 : decode cX6_waitingAt 59 = .ok (.iload 6, 2) := by decide +kernel
theorem dX6_waitingAt_61 : decode cX6_waitingAt 61 = .ok (.ifCond .eq 23, 3) := by decide +kernel
theorem dX6_waitingAt_64 : decode cX6_waitingAt 64 = .ok (.iload 5, 2) := by decide +kernel
theorem dX6_waitingAt_66 : decode cX6_waitingAt 66 = .ok (.iload_n 3, 1) := by decide +kernel
theorem dX6_waitingAt_67 : decode cX6_waitingAt 67 = .ok (.if_icmp .eq 17, 3) := by decide +kernel
theorem dX6_waitingAt_70 : decode cX6_waitingAt 70 = .ok (.aload_n 0, 1) := by decide +kernel
theorem dX6_waitingAt_71 : decode cX6_waitingAt 71 = .ok (.iload 5, 2) := by decide +kernel
theorem dX6_waitingAt_73 : decode cX6_waitingAt 73 = .ok (.iload_n 3, 1) := by decide +kernel
theorem dX6_waitingAt_74 : decode cX6_waitingAt 74 = .ok (.invokevirtual 81, 3) := by decide +kernel
theorem dX6_waitingAt_77 : decode cX6_waitingAt 77 = .ok (.ifCond .eq 7, 3) := by decide +kernel
theorem dX6_waitingAt_80 : decode cX6_waitingAt 80 = .ok (.iconst 1, 1) := by decide +kernel
theorem dX6_waitingAt_81 : decode cX6_waitingAt 81 = .ok (.goto 4, 3) := by decide +kernel
theorem dX6_waitingAt_84 : decode cX6_waitingAt 84 = .ok (.iconst 0, 1) := by decide +kernel
theorem dX6_waitingAt_85 : decode cX6_waitingAt 85 = .ok (.iadd, 1) := by decide +kernel
theorem dX6_waitingAt_86 : decode cX6_waitingAt 86 = .ok (.istore 4, 2) := by decide +kernel
theorem dX6_waitingAt_88 : decode cX6_waitingAt 88 = .ok (.iinc 5 1, 3) := by decide +kernel
theorem dX6_waitingAt_91 : decode cX6_waitingAt 91 = .ok (.goto (-72), 3) := by decide +kernel
theorem dX6_waitingAt_94 : decode cX6_waitingAt 94 = .ok (.aload_n 0, 1) := by decide +kernel
theorem dX6_waitingAt_95 : decode cX6_waitingAt 95 = .ok (.iload_n 3, 1) := by decide +kernel
theorem dX6_waitingAt_96 : decode cX6_waitingAt 96 = .ok (.iconst 5, 1) := by decide +kernel
theorem dX6_waitingAt_97 : decode cX6_waitingAt 97 = .ok (.invokevirtual 43, 3) := by decide +kernel
theorem dX6_waitingAt_100 : decode cX6_waitingAt 100 = .ok (.ifCond .ne 19, 3) := by decide +kernel
theorem dX6_waitingAt_103 : decode cX6_waitingAt 103 = .ok (.iload_n 2, 1) := by decide +kernel
theorem dX6_waitingAt_104 : decode cX6_waitingAt 104 = .ok (.iload_n 3, 1) := by decide +kernel
theorem dX6_waitingAt_105 : decode cX6_waitingAt 105 = .ok (.ishr, 1) := by decide +kernel
theorem dX6_waitingAt_106 : decode cX6_waitingAt 106 = .ok (.iconst 1, 1) := by decide +kernel
theorem dX6_waitingAt_107 : decode cX6_waitingAt 107 = .ok (.iand, 1) := by decide +kernel
theorem dX6_waitingAt_108 : decode cX6_waitingAt 108 = .ok (.ifCond .ne 11, 3) := by decide +kernel
theorem dX6_waitingAt_111 : decode cX6_waitingAt 111 = .ok (.iload 4, 2) := by decide +kernel
theorem dX6_waitingAt_113 : decode cX6_waitingAt 113 = .ok (.iload_n 1, 1) := by decide +kernel
theorem dX6_waitingAt_114 : decode cX6_waitingAt 114 = .ok (.if_icmp .ne 5, 3) := by decide +kernel
theorem dX6_waitingAt_117 : decode cX6_waitingAt 117 = .ok (.iload_n 3, 1) := by decide +kernel
theorem dX6_waitingAt_118 : decode cX6_waitingAt 118 = .ok (.ireturn, 1) := by decide +kernel
theorem dX6_waitingAt_119 : decode cX6_waitingAt 119 = .ok (.iinc 3 1, 3) := by decide +kernel
theorem dX6_waitingAt_122 : decode cX6_waitingAt 122 = .ok (.goto (-120), 3) := by decide +kernel
theorem dX6_waitingAt_125 : decode cX6_waitingAt 125 = .ok (.bipush (-6), 2) := by decide +kernel
theorem dX6_waitingAt_127 : decode cX6_waitingAt 127 = .ok (.ireturn, 1) := by decide +kernel
theorem dX6_assigns_0 : decode cX6_assigns 0 = .ok (.iconst 0, 1) := by decide +kernel
theorem dX6_assigns_1 : decode cX6_assigns 1 = .ok (.istore_n 1, 1) := by decide +kernel
theorem dX6_assigns_2 : decode cX6_assigns 2 = .ok (.iconst 0, 1) := by decide +kernel
theorem dX6_assigns_3 : decode cX6_assigns 3 = .ok (.istore_n 2, 1) := by decide +kernel
theorem dX6_assigns_4 : decode cX6_assigns 4 = .ok (.aload_n 0, 1) := by decide +kernel
theorem dX6_assigns_5 : decode cX6_assigns 5 = .ok (.iconst 0, 1) := by decide +kernel
theorem dX6_assigns_6 : decode cX6_assigns 6 = .ok (.iload_n 2, 1) := by decide +kernel
theorem dX6_assigns_7 : decode cX6_assigns 7 = .ok (.invokevirtual 84, 3) := by decide +kernel
theorem dX6_assigns_10 : decode cX6_assigns 10 = .ok (.istore_n 3, 1) := by decide +kernel
theorem dX6_assigns_11 : decode cX6_assigns 11 = .ok (.iload_n 3, 1) := by decide +kernel
theorem dX6_assigns_12 : decode cX6_assigns 12 = .ok (.bipush (-6), 2) := by decide +kernel
theorem dX6_assigns_14 : decode cX6_assigns 14 = .ok (.if_icmp .eq 69, 3) := by decide +kernel
theorem dX6_assigns_17 : decode cX6_assigns 17 = .ok (.aload_n 0, 1) := by decide +kernel
theorem dX6_assigns_18 : decode cX6_assigns 18 = .ok (.iload_n 3, 1) := by decide +kernel
theorem dX6_assigns_19 : decode cX6_assigns 19 = .ok (.invokevirtual 87, 3) := by decide +kernel
theorem dX6_assigns_22 : decode cX6_assigns 22 = .ok (.istore 4, 2) := by decide +kernel
theorem dX6_assigns_24 : decode cX6_assigns 24 = .ok (.iload 4, 2) := by decide +kernel
theorem dX6_assigns_26 : decode cX6_assigns 26 = .ok (.bipush (-6), 2) := by decide +kernel
theorem dX6_assigns_28 : decode cX6_assigns 28 = .ok (.if_icmp .eq 39, 3) := by decide +kernel
theorem dX6_assigns_31 : decode cX6_assigns 31 = .ok (.iload 4, 2) := by decide +kernel
theorem dX6_assigns_33 : decode cX6_assigns 33 = .ok (.iconst 3, 1) := by decide +kernel
theorem dX6_assigns_34 : decode cX6_assigns 34 = .ok (.if_icmp .ne 8, 3) := by decide +kernel
theorem dX6_assigns_37 : decode cX6_assigns 37 = .ok (.bipush (-6), 2) := by decide +kernel
theorem dX6_assigns_39 : decode cX6_assigns 39 = .ok (.goto 5, 3) := by decide +kernel
theorem dX6_assigns_42 : decode cX6_assigns 42 = .ok (.iload 4, 2) := by decide +kernel
theorem dX6_assigns_44 : decode cX6_assigns 44 = .ok (.istore 5, 2) := by decide +kernel
theorem dX6_assigns_46 : decode cX6_assigns 46 = .ok (.aload_n 0, 1) := by decide +kernel
theorem dX6_assigns_47 : decode cX6_assigns 47 = .ok (.iload_n 3, 1) := by decide +kernel
theorem dX6_assigns_48 : decode cX6_assigns 48 = .ok (.aload_n 0, 1) := by decide +kernel
theorem dX6_assigns_49 : decode cX6_assigns 49 = .ok (.iload_n 3, 1) := by decide +kernel
theorem dX6_assigns_50 : decode cX6_assigns 50 = .ok (.iload 5, 2) := by decide +kernel
theorem dX6_assigns_52 : decode cX6_assigns 52 = .ok (.invokevirtual 74, 3) := by decide +kernel
theorem dX6_assigns_55 : decode cX6_assigns 55 = .ok (.iload 5, 2) := by decide +kernel
theorem dX6_assigns_57 : decode cX6_assigns 57 = .ok (.invokevirtual 90, 3) := by decide +kernel
theorem dX6_assigns_60 : decode cX6_assigns 60 = .ok (.pop, 1) := by decide +kernel
theorem dX6_assigns_61 : decode cX6_assigns 61 = .ok (.iload_n 1, 1) := by decide +kernel
theorem dX6_assigns_62 : decode cX6_assigns 62 = .ok (.iconst 1, 1) := by decide +kernel
theorem dX6_assigns_63 : decode cX6_assigns 63 = .ok (.iload_n 3, 1) := by decide +kernel
theorem dX6_assigns_64 : decode cX6_assigns 64 = .ok (.ishl, 1) := by decide +kernel
theorem dX6_assigns_65 : decode cX6_assigns 65 = .ok (.ior, 1) := by decide +kernel
theorem dX6_assigns_66 : decode cX6_assigns 66 = .ok (.istore_n 1, 1) := by decide +kernel
theorem dX6_assigns_67 : decode cX6_assigns 67 = .ok (.iload_n 2, 1) := by decide +kernel
theorem dX6_assigns_68 : decode cX6_assigns 68 = .ok (.iconst 1, 1) := by decide +kernel
theorem dX6_assigns_69 : decode cX6_assigns 69 = .ok (.iload_n 3, 1) := by decide +kernel
theorem dX6_assigns_70 : decode cX6_assigns 70 = .ok (.ishl, 1) := by decide +kernel
theorem dX6_assigns_71 : decode cX6_assigns 71 = .ok (.ior, 1) := by decide +kernel
theorem dX6_assigns_72 : decode cX6_assigns 72 = .ok (.istore_n 2, 1) := by decide +kernel
theorem dX6_assigns_73 : decode cX6_assigns 73 = .ok (.aload_n 0, 1) := by decide +kernel
theorem dX6_assigns_74 : decode cX6_assigns 74 = .ok (.iconst 0, 1) := by decide +kernel
theorem dX6_assigns_75 : decode cX6_assigns 75 = .ok (.iload_n 2, 1) := by decide +kernel
theorem dX6_assigns_76 : decode cX6_assigns 76 = .ok (.invokevirtual 84, 3) := by decide +kernel
theorem dX6_assigns_79 : decode cX6_assigns 79 = .ok (.istore_n 3, 1) := by decide +kernel
theorem dX6_assigns_80 : decode cX6_assigns 80 = .ok (.goto (-69), 3) := by decide +kernel
theorem dX6_assigns_83 : decode cX6_assigns 83 = .ok (.iload_n 1, 1) := by decide +kernel
theorem dX6_assigns_84 : decode cX6_assigns 84 = .ok (.ireturn, 1) := by decide +kernel
theorem dX6_rest_0 : decode cX6_rest 0 = .ok (.iconst 0, 1) := by decide +kernel
theorem dX6_rest_1 : decode cX6_rest 1 = .ok (.istore_n 2, 1) := by decide +kernel
theorem dX6_rest_2 : decode cX6_rest 2 = .ok (.iload_n 2, 1) := by decide +kernel
theorem dX6_rest_3 : decode cX6_rest 3 = .ok (.aload_n 0, 1) := by decide +kernel
theorem dX6_rest_4 : decode cX6_rest 4 = .ok (.getfield 7, 3) := by decide +kernel
theorem dX6_rest_7 : decode cX6_rest 7 = .ok (.iconst 5, 1) := by decide +kernel
theorem dX6_rest_8 : decode cX6_rest 8 = .ok (.iaload, 1) := by decide +kernel
theorem dX6_rest_9 : decode cX6_rest 9 = .ok (.if_icmp .ge 71, 3) := by decide +kernel
theorem dX6_rest_12 : decode cX6_rest 12 = .ok (.aload_n 0, 1) := by decide +kernel
theorem dX6_rest_13 : decode cX6_rest 13 = .ok (.iload_n 2, 1) := by decide +kernel
theorem dX6_rest_14 : decode cX6_rest 14 = .ok (.iconst 1, 1) := by decide +kernel
theorem dX6_rest_15 : decode cX6_rest 15 = .ok (.invokevirtual 47, 3) := by decide +kernel
theorem dX6_rest_18 : decode cX6_rest 18 = .ok (.aload_n 0, 1) := by decide +kernel
theorem dX6_rest_19 : decode cX6_rest 19 = .ok (.getfield 7, 3) := by decide +kernel
theorem dX6_rest_22 : decode cX6_rest 22 = .ok (.iconst 1, 1) := by decide +kernel
theorem dX6_rest_23 : decode cX6_rest 23 = .ok (.iaload, 1) := by decide +kernel
theorem dX6_rest_24 : decode cX6_rest 24 = .ok (.iadd, 1) := by decide +kernel
theorem dX6_rest_25 : decode cX6_rest 25 = .ok (.istore_n 3, 1) := by decide +kernel
theorem dX6_rest_26 : decode cX6_rest 26 = .ok (.iload_n 3, 1) := by decide +kernel
theorem dX6_rest_27 : decode cX6_rest 27 = .ok (.aload_n 0, 1) := by decide +kernel
theorem dX6_rest_28 : decode cX6_rest 28 = .ok (.iload_n 2, 1) := by decide +kernel
theorem dX6_rest_29 : decode cX6_rest 29 = .ok (.iconst 0, 1) := by decide +kernel
theorem dX6_rest_30 : decode cX6_rest 30 = .ok (.invokevirtual 47, 3) := by decide +kernel
theorem dX6_rest_33 : decode cX6_rest 33 = .ok (.if_icmp .ge 7, 3) := by decide +kernel
theorem dX6_rest_36 : decode cX6_rest 36 = .ok (.iload_n 3, 1) := by decide +kernel
theorem dX6_rest_37 : decode cX6_rest 37 = .ok (.goto 9, 3) := by decide +kernel
theorem dX6_rest_40 : decode cX6_rest 40 = .ok (.aload_n 0, 1) := by decide +kernel
theorem dX6_rest_41 : decode cX6_rest 41 = .ok (.iload_n 2, 1) := by decide +kernel
theorem dX6_rest_42 : decode cX6_rest 42 = .ok (.iconst 0, 1) := by decide +kernel
theorem dX6_rest_43 : decode cX6_rest 43 = .ok (.invokevirtual 47, 3) := by decide +kernel
theorem dX6_rest_46 : decode cX6_rest 46 = .ok (.istore 4, 2) := by decide +kernel
theorem dX6_rest_48 : decode cX6_rest 48 = .ok (.aload_n 0, 1) := by decide +kernel
theorem dX6_rest_49 : decode cX6_rest 49 = .ok (.iload_n 2, 1) := by decide +kernel
theorem dX6_rest_50 : decode cX6_rest 50 = .ok (.iconst 1, 1) := by decide +kernel
theorem dX6_rest_51 : decode cX6_rest 51 = .ok (.iload_n 1, 1) := by decide +kernel
theorem dX6_rest_52 : decode cX6_rest 52 = .ok (.iload_n 2, 1) := by decide +kernel
theorem dX6_rest_53 : decode cX6_rest 53 = .ok (.ishr, 1) := by decide +kernel
theorem dX6_rest_54 : decode cX6_rest 54 = .ok (.iconst 1, 1) := by decide +kernel
theorem dX6_rest_55 : decode cX6_rest 55 = .ok (.iand, 1) := by decide +kernel
theorem dX6_rest_56 : decode cX6_rest 56 = .ok (.iconst 1, 1) := by decide +kernel
theorem dX6_rest_57 : decode cX6_rest 57 = .ok (.if_icmp .ne 8, 3) := by decide +kernel
theorem dX6_rest_60 : decode cX6_rest 60 = .ok (.iload 4, 2) := by decide +kernel
theorem dX6_rest_62 : decode cX6_rest 62 = .ok (.goto 9, 3) := by decide +kernel
theorem dX6_rest_65 : decode cX6_rest 65 = .ok (.aload_n 0, 1) := by decide +kernel
theorem dX6_rest_66 : decode cX6_rest 66 = .ok (.iload_n 2, 1) := by decide +kernel
theorem dX6_rest_67 : decode cX6_rest 67 = .ok (.iconst 1, 1) := by decide +kernel
theorem dX6_rest_68 : decode cX6_rest 68 = .ok (.invokevirtual 47, 3) := by decide +kernel
theorem dX6_rest_71 : decode cX6_rest 71 = .ok (.invokevirtual 94, 3) := by decide +kernel
theorem dX6_rest_74 : decode cX6_rest 74 = .ok (.iinc 2 1, 3) := by decide +kernel
theorem dX6_rest_77 : decode cX6_rest 77 = .ok (.goto (-75), 3) := by decide +kernel
theorem dX6_rest_80 : decode cX6_rest 80 = .ok (.return_, 1) := by decide +kernel
theorem dX6_carry_0 : decode cX6_carry 0 = .ok (.iconst 0, 1) := by decide +kernel
theorem dX6_carry_1 : decode cX6_carry 1 = .ok (.istore_n 2, 1) := by decide +kernel
theorem dX6_carry_2 : decode cX6_carry 2 = .ok (.iload_n 2, 1) := by decide +kernel
theorem dX6_carry_3 : decode cX6_carry 3 = .ok (.aload_n 0, 1) := by decide +kernel
theorem dX6_carry_4 : decode cX6_carry 4 = .ok (.getfield 7, 3) := by decide +kernel
theorem dX6_carry_7 : decode cX6_carry 7 = .ok (.iconst 5, 1) := by decide +kernel
theorem dX6_carry_8 : decode cX6_carry 8 = .ok (.iaload, 1) := by decide +kernel
theorem dX6_carry_9 : decode cX6_carry 9 = .ok (.if_icmp .ge 61, 3) := by decide +kernel
theorem dX6_carry_12 : decode cX6_carry 12 = .ok (.iload_n 1, 1) := by decide +kernel
theorem dX6_carry_13 : decode cX6_carry 13 = .ok (.iload_n 2, 1) := by decide +kernel
theorem dX6_carry_14 : decode cX6_carry 14 = .ok (.ishr, 1) := by decide +kernel
theorem dX6_carry_15 : decode cX6_carry 15 = .ok (.iconst 1, 1) := by decide +kernel
theorem dX6_carry_16 : decode cX6_carry 16 = .ok (.iand, 1) := by decide +kernel
theorem dX6_carry_17 : decode cX6_carry 17 = .ok (.iconst 1, 1) := by decide +kernel
theorem dX6_carry_18 : decode cX6_carry 18 = .ok (.if_icmp .ne 46, 3) := by decide +kernel
theorem dX6_carry_21 : decode cX6_carry 21 = .ok (.aload_n 0, 1) := by decide +kernel
theorem dX6_carry_22 : decode cX6_carry 22 = .ok (.iload_n 2, 1) := by decide +kernel
theorem dX6_carry_23 : decode cX6_carry 23 = .ok (.iconst 1, 1) := by decide +kernel
theorem dX6_carry_24 : decode cX6_carry 24 = .ok (.invokevirtual 47, 3) := by decide +kernel
theorem dX6_carry_27 : decode cX6_carry 27 = .ok (.aload_n 0, 1) := by decide +kernel
theorem dX6_carry_28 : decode cX6_carry 28 = .ok (.getfield 7, 3) := by decide +kernel
theorem dX6_carry_31 : decode cX6_carry 31 = .ok (.iconst 2, 1) := by decide +kernel
theorem dX6_carry_32 : decode cX6_carry 32 = .ok (.iaload, 1) := by decide +kernel
theorem dX6_carry_33 : decode cX6_carry 33 = .ok (.isub, 1) := by decide +kernel
theorem dX6_carry_34 : decode cX6_carry 34 = .ok (.istore_n 3, 1) := by decide +kernel
theorem dX6_carry_35 : decode cX6_carry 35 = .ok (.aload_n 0, 1) := by decide +kernel
theorem dX6_carry_36 : decode cX6_carry 36 = .ok (.iload_n 2, 1) := by decide +kernel
theorem dX6_carry_37 : decode cX6_carry 37 = .ok (.iconst 1, 1) := by decide +kernel
theorem dX6_carry_38 : decode cX6_carry 38 = .ok (.iload_n 3, 1) := by decide +kernel
theorem dX6_carry_39 : decode cX6_carry 39 = .ok (.ifCond .ge 7, 3) := by decide +kernel
theorem dX6_carry_42 : decode cX6_carry 42 = .ok (.iconst 0, 1) := by decide +kernel
theorem dX6_carry_43 : decode cX6_carry 43 = .ok (.goto 4, 3) := by decide +kernel
theorem dX6_carry_46 : decode cX6_carry 46 = .ok (.iload_n 3, 1) := by decide +kernel
theorem dX6_carry_47 : decode cX6_carry 47 = .ok (.invokevirtual 94, 3) := by decide +kernel
theorem dX6_carry_50 : decode cX6_carry 50 = .ok (.aload_n 0, 1) := by decide +kernel
theorem dX6_carry_51 : decode cX6_carry 51 = .ok (.iload_n 2, 1) := by decide +kernel
theorem dX6_carry_52 : decode cX6_carry 52 = .ok (.iconst 2, 1) := by decide +kernel
theorem dX6_carry_53 : decode cX6_carry 53 = .ok (.aload_n 0, 1) := by decide +kernel
theorem dX6_carry_54 : decode cX6_carry 54 = .ok (.iload_n 2, 1) := by decide +kernel
theorem dX6_carry_55 : decode cX6_carry 55 = .ok (.iconst 2, 1) := by decide +kernel
theorem dX6_carry_56 : decode cX6_carry 56 = .ok (.invokevirtual 47, 3) := by decide +kernel
theorem dX6_carry_59 : decode cX6_carry 59 = .ok (.iconst 1, 1) := by decide +kernel
theorem dX6_carry_60 : decode cX6_carry 60 = .ok (.iadd, 1) := by decide +kernel
theorem dX6_carry_61 : decode cX6_carry 61 = .ok (.invokevirtual 94, 3) := by decide +kernel
theorem dX6_carry_64 : decode cX6_carry 64 = .ok (.iinc 2 1, 3) := by decide +kernel
theorem dX6_carry_67 : decode cX6_carry 67 = .ok (.goto (-65), 3) := by decide +kernel
theorem dX6_carry_70 : decode cX6_carry 70 = .ok (.return_, 1) := by decide +kernel
theorem dX6_ends_0 : decode cX6_ends 0 = .ok (.aload_n 0, 1) := by decide +kernel
theorem dX6_ends_1 : decode cX6_ends 1 = .ok (.iload_n 1, 1) := by decide +kernel
theorem dX6_ends_2 : decode cX6_ends 2 = .ok (.iconst 5, 1) := by decide +kernel
theorem dX6_ends_3 : decode cX6_ends 3 = .ok (.iconst 2, 1) := by decide +kernel
theorem dX6_ends_4 : decode cX6_ends 4 = .ok (.invokevirtual 77, 3) := by decide +kernel
theorem dX6_ends_7 : decode cX6_ends 7 = .ok (.aload_n 0, 1) := by decide +kernel
theorem dX6_ends_8 : decode cX6_ends 8 = .ok (.iload_n 1, 1) := by decide +kernel
theorem dX6_ends_9 : decode cX6_ends 9 = .ok (.bipush 11, 2) := by decide +kernel
theorem dX6_ends_11 : decode cX6_ends 11 = .ok (.aload_n 0, 1) := by decide +kernel
theorem dX6_ends_12 : decode cX6_ends 12 = .ok (.getfield 7, 3) := by decide +kernel
theorem dX6_ends_15 : decode cX6_ends 15 = .ok (.iconst 4, 1) := by decide +kernel
theorem dX6_ends_16 : decode cX6_ends 16 = .ok (.iaload, 1) := by decide +kernel
theorem dX6_ends_17 : decode cX6_ends 17 = .ok (.invokevirtual 77, 3) := by decide +kernel
theorem dX6_ends_20 : decode cX6_ends 20 = .ok (.iconst 0, 1) := by decide +kernel
theorem dX6_ends_21 : decode cX6_ends 21 = .ok (.istore_n 2, 1) := by decide +kernel
theorem dX6_ends_22 : decode cX6_ends 22 = .ok (.iload_n 2, 1) := by decide +kernel
theorem dX6_ends_23 : decode cX6_ends 23 = .ok (.aload_n 0, 1) := by decide +kernel
theorem dX6_ends_24 : decode cX6_ends 24 = .ok (.getfield 7, 3) := by decide +kernel
theorem dX6_ends_27 : decode cX6_ends 27 = .ok (.iconst 5, 1) := by decide +kernel
theorem dX6_ends_28 : decode cX6_ends 28 = .ok (.iaload, 1) := by decide +kernel
theorem dX6_ends_29 : decode cX6_ends 29 = .ok (.if_icmp .ge 33, 3) := by decide +kernel
theorem dX6_ends_32 : decode cX6_ends 32 = .ok (.aload_n 0, 1) := by decide +kernel
theorem dX6_ends_33 : decode cX6_ends 33 = .ok (.iload_n 2, 1) := by decide +kernel
theorem dX6_ends_34 : decode cX6_ends 34 = .ok (.iconst 3, 1) := by decide +kernel
theorem dX6_ends_35 : decode cX6_ends 35 = .ok (.aload_n 0, 1) := by decide +kernel
theorem dX6_ends_36 : decode cX6_ends 36 = .ok (.iload_n 2, 1) := by decide +kernel
theorem dX6_ends_37 : decode cX6_ends 37 = .ok (.iconst 3, 1) := by decide +kernel
theorem dX6_ends_38 : decode cX6_ends 38 = .ok (.invokevirtual 47, 3) := by decide +kernel
theorem dX6_ends_41 : decode cX6_ends 41 = .ok (.aload_n 0, 1) := by decide +kernel
theorem dX6_ends_42 : decode cX6_ends 42 = .ok (.iload_n 1, 1) := by decide +kernel
theorem dX6_ends_43 : decode cX6_ends 43 = .ok (.bipush 7, 2) := by decide +kernel
theorem dX6_ends_45 : decode cX6_ends 45 = .ok (.invokevirtual 43, 3) := by decide +kernel
theorem dX6_ends_48 : decode cX6_ends 48 = .ok (.iload_n 2, 1) := by decide +kernel
theorem dX6_ends_49 : decode cX6_ends 49 = .ok (.ishr, 1) := by decide +kernel
theorem dX6_ends_50 : decode cX6_ends 50 = .ok (.iconst 1, 1) := by decide +kernel
theorem dX6_ends_51 : decode cX6_ends 51 = .ok (.iand, 1) := by decide +kernel
theorem dX6_ends_52 : decode cX6_ends 52 = .ok (.iadd, 1) := by decide +kernel
theorem dX6_ends_53 : decode cX6_ends 53 = .ok (.invokevirtual 94, 3) := by decide +kernel
theorem dX6_ends_56 : decode cX6_ends 56 = .ok (.iinc 2 1, 3) := by decide +kernel
theorem dX6_ends_59 : decode cX6_ends 59 = .ok (.goto (-37), 3) := by decide +kernel
theorem dX6_ends_62 : decode cX6_ends 62 = .ok (.return_, 1) := by decide +kernel
theorem dX6_works_0 : decode cX6_works 0 = .ok (.aload_n 0, 1) := by decide +kernel
theorem dX6_works_1 : decode cX6_works 1 = .ok (.iload_n 1, 1) := by decide +kernel
theorem dX6_works_2 : decode cX6_works 2 = .ok (.bipush 7, 2) := by decide +kernel
theorem dX6_works_4 : decode cX6_works 4 = .ok (.invokevirtual 43, 3) := by decide +kernel
theorem dX6_works_7 : decode cX6_works 7 = .ok (.istore_n 2, 1) := by decide +kernel
theorem dX6_works_8 : decode cX6_works 8 = .ok (.aload_n 0, 1) := by decide +kernel
theorem dX6_works_9 : decode cX6_works 9 = .ok (.iload_n 1, 1) := by decide +kernel
theorem dX6_works_10 : decode cX6_works 10 = .ok (.bipush 9, 2) := by decide +kernel
theorem dX6_works_12 : decode cX6_works 12 = .ok (.invokevirtual 43, 3) := by decide +kernel
theorem dX6_works_15 : decode cX6_works 15 = .ok (.ifCond .le 26, 3) := by decide +kernel
theorem dX6_works_18 : decode cX6_works 18 = .ok (.aload_n 0, 1) := by decide +kernel
theorem dX6_works_19 : decode cX6_works 19 = .ok (.iload_n 1, 1) := by decide +kernel
theorem dX6_works_20 : decode cX6_works 20 = .ok (.bipush 9, 2) := by decide +kernel
theorem dX6_works_22 : decode cX6_works 22 = .ok (.aload_n 0, 1) := by decide +kernel
theorem dX6_works_23 : decode cX6_works 23 = .ok (.iload_n 1, 1) := by decide +kernel
theorem dX6_works_24 : decode cX6_works 24 = .ok (.bipush 9, 2) := by decide +kernel
theorem dX6_works_26 : decode cX6_works 26 = .ok (.invokevirtual 43, 3) := by decide +kernel
theorem dX6_works_29 : decode cX6_works 29 = .ok (.iconst 1, 1) := by decide +kernel
theorem dX6_works_30 : decode cX6_works 30 = .ok (.isub, 1) := by decide +kernel
theorem dX6_works_31 : decode cX6_works 31 = .ok (.invokevirtual 77, 3) := by decide +kernel
theorem dX6_works_34 : decode cX6_works 34 = .ok (.aload_n 0, 1) := by decide +kernel
theorem dX6_works_35 : decode cX6_works 35 = .ok (.iload_n 2, 1) := by decide +kernel
theorem dX6_works_36 : decode cX6_works 36 = .ok (.invokevirtual 97, 3) := by decide +kernel
theorem dX6_works_39 : decode cX6_works 39 = .ok (.iconst 0, 1) := by decide +kernel
theorem dX6_works_40 : decode cX6_works 40 = .ok (.ireturn, 1) := by decide +kernel
theorem dX6_works_41 : decode cX6_works 41 = .ok (.aload_n 0, 1) := by decide +kernel
theorem dX6_works_42 : decode cX6_works 42 = .ok (.iload_n 2, 1) := by decide +kernel
theorem dX6_works_43 : decode cX6_works 43 = .ok (.invokevirtual 65, 3) := by decide +kernel
theorem dX6_works_46 : decode cX6_works 46 = .ok (.aload_n 0, 1) := by decide +kernel
theorem dX6_works_47 : decode cX6_works 47 = .ok (.iload_n 1, 1) := by decide +kernel
theorem dX6_works_48 : decode cX6_works 48 = .ok (.bipush 6, 2) := by decide +kernel
theorem dX6_works_50 : decode cX6_works 50 = .ok (.invokevirtual 43, 3) := by decide +kernel
theorem dX6_works_53 : decode cX6_works 53 = .ok (.if_icmp .ge 37, 3) := by decide +kernel
theorem dX6_works_56 : decode cX6_works 56 = .ok (.aload_n 0, 1) := by decide +kernel
theorem dX6_works_57 : decode cX6_works 57 = .ok (.iload_n 1, 1) := by decide +kernel
theorem dX6_works_58 : decode cX6_works 58 = .ok (.bipush 10, 2) := by decide +kernel
theorem dX6_works_60 : decode cX6_works 60 = .ok (.aload_n 0, 1) := by decide +kernel
theorem dX6_works_61 : decode cX6_works 61 = .ok (.iload_n 1, 1) := by decide +kernel
theorem dX6_works_62 : decode cX6_works 62 = .ok (.bipush 10, 2) := by decide +kernel
theorem dX6_works_64 : decode cX6_works 64 = .ok (.invokevirtual 43, 3) := by decide +kernel
theorem dX6_works_67 : decode cX6_works 67 = .ok (.iconst 1, 1) := by decide +kernel
theorem dX6_works_68 : decode cX6_works 68 = .ok (.iadd, 1) := by decide +kernel
theorem dX6_works_69 : decode cX6_works 69 = .ok (.invokevirtual 77, 3) := by decide +kernel
theorem dX6_works_72 : decode cX6_works 72 = .ok (.aload_n 0, 1) := by decide +kernel
theorem dX6_works_73 : decode cX6_works 73 = .ok (.getfield 7, 3) := by decide +kernel
theorem dX6_works_76 : decode cX6_works 76 = .ok (.bipush 8, 2) := by decide +kernel
theorem dX6_works_78 : decode cX6_works 78 = .ok (.dup2, 1) := by decide +kernel
theorem dX6_works_79 : decode cX6_works 79 = .ok (.iaload, 1) := by decide +kernel
theorem dX6_works_80 : decode cX6_works 80 = .ok (.iconst 1, 1) := by decide +kernel
theorem dX6_works_81 : decode cX6_works 81 = .ok (.iadd, 1) := by decide +kernel
theorem dX6_works_82 : decode cX6_works 82 = .ok (.iastore, 1) := by decide +kernel
theorem dX6_works_83 : decode cX6_works 83 = .ok (.aload_n 0, 1) := by decide +kernel
theorem dX6_works_84 : decode cX6_works 84 = .ok (.iload_n 2, 1) := by decide +kernel
theorem dX6_works_85 : decode cX6_works 85 = .ok (.invokevirtual 97, 3) := by decide +kernel
theorem dX6_works_88 : decode cX6_works 88 = .ok (.iconst 0, 1) := by decide +kernel
theorem dX6_works_89 : decode cX6_works 89 = .ok (.ireturn, 1) := by decide +kernel
theorem dX6_works_90 : decode cX6_works 90 = .ok (.aload_n 0, 1) := by decide +kernel
theorem dX6_works_91 : decode cX6_works 91 = .ok (.iload_n 1, 1) := by decide +kernel
theorem dX6_works_92 : decode cX6_works 92 = .ok (.iconst 2, 1) := by decide +kernel
theorem dX6_works_93 : decode cX6_works 93 = .ok (.aload_n 0, 1) := by decide +kernel
theorem dX6_works_94 : decode cX6_works 94 = .ok (.iload_n 1, 1) := by decide +kernel
theorem dX6_works_95 : decode cX6_works 95 = .ok (.iconst 2, 1) := by decide +kernel
theorem dX6_works_96 : decode cX6_works 96 = .ok (.invokevirtual 43, 3) := by decide +kernel
theorem dX6_works_99 : decode cX6_works 99 = .ok (.iconst 1, 1) := by decide +kernel
theorem dX6_works_100 : decode cX6_works 100 = .ok (.isub, 1) := by decide +kernel
theorem dX6_works_101 : decode cX6_works 101 = .ok (.invokevirtual 77, 3) := by decide +kernel
theorem dX6_works_104 : decode cX6_works 104 = .ok (.aload_n 0, 1) := by decide +kernel
theorem dX6_works_105 : decode cX6_works 105 = .ok (.getfield 7, 3) := by decide +kernel
theorem dX6_works_108 : decode cX6_works 108 = .ok (.bipush 7, 2) := by decide +kernel
theorem dX6_works_110 : decode cX6_works 110 = .ok (.dup2, 1) := by decide +kernel
theorem dX6_works_111 : decode cX6_works 111 = .ok (.iaload, 1) := by decide +kernel
theorem dX6_works_112 : decode cX6_works 112 = .ok (.iconst 1, 1) := by decide +kernel
theorem dX6_works_113 : decode cX6_works 113 = .ok (.iadd, 1) := by decide +kernel
theorem dX6_works_114 : decode cX6_works 114 = .ok (.iastore, 1) := by decide +kernel
theorem dX6_works_115 : decode cX6_works 115 = .ok (.aload_n 0, 1) := by decide +kernel
theorem dX6_works_116 : decode cX6_works 116 = .ok (.iload_n 2, 1) := by decide +kernel
theorem dX6_works_117 : decode cX6_works 117 = .ok (.invokevirtual 101, 3) := by decide +kernel
theorem dX6_works_120 : decode cX6_works 120 = .ok (.aload_n 0, 1) := by decide +kernel
theorem dX6_works_121 : decode cX6_works 121 = .ok (.iload_n 1, 1) := by decide +kernel
theorem dX6_works_122 : decode cX6_works 122 = .ok (.iconst 2, 1) := by decide +kernel
theorem dX6_works_123 : decode cX6_works 123 = .ok (.invokevirtual 43, 3) := by decide +kernel
theorem dX6_works_126 : decode cX6_works 126 = .ok (.ifCond .ne 8, 3) := by decide +kernel
theorem dX6_works_129 : decode cX6_works 129 = .ok (.aload_n 0, 1) := by decide +kernel
theorem dX6_works_130 : decode cX6_works 130 = .ok (.iload_n 1, 1) := by decide +kernel
theorem dX6_works_131 : decode cX6_works 131 = .ok (.invokevirtual 104, 3) := by decide +kernel
theorem dX6_works_134 : decode cX6_works 134 = .ok (.aload_n 0, 1) := by decide +kernel
theorem dX6_works_135 : decode cX6_works 135 = .ok (.iload_n 1, 1) := by decide +kernel
theorem dX6_works_136 : decode cX6_works 136 = .ok (.iconst 2, 1) := by decide +kernel
theorem dX6_works_137 : decode cX6_works 137 = .ok (.invokevirtual 43, 3) := by decide +kernel
theorem dX6_works_140 : decode cX6_works 140 = .ok (.ifCond .ne 7, 3) := by decide +kernel
theorem dX6_works_143 : decode cX6_works 143 = .ok (.iconst 1, 1) := by decide +kernel
theorem dX6_works_144 : decode cX6_works 144 = .ok (.goto 4, 3) := by decide +kernel
theorem dX6_works_147 : decode cX6_works 147 = .ok (.iconst 0, 1) := by decide +kernel
theorem dX6_works_148 : decode cX6_works 148 = .ok (.ireturn, 1) := by decide +kernel
theorem dX6_goesBy_0 : decode cX6_goesBy 0 = .ok (.sipush 1023, 3) := by decide +kernel
theorem dX6_goesBy_3 : decode cX6_goesBy 3 = .ok (.aload_n 0, 1) := by decide +kernel
theorem dX6_goesBy_4 : decode cX6_goesBy 4 = .ok (.invokevirtual 57, 3) := by decide +kernel
theorem dX6_goesBy_7 : decode cX6_goesBy 7 = .ok (.iconst (-1), 1) := by decide +kernel
theorem dX6_goesBy_8 : decode cX6_goesBy 8 = .ok (.ixor, 1) := by decide +kernel
theorem dX6_goesBy_9 : decode cX6_goesBy 9 = .ok (.iand, 1) := by decide +kernel
theorem dX6_goesBy_10 : decode cX6_goesBy 10 = .ok (.istore_n 1, 1) := by decide +kernel
theorem dX6_goesBy_11 : decode cX6_goesBy 11 = .ok (.iconst 0, 1) := by decide +kernel
theorem dX6_goesBy_12 : decode cX6_goesBy 12 = .ok (.istore_n 2, 1) := by decide +kernel
theorem dX6_goesBy_13 : decode cX6_goesBy 13 = .ok (.iconst 0, 1) := by decide +kernel
theorem dX6_goesBy_14 : decode cX6_goesBy 14 = .ok (.istore_n 3, 1) := by decide +kernel
theorem dX6_goesBy_15 : decode cX6_goesBy 15 = .ok (.iload_n 3, 1) := by decide +kernel
theorem dX6_goesBy_16 : decode cX6_goesBy 16 = .ok (.aload_n 0, 1) := by decide +kernel
theorem dX6_goesBy_17 : decode cX6_goesBy 17 = .ok (.getfield 7, 3) := by decide +kernel
theorem dX6_goesBy_20 : decode cX6_goesBy 20 = .ok (.bipush 6, 2) := by decide +kernel
theorem dX6_goesBy_22 : decode cX6_goesBy 22 = .ok (.iaload, 1) := by decide +kernel
theorem dX6_goesBy_23 : decode cX6_goesBy 23 = .ok (.if_icmp .ge 35, 3) := by decide +kernel
theorem dX6_goesBy_26 : decode cX6_goesBy 26 = .ok (.iload_n 2, 1) := by decide +kernel
theorem dX6_goesBy_27 : decode cX6_goesBy 27 = .ok (.aload_n 0, 1) := by decide +kernel
theorem dX6_goesBy_28 : decode cX6_goesBy 28 = .ok (.iload_n 3, 1) := by decide +kernel
theorem dX6_goesBy_29 : decode cX6_goesBy 29 = .ok (.iconst 5, 1) := by decide +kernel
theorem dX6_goesBy_30 : decode cX6_goesBy 30 = .ok (.invokevirtual 43, 3) := by decide +kernel
theorem dX6_goesBy_33 : decode cX6_goesBy 33 = .ok (.iconst 1, 1) := by decide +kernel
theorem dX6_goesBy_34 : decode cX6_goesBy 34 = .ok (.if_icmp .ne 15, 3) := by decide +kernel
theorem dX6_goesBy_37 : decode cX6_goesBy 37 = .ok (.aload_n 0, 1) := by decide +kernel
theorem dX6_goesBy_38 : decode cX6_goesBy 38 = .ok (.iload_n 3, 1) := by decide +kernel
theorem dX6_goesBy_39 : decode cX6_goesBy 39 = .ok (.invokevirtual 107, 3) := by decide +kernel
theorem dX6_goesBy_42 : decode cX6_goesBy 42 = .ok (.ifCond .eq 7, 3) := by decide +kernel
theorem dX6_goesBy_45 : decode cX6_goesBy 45 = .ok (.iconst 1, 1) := by decide +kernel
theorem dX6_goesBy_46 : decode cX6_goesBy 46 = .ok (.goto 4, 3) := by decide +kernel
theorem dX6_goesBy_49 : decode cX6_goesBy 49 = .ok (.iconst 0, 1) := by decide +kernel
theorem dX6_goesBy_50 : decode cX6_goesBy 50 = .ok (.iadd, 1) := by decide +kernel
theorem dX6_goesBy_51 : decode cX6_goesBy 51 = .ok (.istore_n 2, 1) := by decide +kernel
theorem dX6_goesBy_52 : decode cX6_goesBy 52 = .ok (.iinc 3 1, 3) := by decide +kernel
theorem dX6_goesBy_55 : decode cX6_goesBy 55 = .ok (.goto (-40), 3) := by decide +kernel
theorem dX6_goesBy_58 : decode cX6_goesBy 58 = .ok (.aload_n 0, 1) := by decide +kernel
theorem dX6_goesBy_59 : decode cX6_goesBy 59 = .ok (.iload_n 1, 1) := by decide +kernel
theorem dX6_goesBy_60 : decode cX6_goesBy 60 = .ok (.invokevirtual 97, 3) := by decide +kernel
theorem dX6_goesBy_63 : decode cX6_goesBy 63 = .ok (.aload_n 0, 1) := by decide +kernel
theorem dX6_goesBy_64 : decode cX6_goesBy 64 = .ok (.getfield 7, 3) := by decide +kernel
theorem dX6_goesBy_67 : decode cX6_goesBy 67 = .ok (.iconst 4, 1) := by decide +kernel
theorem dX6_goesBy_68 : decode cX6_goesBy 68 = .ok (.dup2, 1) := by decide +kernel
theorem dX6_goesBy_69 : decode cX6_goesBy 69 = .ok (.iaload, 1) := by decide +kernel
theorem dX6_goesBy_70 : decode cX6_goesBy 70 = .ok (.iconst 1, 1) := by decide +kernel
theorem dX6_goesBy_71 : decode cX6_goesBy 71 = .ok (.iadd, 1) := by decide +kernel
theorem dX6_goesBy_72 : decode cX6_goesBy 72 = .ok (.iastore, 1) := by decide +kernel
theorem dX6_goesBy_73 : decode cX6_goesBy 73 = .ok (.iload_n 2, 1) := by decide +kernel
theorem dX6_goesBy_74 : decode cX6_goesBy 74 = .ok (.ireturn, 1) := by decide +kernel
theorem dX6_leastOf_0 : decode cX6_leastOf 0 = .ok (.iload_n 0, 1) := by decide +kernel
theorem dX6_leastOf_1 : decode cX6_leastOf 1 = .ok (.iconst 1, 1) := by decide +kernel
theorem dX6_leastOf_2 : decode cX6_leastOf 2 = .ok (.if_icmp .eq 8, 3) := by decide +kernel
theorem dX6_leastOf_5 : decode cX6_leastOf 5 = .ok (.iload_n 0, 1) := by decide +kernel
theorem dX6_leastOf_6 : decode cX6_leastOf 6 = .ok (.iconst 3, 1) := by decide +kernel
theorem dX6_leastOf_7 : decode cX6_leastOf 7 = .ok (.if_icmp .ne 7, 3) := by decide +kernel
theorem dX6_leastOf_10 : decode cX6_leastOf 10 = .ok (.iconst 1, 1) := by decide +kernel
theorem dX6_leastOf_11 : decode cX6_leastOf 11 = .ok (.goto 4, 3) := by decide +kernel
theorem dX6_leastOf_14 : decode cX6_leastOf 14 = .ok (.iconst 0, 1) := by decide +kernel
theorem dX6_leastOf_15 : decode cX6_leastOf 15 = .ok (.ireturn, 1) := by decide +kernel
theorem dX6_mostOf_0 : decode cX6_mostOf 0 = .ok (.iload_n 0, 1) := by decide +kernel
theorem dX6_mostOf_1 : decode cX6_mostOf 1 = .ok (.ifCond .ne 8, 3) := by decide +kernel
theorem dX6_mostOf_4 : decode cX6_mostOf 4 = .ok (.bipush 50, 2) := by decide +kernel
theorem dX6_mostOf_6 : decode cX6_mostOf 6 = .ok (.goto 15, 3) := by decide +kernel
theorem dX6_mostOf_9 : decode cX6_mostOf 9 = .ok (.iload_n 0, 1) := by decide +kernel
theorem dX6_mostOf_10 : decode cX6_mostOf 10 = .ok (.iconst 3, 1) := by decide +kernel
theorem dX6_mostOf_11 : decode cX6_mostOf 11 = .ok (.if_icmp .ne 8, 3) := by decide +kernel
theorem dX6_mostOf_14 : decode cX6_mostOf 14 = .ok (.bipush 6, 2) := by decide +kernel
theorem dX6_mostOf_16 : decode cX6_mostOf 16 = .ok (.goto 5, 3) := by decide +kernel
theorem dX6_mostOf_19 : decode cX6_mostOf 19 = .ok (.bipush 20, 2) := by decide +kernel
theorem dX6_mostOf_21 : decode cX6_mostOf 21 = .ok (.ireturn, 1) := by decide +kernel
theorem dX6_set_0 : decode cX6_set 0 = .ok (.aload_n 0, 1) := by decide +kernel
theorem dX6_set_1 : decode cX6_set 1 = .ok (.iconst 0, 1) := by decide +kernel
theorem dX6_set_2 : decode cX6_set 2 = .ok (.putfield 32, 3) := by decide +kernel
theorem dX6_set_5 : decode cX6_set 5 = .ok (.iload_n 1, 1) := by decide +kernel
theorem dX6_set_6 : decode cX6_set 6 = .ok (.iconst 0, 1) := by decide +kernel
theorem dX6_set_7 : decode cX6_set 7 = .ok (.iconst 3, 1) := by decide +kernel
theorem dX6_set_8 : decode cX6_set 8 = .ok (.invokestatic 36, 3) := by decide +kernel
theorem dX6_set_11 : decode cX6_set 11 = .ok (.ifCond .eq 18, 3) := by decide +kernel
theorem dX6_set_14 : decode cX6_set 14 = .ok (.iload_n 2, 1) := by decide +kernel
theorem dX6_set_15 : decode cX6_set 15 = .ok (.iload_n 1, 1) := by decide +kernel
theorem dX6_set_16 : decode cX6_set 16 = .ok (.invokestatic 111, 3) := by decide +kernel
theorem dX6_set_19 : decode cX6_set 19 = .ok (.iload_n 1, 1) := by decide +kernel
theorem dX6_set_20 : decode cX6_set 20 = .ok (.invokestatic 114, 3) := by decide +kernel
theorem dX6_set_23 : decode cX6_set 23 = .ok (.invokestatic 36, 3) := by decide +kernel
theorem dX6_set_26 : decode cX6_set 26 = .ok (.ifCond .ne 6, 3) := by decide +kernel
theorem dX6_set_29 : decode cX6_set 29 = .ok (.bipush (-2), 2) := by decide +kernel
theorem dX6_set_31 : decode cX6_set 31 = .ok (.ireturn, 1) := by decide +kernel
theorem dX6_set_32 : decode cX6_set 32 = .ok (.aload_n 0, 1) := by decide +kernel
theorem dX6_set_33 : decode cX6_set 33 = .ok (.invokevirtual 117, 3) := by decide +kernel
theorem dX6_set_36 : decode cX6_set 36 = .ok (.aload_n 0, 1) := by decide +kernel
theorem dX6_set_37 : decode cX6_set 37 = .ok (.getfield 7, 3) := by decide +kernel
theorem dX6_set_40 : decode cX6_set 40 = .ok (.iload_n 1, 1) := by decide +kernel
theorem dX6_set_41 : decode cX6_set 41 = .ok (.iaload, 1) := by decide +kernel
theorem dX6_set_42 : decode cX6_set 42 = .ok (.istore_n 3, 1) := by decide +kernel
theorem dX6_set_43 : decode cX6_set 43 = .ok (.aload_n 0, 1) := by decide +kernel
theorem dX6_set_44 : decode cX6_set 44 = .ok (.getfield 7, 3) := by decide +kernel
theorem dX6_set_47 : decode cX6_set 47 = .ok (.iload_n 1, 1) := by decide +kernel
theorem dX6_set_48 : decode cX6_set 48 = .ok (.iload_n 2, 1) := by decide +kernel
theorem dX6_set_49 : decode cX6_set 49 = .ok (.iastore, 1) := by decide +kernel
theorem dX6_set_50 : decode cX6_set 50 = .ok (.iload_n 3, 1) := by decide +kernel
theorem dX6_set_51 : decode cX6_set 51 = .ok (.ireturn, 1) := by decide +kernel
theorem dX6_refusesPerson_0 : decode cX6_refusesPerson 0 = .ok (.iload_n 1, 1) := by decide +kernel
theorem dX6_refusesPerson_1 : decode cX6_refusesPerson 1 = .ok (.bipush 10, 2) := by decide +kernel
theorem dX6_refusesPerson_3 : decode cX6_refusesPerson 3 = .ok (.sipush 150, 3) := by decide +kernel
theorem dX6_refusesPerson_6 : decode cX6_refusesPerson 6 = .ok (.invokestatic 36, 3) := by decide +kernel
theorem dX6_refusesPerson_9 : decode cX6_refusesPerson 9 = .ok (.ifCond .ne 8, 3) := by decide +kernel
theorem dX6_refusesPerson_12 : decode cX6_refusesPerson 12 = .ok (.bipush (-2), 2) := by decide +kernel
theorem dX6_refusesPerson_14 : decode cX6_refusesPerson 14 = .ok (.goto 20, 3) := by decide +kernel
theorem dX6_refusesPerson_17 : decode cX6_refusesPerson 17 = .ok (.aload_n 0, 1) := by decide +kernel
theorem dX6_refusesPerson_18 : decode cX6_refusesPerson 18 = .ok (.getfield 7, 3) := by decide +kernel
theorem dX6_refusesPerson_21 : decode cX6_refusesPerson 21 = .ok (.iconst 5, 1) := by decide +kernel
theorem dX6_refusesPerson_22 : decode cX6_refusesPerson 22 = .ok (.iaload, 1) := by decide +kernel
theorem dX6_refusesPerson_23 : decode cX6_refusesPerson 23 = .ok (.bipush 10, 2) := by decide +kernel
theorem dX6_refusesPerson_25 : decode cX6_refusesPerson 25 = .ok (.if_icmp .ne 8, 3) := by decide +kernel
theorem dX6_refusesPerson_28 : decode cX6_refusesPerson 28 = .ok (.bipush (-4), 2) := by decide +kernel
theorem dX6_refusesPerson_30 : decode cX6_refusesPerson 30 = .ok (.goto 4, 3) := by decide +kernel
theorem dX6_refusesPerson_33 : decode cX6_refusesPerson 33 = .ok (.iconst 0, 1) := by decide +kernel
theorem dX6_refusesPerson_34 : decode cX6_refusesPerson 34 = .ok (.ireturn, 1) := by decide +kernel
theorem dX6_addsPerson_0 : decode cX6_addsPerson 0 = .ok (.aload_n 0, 1) := by decide +kernel
theorem dX6_addsPerson_1 : decode cX6_addsPerson 1 = .ok (.getfield 7, 3) := by decide +kernel
theorem dX6_addsPerson_4 : decode cX6_addsPerson 4 = .ok (.iconst 5, 1) := by decide +kernel
theorem dX6_addsPerson_5 : decode cX6_addsPerson 5 = .ok (.iaload, 1) := by decide +kernel
theorem dX6_addsPerson_6 : decode cX6_addsPerson 6 = .ok (.istore_n 2, 1) := by decide +kernel
theorem dX6_addsPerson_7 : decode cX6_addsPerson 7 = .ok (.aload_n 0, 1) := by decide +kernel
theorem dX6_addsPerson_8 : decode cX6_addsPerson 8 = .ok (.iload_n 2, 1) := by decide +kernel
theorem dX6_addsPerson_9 : decode cX6_addsPerson 9 = .ok (.iconst 0, 1) := by decide +kernel
theorem dX6_addsPerson_10 : decode cX6_addsPerson 10 = .ok (.iload_n 1, 1) := by decide +kernel
theorem dX6_addsPerson_11 : decode cX6_addsPerson 11 = .ok (.invokevirtual 94, 3) := by decide +kernel
theorem dX6_addsPerson_14 : decode cX6_addsPerson 14 = .ok (.aload_n 0, 1) := by decide +kernel
theorem dX6_addsPerson_15 : decode cX6_addsPerson 15 = .ok (.iload_n 2, 1) := by decide +kernel
theorem dX6_addsPerson_16 : decode cX6_addsPerson 16 = .ok (.iconst 1, 1) := by decide +kernel
theorem dX6_addsPerson_17 : decode cX6_addsPerson 17 = .ok (.iload_n 1, 1) := by decide +kernel
theorem dX6_addsPerson_18 : decode cX6_addsPerson 18 = .ok (.invokevirtual 94, 3) := by decide +kernel
theorem dX6_addsPerson_21 : decode cX6_addsPerson 21 = .ok (.aload_n 0, 1) := by decide +kernel
theorem dX6_addsPerson_22 : decode cX6_addsPerson 22 = .ok (.getfield 7, 3) := by decide +kernel
theorem dX6_addsPerson_25 : decode cX6_addsPerson 25 = .ok (.iconst 5, 1) := by decide +kernel
theorem dX6_addsPerson_26 : decode cX6_addsPerson 26 = .ok (.dup2, 1) := by decide +kernel
theorem dX6_addsPerson_27 : decode cX6_addsPerson 27 = .ok (.iaload, 1) := by decide +kernel
theorem dX6_addsPerson_28 : decode cX6_addsPerson 28 = .ok (.iconst 1, 1) := by decide +kernel
theorem dX6_addsPerson_29 : decode cX6_addsPerson 29 = .ok (.iadd, 1) := by decide +kernel
theorem dX6_addsPerson_30 : decode cX6_addsPerson 30 = .ok (.iastore, 1) := by decide +kernel
theorem dX6_addsPerson_31 : decode cX6_addsPerson 31 = .ok (.iload_n 2, 1) := by decide +kernel
theorem dX6_addsPerson_32 : decode cX6_addsPerson 32 = .ok (.ireturn, 1) := by decide +kernel
theorem dX6_person_0 : decode cX6_person 0 = .ok (.aload_n 0, 1) := by decide +kernel
theorem dX6_person_1 : decode cX6_person 1 = .ok (.iconst 0, 1) := by decide +kernel
theorem dX6_person_2 : decode cX6_person 2 = .ok (.putfield 32, 3) := by decide +kernel
theorem dX6_person_5 : decode cX6_person 5 = .ok (.aload_n 0, 1) := by decide +kernel
theorem dX6_person_6 : decode cX6_person 6 = .ok (.iload_n 1, 1) := by decide +kernel
theorem dX6_person_7 : decode cX6_person 7 = .ok (.invokevirtual 120, 3) := by decide +kernel
theorem dX6_person_10 : decode cX6_person 10 = .ok (.istore_n 2, 1) := by decide +kernel
theorem dX6_person_11 : decode cX6_person 11 = .ok (.iload_n 2, 1) := by decide +kernel
theorem dX6_person_12 : decode cX6_person 12 = .ok (.ifCond .eq 5, 3) := by decide +kernel
theorem dX6_person_15 : decode cX6_person 15 = .ok (.iload_n 2, 1) := by decide +kernel
theorem dX6_person_16 : decode cX6_person 16 = .ok (.ireturn, 1) := by decide +kernel
theorem dX6_person_17 : decode cX6_person 17 = .ok (.aload_n 0, 1) := by decide +kernel
theorem dX6_person_18 : decode cX6_person 18 = .ok (.invokevirtual 117, 3) := by decide +kernel
theorem dX6_person_21 : decode cX6_person 21 = .ok (.aload_n 0, 1) := by decide +kernel
theorem dX6_person_22 : decode cX6_person 22 = .ok (.iload_n 1, 1) := by decide +kernel
theorem dX6_person_23 : decode cX6_person 23 = .ok (.invokevirtual 123, 3) := by decide +kernel
theorem dX6_person_26 : decode cX6_person 26 = .ok (.ireturn, 1) := by decide +kernel
theorem dX6_buy_0 : decode cX6_buy 0 = .ok (.aload_n 0, 1) := by decide +kernel
theorem dX6_buy_1 : decode cX6_buy 1 = .ok (.iconst 0, 1) := by decide +kernel
theorem dX6_buy_2 : decode cX6_buy 2 = .ok (.putfield 32, 3) := by decide +kernel
theorem dX6_buy_5 : decode cX6_buy 5 = .ok (.iload_n 1, 1) := by decide +kernel
theorem dX6_buy_6 : decode cX6_buy 6 = .ok (.iconst 0, 1) := by decide +kernel
theorem dX6_buy_7 : decode cX6_buy 7 = .ok (.iconst 2, 1) := by decide +kernel
theorem dX6_buy_8 : decode cX6_buy 8 = .ok (.invokestatic 36, 3) := by decide +kernel
theorem dX6_buy_11 : decode cX6_buy 11 = .ok (.ifCond .ne 5, 3) := by decide +kernel
theorem dX6_buy_14 : decode cX6_buy 14 = .ok (.iconst (-1), 1) := by decide +kernel
theorem dX6_buy_15 : decode cX6_buy 15 = .ok (.ireturn, 1) := by decide +kernel
theorem dX6_buy_16 : decode cX6_buy 16 = .ok (.aload_n 0, 1) := by decide +kernel
theorem dX6_buy_17 : decode cX6_buy 17 = .ok (.getfield 7, 3) := by decide +kernel
theorem dX6_buy_20 : decode cX6_buy 20 = .ok (.bipush 9, 2) := by decide +kernel
theorem dX6_buy_22 : decode cX6_buy 22 = .ok (.iload_n 1, 1) := by decide +kernel
theorem dX6_buy_23 : decode cX6_buy 23 = .ok (.iadd, 1) := by decide +kernel
theorem dX6_buy_24 : decode cX6_buy 24 = .ok (.iaload, 1) := by decide +kernel
theorem dX6_buy_25 : decode cX6_buy 25 = .ok (.bipush 9, 2) := by decide +kernel
theorem dX6_buy_27 : decode cX6_buy 27 = .ok (.if_icmp .ne 6, 3) := by decide +kernel
theorem dX6_buy_30 : decode cX6_buy 30 = .ok (.bipush (-4), 2) := by decide +kernel
theorem dX6_buy_32 : decode cX6_buy 32 = .ok (.ireturn, 1) := by decide +kernel
theorem dX6_buy_33 : decode cX6_buy 33 = .ok (.aload_n 0, 1) := by decide +kernel
theorem dX6_buy_34 : decode cX6_buy 34 = .ok (.invokevirtual 117, 3) := by decide +kernel
theorem dX6_buy_37 : decode cX6_buy 37 = .ok (.aload_n 0, 1) := by decide +kernel
theorem dX6_buy_38 : decode cX6_buy 38 = .ok (.getfield 7, 3) := by decide +kernel
theorem dX6_buy_41 : decode cX6_buy 41 = .ok (.bipush 9, 2) := by decide +kernel
theorem dX6_buy_43 : decode cX6_buy 43 = .ok (.iload_n 1, 1) := by decide +kernel
theorem dX6_buy_44 : decode cX6_buy 44 = .ok (.iadd, 1) := by decide +kernel
theorem dX6_buy_45 : decode cX6_buy 45 = .ok (.dup2, 1) := by decide +kernel
theorem dX6_buy_46 : decode cX6_buy 46 = .ok (.iaload, 1) := by decide +kernel
theorem dX6_buy_47 : decode cX6_buy 47 = .ok (.iconst 1, 1) := by decide +kernel
theorem dX6_buy_48 : decode cX6_buy 48 = .ok (.iadd, 1) := by decide +kernel
theorem dX6_buy_49 : decode cX6_buy 49 = .ok (.iastore, 1) := by decide +kernel
theorem dX6_buy_50 : decode cX6_buy 50 = .ok (.aload_n 0, 1) := by decide +kernel
theorem dX6_buy_51 : decode cX6_buy 51 = .ok (.getfield 7, 3) := by decide +kernel
theorem dX6_buy_54 : decode cX6_buy 54 = .ok (.bipush 9, 2) := by decide +kernel
theorem dX6_buy_56 : decode cX6_buy 56 = .ok (.iload_n 1, 1) := by decide +kernel
theorem dX6_buy_57 : decode cX6_buy 57 = .ok (.iadd, 1) := by decide +kernel
theorem dX6_buy_58 : decode cX6_buy 58 = .ok (.iaload, 1) := by decide +kernel
theorem dX6_buy_59 : decode cX6_buy 59 = .ok (.ireturn, 1) := by decide +kernel
theorem dX6_refusesJob_0 : decode cX6_refusesJob 0 = .ok (.iload_n 1, 1) := by decide +kernel
theorem dX6_refusesJob_1 : decode cX6_refusesJob 1 = .ok (.bipush 50, 2) := by decide +kernel
theorem dX6_refusesJob_3 : decode cX6_refusesJob 3 = .ok (.sipush 600, 3) := by decide +kernel
theorem dX6_refusesJob_6 : decode cX6_refusesJob 6 = .ok (.invokestatic 36, 3) := by decide +kernel
theorem dX6_refusesJob_9 : decode cX6_refusesJob 9 = .ok (.ifCond .eq 37, 3) := by decide +kernel
theorem dX6_refusesJob_12 : decode cX6_refusesJob 12 = .ok (.iload_n 2, 1) := by decide +kernel
theorem dX6_refusesJob_13 : decode cX6_refusesJob 13 = .ok (.iconst 0, 1) := by decide +kernel
theorem dX6_refusesJob_14 : decode cX6_refusesJob 14 = .ok (.bipush 9, 2) := by decide +kernel
theorem dX6_refusesJob_16 : decode cX6_refusesJob 16 = .ok (.invokestatic 36, 3) := by decide +kernel
theorem dX6_refusesJob_19 : decode cX6_refusesJob 19 = .ok (.ifCond .eq 27, 3) := by decide +kernel
theorem dX6_refusesJob_22 : decode cX6_refusesJob 22 = .ok (.iload_n 3, 1) := by decide +kernel
theorem dX6_refusesJob_23 : decode cX6_refusesJob 23 = .ok (.iconst 1, 1) := by decide +kernel
theorem dX6_refusesJob_24 : decode cX6_refusesJob 24 = .ok (.bipush 9, 2) := by decide +kernel
theorem dX6_refusesJob_26 : decode cX6_refusesJob 26 = .ok (.invokestatic 36, 3) := by decide +kernel
theorem dX6_refusesJob_29 : decode cX6_refusesJob 29 = .ok (.ifCond .eq 17, 3) := by decide +kernel
theorem dX6_refusesJob_32 : decode cX6_refusesJob 32 = .ok (.iload 4, 2) := by decide +kernel
theorem dX6_refusesJob_34 : decode cX6_refusesJob 34 = .ok (.iconst 0, 1) := by decide +kernel
theorem dX6_refusesJob_35 : decode cX6_refusesJob 35 = .ok (.iconst 3, 1) := by decide +kernel
theorem dX6_refusesJob_36 : decode cX6_refusesJob 36 = .ok (.invokestatic 36, 3) := by decide +kernel
theorem dX6_refusesJob_39 : decode cX6_refusesJob 39 = .ok (.ifCond .eq 7, 3) := by decide +kernel
theorem dX6_refusesJob_42 : decode cX6_refusesJob 42 = .ok (.iconst 1, 1) := by decide +kernel
theorem dX6_refusesJob_43 : decode cX6_refusesJob 43 = .ok (.goto 4, 3) := by decide +kernel
theorem dX6_refusesJob_46 : decode cX6_refusesJob 46 = .ok (.iconst 0, 1) := by decide +kernel
theorem dX6_refusesJob_47 : decode cX6_refusesJob 47 = .ok (.istore 6, 2) := by decide +kernel
theorem dX6_refusesJob_49 : decode cX6_refusesJob 49 = .ok (.iload 6, 2) := by decide +kernel
theorem dX6_refusesJob_51 : decode cX6_refusesJob 51 = .ok (.ifCond .eq 15, 3) := by decide +kernel
theorem dX6_refusesJob_54 : decode cX6_refusesJob 54 = .ok (.iload 5, 2) := by decide +kernel
theorem dX6_refusesJob_56 : decode cX6_refusesJob 56 = .ok (.iconst 0, 1) := by decide +kernel
theorem dX6_refusesJob_57 : decode cX6_refusesJob 57 = .ok (.sipush 999, 3) := by decide +kernel
theorem dX6_refusesJob_60 : decode cX6_refusesJob 60 = .ok (.invokestatic 36, 3) := by decide +kernel
theorem dX6_refusesJob_63 : decode cX6_refusesJob 63 = .ok (.ifCond .ne 6, 3) := by decide +kernel
theorem dX6_refusesJob_66 : decode cX6_refusesJob 66 = .ok (.bipush (-2), 2) := by decide +kernel
theorem dX6_refusesJob_68 : decode cX6_refusesJob 68 = .ok (.ireturn, 1) := by decide +kernel
theorem dX6_refusesJob_69 : decode cX6_refusesJob 69 = .ok (.aload_n 0, 1) := by decide +kernel
theorem dX6_refusesJob_70 : decode cX6_refusesJob 70 = .ok (.getfield 7, 3) := by decide +kernel
theorem dX6_refusesJob_73 : decode cX6_refusesJob 73 = .ok (.bipush 6, 2) := by decide +kernel
theorem dX6_refusesJob_75 : decode cX6_refusesJob 75 = .ok (.iaload, 1) := by decide +kernel
theorem dX6_refusesJob_76 : decode cX6_refusesJob 76 = .ok (.bipush 16, 2) := by decide +kernel
theorem dX6_refusesJob_78 : decode cX6_refusesJob 78 = .ok (.if_icmp .ne 8, 3) := by decide +kernel
theorem dX6_refusesJob_81 : decode cX6_refusesJob 81 = .ok (.bipush (-4), 2) := by decide +kernel
theorem dX6_refusesJob_83 : decode cX6_refusesJob 83 = .ok (.goto 4, 3) := by decide +kernel
theorem dX6_refusesJob_86 : decode cX6_refusesJob 86 = .ok (.iconst 0, 1) := by decide +kernel
theorem dX6_refusesJob_87 : decode cX6_refusesJob 87 = .ok (.ireturn, 1) := by decide +kernel
theorem dX6_addsJob_0 : decode cX6_addsJob 0 = .ok (.aload_n 0, 1) := by decide +kernel
theorem dX6_addsJob_1 : decode cX6_addsJob 1 = .ok (.getfield 7, 3) := by decide +kernel
theorem dX6_addsJob_4 : decode cX6_addsJob 4 = .ok (.bipush 6, 2) := by decide +kernel
theorem dX6_addsJob_6 : decode cX6_addsJob 6 = .ok (.iaload, 1) := by decide +kernel
theorem dX6_addsJob_7 : decode cX6_addsJob 7 = .ok (.istore 6, 2) := by decide +kernel
theorem dX6_addsJob_9 : decode cX6_addsJob 9 = .ok (.aload_n 0, 1) := by decide +kernel
theorem dX6_addsJob_10 : decode cX6_addsJob 10 = .ok (.iload 6, 2) := by decide +kernel
theorem dX6_addsJob_12 : decode cX6_addsJob 12 = .ok (.iconst 0, 1) := by decide +kernel
theorem dX6_addsJob_13 : decode cX6_addsJob 13 = .ok (.iload_n 1, 1) := by decide +kernel
theorem dX6_addsJob_14 : decode cX6_addsJob 14 = .ok (.invokevirtual 77, 3) := by decide +kernel
theorem dX6_addsJob_17 : decode cX6_addsJob 17 = .ok (.aload_n 0, 1) := by decide +kernel
theorem dX6_addsJob_18 : decode cX6_addsJob 18 = .ok (.iload 6, 2) := by decide +kernel
theorem dX6_addsJob_20 : decode cX6_addsJob 20 = .ok (.iconst 1, 1) := by decide +kernel
theorem dX6_addsJob_21 : decode cX6_addsJob 21 = .ok (.iload_n 2, 1) := by decide +kernel
theorem dX6_addsJob_22 : decode cX6_addsJob 22 = .ok (.invokevirtual 77, 3) := by decide +kernel
theorem dX6_addsJob_25 : decode cX6_addsJob 25 = .ok (.aload_n 0, 1) := by decide +kernel
theorem dX6_addsJob_26 : decode cX6_addsJob 26 = .ok (.iload 6, 2) := by decide +kernel
theorem dX6_addsJob_28 : decode cX6_addsJob 28 = .ok (.iconst 2, 1) := by decide +kernel
theorem dX6_addsJob_29 : decode cX6_addsJob 29 = .ok (.iload_n 3, 1) := by decide +kernel
theorem dX6_addsJob_30 : decode cX6_addsJob 30 = .ok (.invokevirtual 77, 3) := by decide +kernel
theorem dX6_addsJob_33 : decode cX6_addsJob 33 = .ok (.aload_n 0, 1) := by decide +kernel
theorem dX6_addsJob_34 : decode cX6_addsJob 34 = .ok (.iload 6, 2) := by decide +kernel
theorem dX6_addsJob_36 : decode cX6_addsJob 36 = .ok (.iconst 3, 1) := by decide +kernel
theorem dX6_addsJob_37 : decode cX6_addsJob 37 = .ok (.iload 4, 2) := by decide +kernel
theorem dX6_addsJob_39 : decode cX6_addsJob 39 = .ok (.invokevirtual 77, 3) := by decide +kernel
theorem dX6_addsJob_42 : decode cX6_addsJob 42 = .ok (.aload_n 0, 1) := by decide +kernel
theorem dX6_addsJob_43 : decode cX6_addsJob 43 = .ok (.iload 6, 2) := by decide +kernel
theorem dX6_addsJob_45 : decode cX6_addsJob 45 = .ok (.iconst 4, 1) := by decide +kernel
theorem dX6_addsJob_46 : decode cX6_addsJob 46 = .ok (.iload 5, 2) := by decide +kernel
theorem dX6_addsJob_48 : decode cX6_addsJob 48 = .ok (.invokevirtual 77, 3) := by decide +kernel
theorem dX6_addsJob_51 : decode cX6_addsJob 51 = .ok (.aload_n 0, 1) := by decide +kernel
theorem dX6_addsJob_52 : decode cX6_addsJob 52 = .ok (.iload 6, 2) := by decide +kernel
theorem dX6_addsJob_54 : decode cX6_addsJob 54 = .ok (.bipush 8, 2) := by decide +kernel
theorem dX6_addsJob_56 : decode cX6_addsJob 56 = .ok (.bipush (-6), 2) := by decide +kernel
theorem dX6_addsJob_58 : decode cX6_addsJob 58 = .ok (.invokevirtual 77, 3) := by decide +kernel
theorem dX6_addsJob_61 : decode cX6_addsJob 61 = .ok (.aload_n 0, 1) := by decide +kernel
theorem dX6_addsJob_62 : decode cX6_addsJob 62 = .ok (.iload 6, 2) := by decide +kernel
theorem dX6_addsJob_64 : decode cX6_addsJob 64 = .ok (.bipush 11, 2) := by decide +kernel
theorem dX6_addsJob_66 : decode cX6_addsJob 66 = .ok (.bipush (-6), 2) := by decide +kernel
theorem dX6_addsJob_68 : decode cX6_addsJob 68 = .ok (.invokevirtual 77, 3) := by decide +kernel
theorem dX6_addsJob_71 : decode cX6_addsJob 71 = .ok (.aload_n 0, 1) := by decide +kernel
theorem dX6_addsJob_72 : decode cX6_addsJob 72 = .ok (.getfield 7, 3) := by decide +kernel
theorem dX6_addsJob_75 : decode cX6_addsJob 75 = .ok (.bipush 6, 2) := by decide +kernel
theorem dX6_addsJob_77 : decode cX6_addsJob 77 = .ok (.dup2, 1) := by decide +kernel
theorem dX6_addsJob_78 : decode cX6_addsJob 78 = .ok (.iaload, 1) := by decide +kernel
theorem dX6_addsJob_79 : decode cX6_addsJob 79 = .ok (.iconst 1, 1) := by decide +kernel
theorem dX6_addsJob_80 : decode cX6_addsJob 80 = .ok (.iadd, 1) := by decide +kernel
theorem dX6_addsJob_81 : decode cX6_addsJob 81 = .ok (.iastore, 1) := by decide +kernel
theorem dX6_addsJob_82 : decode cX6_addsJob 82 = .ok (.iload 6, 2) := by decide +kernel
theorem dX6_addsJob_84 : decode cX6_addsJob 84 = .ok (.ireturn, 1) := by decide +kernel
theorem dX6_job_0 : decode cX6_job 0 = .ok (.aload_n 0, 1) := by decide +kernel
theorem dX6_job_1 : decode cX6_job 1 = .ok (.iconst 0, 1) := by decide +kernel
theorem dX6_job_2 : decode cX6_job 2 = .ok (.putfield 32, 3) := by decide +kernel
theorem dX6_job_5 : decode cX6_job 5 = .ok (.aload_n 0, 1) := by decide +kernel
theorem dX6_job_6 : decode cX6_job 6 = .ok (.iload_n 1, 1) := by decide +kernel
theorem dX6_job_7 : decode cX6_job 7 = .ok (.iload_n 2, 1) := by decide +kernel
theorem dX6_job_8 : decode cX6_job 8 = .ok (.iload_n 3, 1) := by decide +kernel
theorem dX6_job_9 : decode cX6_job 9 = .ok (.iload 4, 2) := by decide +kernel
theorem dX6_job_11 : decode cX6_job 11 = .ok (.iload 5, 2) := by decide +kernel
theorem dX6_job_13 : decode cX6_job 13 = .ok (.invokevirtual 126, 3) := by decide +kernel
theorem dX6_job_16 : decode cX6_job 16 = .ok (.istore 6, 2) := by decide +kernel
theorem dX6_job_18 : decode cX6_job 18 = .ok (.iload 6, 2) := by decide +kernel
theorem dX6_job_20 : decode cX6_job 20 = .ok (.ifCond .eq 6, 3) := by decide +kernel
theorem dX6_job_23 : decode cX6_job 23 = .ok (.iload 6, 2) := by decide +kernel
theorem dX6_job_25 : decode cX6_job 25 = .ok (.ireturn, 1) := by decide +kernel
theorem dX6_job_26 : decode cX6_job 26 = .ok (.aload_n 0, 1) := by decide +kernel
theorem dX6_job_27 : decode cX6_job 27 = .ok (.invokevirtual 117, 3) := by decide +kernel
theorem dX6_job_30 : decode cX6_job 30 = .ok (.aload_n 0, 1) := by decide +kernel
theorem dX6_job_31 : decode cX6_job 31 = .ok (.iload_n 1, 1) := by decide +kernel
theorem dX6_job_32 : decode cX6_job 32 = .ok (.iload_n 2, 1) := by decide +kernel
theorem dX6_job_33 : decode cX6_job 33 = .ok (.iload_n 3, 1) := by decide +kernel
theorem dX6_job_34 : decode cX6_job 34 = .ok (.iload 4, 2) := by decide +kernel
theorem dX6_job_36 : decode cX6_job 36 = .ok (.iload 5, 2) := by decide +kernel
theorem dX6_job_38 : decode cX6_job 38 = .ok (.invokevirtual 130, 3) := by decide +kernel
theorem dX6_job_41 : decode cX6_job 41 = .ok (.ireturn, 1) := by decide +kernel
theorem dX6_refusesBegin_0 : decode cX6_refusesBegin 0 = .ok (.aload_n 0, 1) := by decide +kernel
theorem dX6_refusesBegin_1 : decode cX6_refusesBegin 1 = .ok (.iload_n 1, 1) := by decide +kernel
theorem dX6_refusesBegin_2 : decode cX6_refusesBegin 2 = .ok (.invokevirtual 133, 3) := by decide +kernel
theorem dX6_refusesBegin_5 : decode cX6_refusesBegin 5 = .ok (.ifCond .ne 5, 3) := by decide +kernel
theorem dX6_refusesBegin_8 : decode cX6_refusesBegin 8 = .ok (.iconst (-1), 1) := by decide +kernel
theorem dX6_refusesBegin_9 : decode cX6_refusesBegin 9 = .ok (.ireturn, 1) := by decide +kernel
theorem dX6_refusesBegin_10 : decode cX6_refusesBegin 10 = .ok (.iload_n 3, 1) := by decide +kernel
theorem dX6_refusesBegin_11 : decode cX6_refusesBegin 11 = .ok (.invokestatic 136, 3) := by decide +kernel
theorem dX6_refusesBegin_14 : decode cX6_refusesBegin 14 = .ok (.ifCond .ne 6, 3) := by decide +kernel
theorem dX6_refusesBegin_17 : decode cX6_refusesBegin 17 = .ok (.bipush (-2), 2) := by decide +kernel
theorem dX6_refusesBegin_19 : decode cX6_refusesBegin 19 = .ok (.ireturn, 1) := by decide +kernel
theorem dX6_refusesBegin_20 : decode cX6_refusesBegin 20 = .ok (.aload_n 0, 1) := by decide +kernel
theorem dX6_refusesBegin_21 : decode cX6_refusesBegin 21 = .ok (.iload_n 1, 1) := by decide +kernel
theorem dX6_refusesBegin_22 : decode cX6_refusesBegin 22 = .ok (.iload_n 2, 1) := by decide +kernel
theorem dX6_refusesBegin_23 : decode cX6_refusesBegin 23 = .ok (.iload_n 3, 1) := by decide +kernel
theorem dX6_refusesBegin_24 : decode cX6_refusesBegin 24 = .ok (.invokevirtual 139, 3) := by decide +kernel
theorem dX6_refusesBegin_27 : decode cX6_refusesBegin 27 = .ok (.ifCond .le 8, 3) := by decide +kernel
theorem dX6_refusesBegin_30 : decode cX6_refusesBegin 30 = .ok (.bipush (-5), 2) := by decide +kernel
theorem dX6_refusesBegin_32 : decode cX6_refusesBegin 32 = .ok (.goto 4, 3) := by decide +kernel
theorem dX6_refusesBegin_35 : decode cX6_refusesBegin 35 = .ok (.iconst 0, 1) := by decide +kernel
theorem dX6_refusesBegin_36 : decode cX6_refusesBegin 36 = .ok (.ireturn, 1) := by decide +kernel
theorem dX6_begin_0 : decode cX6_begin 0 = .ok (.aload_n 0, 1) := by decide +kernel
theorem dX6_begin_1 : decode cX6_begin 1 = .ok (.iconst 0, 1) := by decide +kernel
theorem dX6_begin_2 : decode cX6_begin 2 = .ok (.putfield 32, 3) := by decide +kernel
theorem dX6_begin_5 : decode cX6_begin 5 = .ok (.aload_n 0, 1) := by decide +kernel
theorem dX6_begin_6 : decode cX6_begin 6 = .ok (.iload_n 1, 1) := by decide +kernel
theorem dX6_begin_7 : decode cX6_begin 7 = .ok (.iload_n 2, 1) := by decide +kernel
theorem dX6_begin_8 : decode cX6_begin 8 = .ok (.iload_n 3, 1) := by decide +kernel
theorem dX6_begin_9 : decode cX6_begin 9 = .ok (.invokevirtual 142, 3) := by decide +kernel
theorem dX6_begin_12 : decode cX6_begin 12 = .ok (.istore 4, 2) := by decide +kernel
theorem dX6_begin_14 : decode cX6_begin 14 = .ok (.iload 4, 2) := by decide +kernel
theorem dX6_begin_16 : decode cX6_begin 16 = .ok (.ifCond .eq 6, 3) := by decide +kernel
theorem dX6_begin_19 : decode cX6_begin 19 = .ok (.iload 4, 2) := by decide +kernel
theorem dX6_begin_21 : decode cX6_begin 21 = .ok (.ireturn, 1) := by decide +kernel
theorem dX6_begin_22 : decode cX6_begin 22 = .ok (.aload_n 0, 1) := by decide +kernel
theorem dX6_begin_23 : decode cX6_begin 23 = .ok (.invokevirtual 117, 3) := by decide +kernel
theorem dX6_begin_26 : decode cX6_begin 26 = .ok (.aload_n 0, 1) := by decide +kernel
theorem dX6_begin_27 : decode cX6_begin 27 = .ok (.iload_n 1, 1) := by decide +kernel
theorem dX6_begin_28 : decode cX6_begin 28 = .ok (.iload_n 2, 1) := by decide +kernel
theorem dX6_begin_29 : decode cX6_begin 29 = .ok (.iload_n 3, 1) := by decide +kernel
theorem dX6_begin_30 : decode cX6_begin 30 = .ok (.invokevirtual 90, 3) := by decide +kernel
theorem dX6_begin_33 : decode cX6_begin 33 = .ok (.ireturn, 1) := by decide +kernel
theorem dX6_assign_0 : decode cX6_assign 0 = .ok (.aload_n 0, 1) := by decide +kernel
theorem dX6_assign_1 : decode cX6_assign 1 = .ok (.iconst 0, 1) := by decide +kernel
theorem dX6_assign_2 : decode cX6_assign 2 = .ok (.putfield 32, 3) := by decide +kernel
theorem dX6_assign_5 : decode cX6_assign 5 = .ok (.aload_n 0, 1) := by decide +kernel
theorem dX6_assign_6 : decode cX6_assign 6 = .ok (.invokevirtual 117, 3) := by decide +kernel
theorem dX6_assign_9 : decode cX6_assign 9 = .ok (.aload_n 0, 1) := by decide +kernel
theorem dX6_assign_10 : decode cX6_assign 10 = .ok (.invokevirtual 145, 3) := by decide +kernel
theorem dX6_assign_13 : decode cX6_assign 13 = .ok (.ireturn, 1) := by decide +kernel
theorem dX6_refusesDelay_0 : decode cX6_refusesDelay 0 = .ok (.aload_n 0, 1) := by decide +kernel
theorem dX6_refusesDelay_1 : decode cX6_refusesDelay 1 = .ok (.iload_n 1, 1) := by decide +kernel
theorem dX6_refusesDelay_2 : decode cX6_refusesDelay 2 = .ok (.invokevirtual 133, 3) := by decide +kernel
theorem dX6_refusesDelay_5 : decode cX6_refusesDelay 5 = .ok (.ifCond .ne 5, 3) := by decide +kernel
theorem dX6_refusesDelay_8 : decode cX6_refusesDelay 8 = .ok (.iconst (-1), 1) := by decide +kernel
theorem dX6_refusesDelay_9 : decode cX6_refusesDelay 9 = .ok (.ireturn, 1) := by decide +kernel
theorem dX6_refusesDelay_10 : decode cX6_refusesDelay 10 = .ok (.iload_n 2, 1) := by decide +kernel
theorem dX6_refusesDelay_11 : decode cX6_refusesDelay 11 = .ok (.iconst 1, 1) := by decide +kernel
theorem dX6_refusesDelay_12 : decode cX6_refusesDelay 12 = .ok (.bipush 20, 2) := by decide +kernel
theorem dX6_refusesDelay_14 : decode cX6_refusesDelay 14 = .ok (.invokestatic 36, 3) := by decide +kernel
theorem dX6_refusesDelay_17 : decode cX6_refusesDelay 17 = .ok (.ifCond .ne 6, 3) := by decide +kernel
theorem dX6_refusesDelay_20 : decode cX6_refusesDelay 20 = .ok (.bipush (-2), 2) := by decide +kernel
theorem dX6_refusesDelay_22 : decode cX6_refusesDelay 22 = .ok (.ireturn, 1) := by decide +kernel
theorem dX6_refusesDelay_23 : decode cX6_refusesDelay 23 = .ok (.aload_n 0, 1) := by decide +kernel
theorem dX6_refusesDelay_24 : decode cX6_refusesDelay 24 = .ok (.iload_n 1, 1) := by decide +kernel
theorem dX6_refusesDelay_25 : decode cX6_refusesDelay 25 = .ok (.iconst 5, 1) := by decide +kernel
theorem dX6_refusesDelay_26 : decode cX6_refusesDelay 26 = .ok (.invokevirtual 43, 3) := by decide +kernel
theorem dX6_refusesDelay_29 : decode cX6_refusesDelay 29 = .ok (.iconst 1, 1) := by decide +kernel
theorem dX6_refusesDelay_30 : decode cX6_refusesDelay 30 = .ok (.if_icmp .ne 17, 3) := by decide +kernel
theorem dX6_refusesDelay_33 : decode cX6_refusesDelay 33 = .ok (.aload_n 0, 1) := by decide +kernel
theorem dX6_refusesDelay_34 : decode cX6_refusesDelay 34 = .ok (.iload_n 1, 1) := by decide +kernel
theorem dX6_refusesDelay_35 : decode cX6_refusesDelay 35 = .ok (.bipush 9, 2) := by decide +kernel
theorem dX6_refusesDelay_37 : decode cX6_refusesDelay 37 = .ok (.invokevirtual 43, 3) := by decide +kernel
theorem dX6_refusesDelay_40 : decode cX6_refusesDelay 40 = .ok (.iload_n 2, 1) := by decide +kernel
theorem dX6_refusesDelay_41 : decode cX6_refusesDelay 41 = .ok (.iadd, 1) := by decide +kernel
theorem dX6_refusesDelay_42 : decode cX6_refusesDelay 42 = .ok (.bipush 60, 2) := by decide +kernel
theorem dX6_refusesDelay_44 : decode cX6_refusesDelay 44 = .ok (.if_icmp .le 8, 3) := by decide +kernel
theorem dX6_refusesDelay_47 : decode cX6_refusesDelay 47 = .ok (.bipush (-5), 2) := by decide +kernel
theorem dX6_refusesDelay_49 : decode cX6_refusesDelay 49 = .ok (.goto 4, 3) := by decide +kernel
theorem dX6_refusesDelay_52 : decode cX6_refusesDelay 52 = .ok (.iconst 0, 1) := by decide +kernel
theorem dX6_refusesDelay_53 : decode cX6_refusesDelay 53 = .ok (.ireturn, 1) := by decide +kernel
theorem dX6_delays_0 : decode cX6_delays 0 = .ok (.aload_n 0, 1) := by decide +kernel
theorem dX6_delays_1 : decode cX6_delays 1 = .ok (.iload_n 1, 1) := by decide +kernel
theorem dX6_delays_2 : decode cX6_delays 2 = .ok (.bipush 9, 2) := by decide +kernel
theorem dX6_delays_4 : decode cX6_delays 4 = .ok (.aload_n 0, 1) := by decide +kernel
theorem dX6_delays_5 : decode cX6_delays 5 = .ok (.iload_n 1, 1) := by decide +kernel
theorem dX6_delays_6 : decode cX6_delays 6 = .ok (.bipush 9, 2) := by decide +kernel
theorem dX6_delays_8 : decode cX6_delays 8 = .ok (.invokevirtual 43, 3) := by decide +kernel
theorem dX6_delays_11 : decode cX6_delays 11 = .ok (.iload_n 2, 1) := by decide +kernel
theorem dX6_delays_12 : decode cX6_delays 12 = .ok (.iadd, 1) := by decide +kernel
theorem dX6_delays_13 : decode cX6_delays 13 = .ok (.invokevirtual 77, 3) := by decide +kernel
theorem dX6_delays_16 : decode cX6_delays 16 = .ok (.aload_n 0, 1) := by decide +kernel
theorem dX6_delays_17 : decode cX6_delays 17 = .ok (.iload_n 1, 1) := by decide +kernel
theorem dX6_delays_18 : decode cX6_delays 18 = .ok (.bipush 9, 2) := by decide +kernel
theorem dX6_delays_20 : decode cX6_delays 20 = .ok (.invokevirtual 43, 3) := by decide +kernel
theorem dX6_delays_23 : decode cX6_delays 23 = .ok (.ireturn, 1) := by decide +kernel
theorem dX6_delay_0 : decode cX6_delay 0 = .ok (.aload_n 0, 1) := by decide +kernel
theorem dX6_delay_1 : decode cX6_delay 1 = .ok (.iconst 0, 1) := by decide +kernel
theorem dX6_delay_2 : decode cX6_delay 2 = .ok (.putfield 32, 3) := by decide +kernel
theorem dX6_delay_5 : decode cX6_delay 5 = .ok (.aload_n 0, 1) := by decide +kernel
theorem dX6_delay_6 : decode cX6_delay 6 = .ok (.iload_n 1, 1) := by decide +kernel
theorem dX6_delay_7 : decode cX6_delay 7 = .ok (.iload_n 2, 1) := by decide +kernel
theorem dX6_delay_8 : decode cX6_delay 8 = .ok (.invokevirtual 148, 3) := by decide +kernel
theorem dX6_delay_11 : decode cX6_delay 11 = .ok (.istore_n 3, 1) := by decide +kernel
theorem dX6_delay_12 : decode cX6_delay 12 = .ok (.iload_n 3, 1) := by decide +kernel
theorem dX6_delay_13 : decode cX6_delay 13 = .ok (.ifCond .eq 5, 3) := by decide +kernel
theorem dX6_delay_16 : decode cX6_delay 16 = .ok (.iload_n 3, 1) := by decide +kernel
theorem dX6_delay_17 : decode cX6_delay 17 = .ok (.ireturn, 1) := by decide +kernel
theorem dX6_delay_18 : decode cX6_delay 18 = .ok (.aload_n 0, 1) := by decide +kernel
theorem dX6_delay_19 : decode cX6_delay 19 = .ok (.invokevirtual 117, 3) := by decide +kernel
theorem dX6_delay_22 : decode cX6_delay 22 = .ok (.aload_n 0, 1) := by decide +kernel
theorem dX6_delay_23 : decode cX6_delay 23 = .ok (.iload_n 1, 1) := by decide +kernel
theorem dX6_delay_24 : decode cX6_delay 24 = .ok (.iload_n 2, 1) := by decide +kernel
theorem dX6_delay_25 : decode cX6_delay 25 = .ok (.invokevirtual 151, 3) := by decide +kernel
theorem dX6_delay_28 : decode cX6_delay 28 = .ok (.ireturn, 1) := by decide +kernel
theorem dX6_refusesCall_0 : decode cX6_refusesCall 0 = .ok (.aload_n 0, 1) := by decide +kernel
theorem dX6_refusesCall_1 : decode cX6_refusesCall 1 = .ok (.iload_n 1, 1) := by decide +kernel
theorem dX6_refusesCall_2 : decode cX6_refusesCall 2 = .ok (.invokevirtual 133, 3) := by decide +kernel
theorem dX6_refusesCall_5 : decode cX6_refusesCall 5 = .ok (.ifCond .ne 7, 3) := by decide +kernel
theorem dX6_refusesCall_8 : decode cX6_refusesCall 8 = .ok (.iconst (-1), 1) := by decide +kernel
theorem dX6_refusesCall_9 : decode cX6_refusesCall 9 = .ok (.goto 19, 3) := by decide +kernel
theorem dX6_refusesCall_12 : decode cX6_refusesCall 12 = .ok (.aload_n 0, 1) := by decide +kernel
theorem dX6_refusesCall_13 : decode cX6_refusesCall 13 = .ok (.iload_n 1, 1) := by decide +kernel
theorem dX6_refusesCall_14 : decode cX6_refusesCall 14 = .ok (.iconst 5, 1) := by decide +kernel
theorem dX6_refusesCall_15 : decode cX6_refusesCall 15 = .ok (.invokevirtual 43, 3) := by decide +kernel
theorem dX6_refusesCall_18 : decode cX6_refusesCall 18 = .ok (.iconst 1, 1) := by decide +kernel
theorem dX6_refusesCall_19 : decode cX6_refusesCall 19 = .ok (.if_icmp .le 8, 3) := by decide +kernel
theorem dX6_refusesCall_22 : decode cX6_refusesCall 22 = .ok (.bipush (-5), 2) := by decide +kernel
theorem dX6_refusesCall_24 : decode cX6_refusesCall 24 = .ok (.goto 4, 3) := by decide +kernel
theorem dX6_refusesCall_27 : decode cX6_refusesCall 27 = .ok (.iconst 0, 1) := by decide +kernel
theorem dX6_refusesCall_28 : decode cX6_refusesCall 28 = .ok (.ireturn, 1) := by decide +kernel
theorem dX6_callsOff_0 : decode cX6_callsOff 0 = .ok (.aload_n 0, 1) := by decide +kernel
theorem dX6_callsOff_1 : decode cX6_callsOff 1 = .ok (.iload_n 1, 1) := by decide +kernel
theorem dX6_callsOff_2 : decode cX6_callsOff 2 = .ok (.bipush 7, 2) := by decide +kernel
theorem dX6_callsOff_4 : decode cX6_callsOff 4 = .ok (.invokevirtual 43, 3) := by decide +kernel
theorem dX6_callsOff_7 : decode cX6_callsOff 7 = .ok (.istore_n 2, 1) := by decide +kernel
theorem dX6_callsOff_8 : decode cX6_callsOff 8 = .ok (.aload_n 0, 1) := by decide +kernel
theorem dX6_callsOff_9 : decode cX6_callsOff 9 = .ok (.iload_n 1, 1) := by decide +kernel
theorem dX6_callsOff_10 : decode cX6_callsOff 10 = .ok (.iconst 5, 1) := by decide +kernel
theorem dX6_callsOff_11 : decode cX6_callsOff 11 = .ok (.iconst 3, 1) := by decide +kernel
theorem dX6_callsOff_12 : decode cX6_callsOff 12 = .ok (.invokevirtual 77, 3) := by decide +kernel
theorem dX6_callsOff_15 : decode cX6_callsOff 15 = .ok (.iload_n 2, 1) := by decide +kernel
theorem dX6_callsOff_16 : decode cX6_callsOff 16 = .ok (.ireturn, 1) := by decide +kernel
theorem dX6_callOff_0 : decode cX6_callOff 0 = .ok (.aload_n 0, 1) := by decide +kernel
theorem dX6_callOff_1 : decode cX6_callOff 1 = .ok (.iconst 0, 1) := by decide +kernel
theorem dX6_callOff_2 : decode cX6_callOff 2 = .ok (.putfield 32, 3) := by decide +kernel
theorem dX6_callOff_5 : decode cX6_callOff 5 = .ok (.aload_n 0, 1) := by decide +kernel
theorem dX6_callOff_6 : decode cX6_callOff 6 = .ok (.iload_n 1, 1) := by decide +kernel
theorem dX6_callOff_7 : decode cX6_callOff 7 = .ok (.invokevirtual 154, 3) := by decide +kernel
theorem dX6_callOff_10 : decode cX6_callOff 10 = .ok (.istore_n 2, 1) := by decide +kernel
theorem dX6_callOff_11 : decode cX6_callOff 11 = .ok (.iload_n 2, 1) := by decide +kernel
theorem dX6_callOff_12 : decode cX6_callOff 12 = .ok (.ifCond .eq 5, 3) := by decide +kernel
theorem dX6_callOff_15 : decode cX6_callOff 15 = .ok (.iload_n 2, 1) := by decide +kernel
theorem dX6_callOff_16 : decode cX6_callOff 16 = .ok (.ireturn, 1) := by decide +kernel
theorem dX6_callOff_17 : decode cX6_callOff 17 = .ok (.aload_n 0, 1) := by decide +kernel
theorem dX6_callOff_18 : decode cX6_callOff 18 = .ok (.invokevirtual 117, 3) := by decide +kernel
theorem dX6_callOff_21 : decode cX6_callOff 21 = .ok (.aload_n 0, 1) := by decide +kernel
theorem dX6_callOff_22 : decode cX6_callOff 22 = .ok (.iload_n 1, 1) := by decide +kernel
theorem dX6_callOff_23 : decode cX6_callOff 23 = .ok (.invokevirtual 157, 3) := by decide +kernel
theorem dX6_callOff_26 : decode cX6_callOff 26 = .ok (.ireturn, 1) := by decide +kernel
theorem dX6_refusesHours_0 : decode cX6_refusesHours 0 = .ok (.iload_n 1, 1) := by decide +kernel
theorem dX6_refusesHours_1 : decode cX6_refusesHours 1 = .ok (.iconst 1, 1) := by decide +kernel
theorem dX6_refusesHours_2 : decode cX6_refusesHours 2 = .ok (.bipush 99, 2) := by decide +kernel
theorem dX6_refusesHours_4 : decode cX6_refusesHours 4 = .ok (.invokestatic 36, 3) := by decide +kernel
theorem dX6_refusesHours_7 : decode cX6_refusesHours 7 = .ok (.ifCond .ne 8, 3) := by decide +kernel
theorem dX6_refusesHours_10 : decode cX6_refusesHours 10 = .ok (.bipush (-2), 2) := by decide +kernel
theorem dX6_refusesHours_12 : decode cX6_refusesHours 12 = .ok (.goto 23, 3) := by decide +kernel
theorem dX6_refusesHours_15 : decode cX6_refusesHours 15 = .ok (.aload_n 0, 1) := by decide +kernel
theorem dX6_refusesHours_16 : decode cX6_refusesHours 16 = .ok (.getfield 7, 3) := by decide +kernel
theorem dX6_refusesHours_19 : decode cX6_refusesHours 19 = .ok (.iconst 4, 1) := by decide +kernel
theorem dX6_refusesHours_20 : decode cX6_refusesHours 20 = .ok (.iaload, 1) := by decide +kernel
theorem dX6_refusesHours_21 : decode cX6_refusesHours 21 = .ok (.iload_n 1, 1) := by decide +kernel
theorem dX6_refusesHours_22 : decode cX6_refusesHours 22 = .ok (.iadd, 1) := by decide +kernel
theorem dX6_refusesHours_23 : decode cX6_refusesHours 23 = .ok (.sipush 9999, 3) := by decide +kernel
theorem dX6_refusesHours_26 : decode cX6_refusesHours 26 = .ok (.if_icmp .le 8, 3) := by decide +kernel
theorem dX6_refusesHours_29 : decode cX6_refusesHours 29 = .ok (.bipush (-5), 2) := by decide +kernel
theorem dX6_refusesHours_31 : decode cX6_refusesHours 31 = .ok (.goto 4, 3) := by decide +kernel
theorem dX6_refusesHours_34 : decode cX6_refusesHours 34 = .ok (.iconst 0, 1) := by decide +kernel
theorem dX6_refusesHours_35 : decode cX6_refusesHours 35 = .ok (.ireturn, 1) := by decide +kernel
theorem dX6_passes_0 : decode cX6_passes 0 = .ok (.iconst 0, 1) := by decide +kernel
theorem dX6_passes_1 : decode cX6_passes 1 = .ok (.istore_n 2, 1) := by decide +kernel
theorem dX6_passes_2 : decode cX6_passes 2 = .ok (.iconst 0, 1) := by decide +kernel
theorem dX6_passes_3 : decode cX6_passes 3 = .ok (.istore_n 3, 1) := by decide +kernel
theorem dX6_passes_4 : decode cX6_passes 4 = .ok (.iload_n 3, 1) := by decide +kernel
theorem dX6_passes_5 : decode cX6_passes 5 = .ok (.iload_n 1, 1) := by decide +kernel
theorem dX6_passes_6 : decode cX6_passes 6 = .ok (.if_icmp .ge 16, 3) := by decide +kernel
theorem dX6_passes_9 : decode cX6_passes 9 = .ok (.iload_n 2, 1) := by decide +kernel
theorem dX6_passes_10 : decode cX6_passes 10 = .ok (.aload_n 0, 1) := by decide +kernel
theorem dX6_passes_11 : decode cX6_passes 11 = .ok (.invokevirtual 160, 3) := by decide +kernel
theorem dX6_passes_14 : decode cX6_passes 14 = .ok (.iadd, 1) := by decide +kernel
theorem dX6_passes_15 : decode cX6_passes 15 = .ok (.istore_n 2, 1) := by decide +kernel
theorem dX6_passes_16 : decode cX6_passes 16 = .ok (.iinc 3 1, 3) := by decide +kernel
theorem dX6_passes_19 : decode cX6_passes 19 = .ok (.goto (-15), 3) := by decide +kernel
theorem dX6_passes_22 : decode cX6_passes 22 = .ok (.iload_n 2, 1) := by decide +kernel
theorem dX6_passes_23 : decode cX6_passes 23 = .ok (.ireturn, 1) := by decide +kernel
theorem dX6_pass_0 : decode cX6_pass 0 = .ok (.aload_n 0, 1) := by decide +kernel
theorem dX6_pass_1 : decode cX6_pass 1 = .ok (.iconst 0, 1) := by decide +kernel
theorem dX6_pass_2 : decode cX6_pass 2 = .ok (.putfield 32, 3) := by decide +kernel
theorem dX6_pass_5 : decode cX6_pass 5 = .ok (.aload_n 0, 1) := by decide +kernel
theorem dX6_pass_6 : decode cX6_pass 6 = .ok (.iload_n 1, 1) := by decide +kernel
theorem dX6_pass_7 : decode cX6_pass 7 = .ok (.invokevirtual 163, 3) := by decide +kernel
theorem dX6_pass_10 : decode cX6_pass 10 = .ok (.istore_n 2, 1) := by decide +kernel
theorem dX6_pass_11 : decode cX6_pass 11 = .ok (.iload_n 2, 1) := by decide +kernel
theorem dX6_pass_12 : decode cX6_pass 12 = .ok (.ifCond .eq 5, 3) := by decide +kernel
theorem dX6_pass_15 : decode cX6_pass 15 = .ok (.iload_n 2, 1) := by decide +kernel
theorem dX6_pass_16 : decode cX6_pass 16 = .ok (.ireturn, 1) := by decide +kernel
theorem dX6_pass_17 : decode cX6_pass 17 = .ok (.aload_n 0, 1) := by decide +kernel
theorem dX6_pass_18 : decode cX6_pass 18 = .ok (.invokevirtual 117, 3) := by decide +kernel
theorem dX6_pass_21 : decode cX6_pass 21 = .ok (.aload_n 0, 1) := by decide +kernel
theorem dX6_pass_22 : decode cX6_pass 22 = .ok (.iload_n 1, 1) := by decide +kernel
theorem dX6_pass_23 : decode cX6_pass 23 = .ok (.invokevirtual 166, 3) := by decide +kernel
theorem dX6_pass_26 : decode cX6_pass 26 = .ok (.ireturn, 1) := by decide +kernel
theorem dX6_jobOf_0 : decode cX6_jobOf 0 = .ok (.bipush (-6), 2) := by decide +kernel
theorem dX6_jobOf_2 : decode cX6_jobOf 2 = .ok (.istore_n 2, 1) := by decide +kernel
theorem dX6_jobOf_3 : decode cX6_jobOf 3 = .ok (.iconst 0, 1) := by decide +kernel
theorem dX6_jobOf_4 : decode cX6_jobOf 4 = .ok (.istore_n 3, 1) := by decide +kernel
theorem dX6_jobOf_5 : decode cX6_jobOf 5 = .ok (.iload_n 3, 1) := by decide +kernel
theorem dX6_jobOf_6 : decode cX6_jobOf 6 = .ok (.aload_n 0, 1) := by decide +kernel
theorem dX6_jobOf_7 : decode cX6_jobOf 7 = .ok (.getfield 7, 3) := by decide +kernel
theorem dX6_jobOf_10 : decode cX6_jobOf 10 = .ok (.bipush 6, 2) := by decide +kernel
theorem dX6_jobOf_12 : decode cX6_jobOf 12 = .ok (.iaload, 1) := by decide +kernel
theorem dX6_jobOf_13 : decode cX6_jobOf 13 = .ok (.if_icmp .ge 40, 3) := by decide +kernel
theorem dX6_jobOf_16 : decode cX6_jobOf 16 = .ok (.aload_n 0, 1) := by decide +kernel
theorem dX6_jobOf_17 : decode cX6_jobOf 17 = .ok (.iload_n 3, 1) := by decide +kernel
theorem dX6_jobOf_18 : decode cX6_jobOf 18 = .ok (.iconst 5, 1) := by decide +kernel
theorem dX6_jobOf_19 : decode cX6_jobOf 19 = .ok (.invokevirtual 43, 3) := by decide +kernel
theorem dX6_jobOf_22 : decode cX6_jobOf 22 = .ok (.iconst 1, 1) := by decide +kernel
theorem dX6_jobOf_23 : decode cX6_jobOf 23 = .ok (.if_icmp .ne 22, 3) := by decide +kernel
theorem dX6_jobOf_26 : decode cX6_jobOf 26 = .ok (.aload_n 0, 1) := by decide +kernel
theorem dX6_jobOf_27 : decode cX6_jobOf 27 = .ok (.iload_n 3, 1) := by decide +kernel
theorem dX6_jobOf_28 : decode cX6_jobOf 28 = .ok (.bipush 7, 2) := by decide +kernel
theorem dX6_jobOf_30 : decode cX6_jobOf 30 = .ok (.invokevirtual 43, 3) := by decide +kernel
theorem dX6_jobOf_33 : decode cX6_jobOf 33 = .ok (.iload_n 1, 1) := by decide +kernel
theorem dX6_jobOf_34 : decode cX6_jobOf 34 = .ok (.ishr, 1) := by decide +kernel
theorem dX6_jobOf_35 : decode cX6_jobOf 35 = .ok (.iconst 1, 1) := by decide +kernel
theorem dX6_jobOf_36 : decode cX6_jobOf 36 = .ok (.iand, 1) := by decide +kernel
theorem dX6_jobOf_37 : decode cX6_jobOf 37 = .ok (.iconst 1, 1) := by decide +kernel
theorem dX6_jobOf_38 : decode cX6_jobOf 38 = .ok (.if_icmp .ne 7, 3) := by decide +kernel
theorem dX6_jobOf_41 : decode cX6_jobOf 41 = .ok (.iload_n 3, 1) := by decide +kernel
theorem dX6_jobOf_42 : decode cX6_jobOf 42 = .ok (.goto 4, 3) := by decide +kernel
theorem dX6_jobOf_45 : decode cX6_jobOf 45 = .ok (.iload_n 2, 1) := by decide +kernel
theorem dX6_jobOf_46 : decode cX6_jobOf 46 = .ok (.istore_n 2, 1) := by decide +kernel
theorem dX6_jobOf_47 : decode cX6_jobOf 47 = .ok (.iinc 3 1, 3) := by decide +kernel
theorem dX6_jobOf_50 : decode cX6_jobOf 50 = .ok (.goto (-45), 3) := by decide +kernel
theorem dX6_jobOf_53 : decode cX6_jobOf 53 = .ok (.iload_n 2, 1) := by decide +kernel
theorem dX6_jobOf_54 : decode cX6_jobOf 54 = .ok (.ireturn, 1) := by decide +kernel
theorem dX6_of_0 : decode cX6_of 0 = .ok (.aload_n 0, 1) := by decide +kernel
theorem dX6_of_1 : decode cX6_of 1 = .ok (.iconst 0, 1) := by decide +kernel
theorem dX6_of_2 : decode cX6_of 2 = .ok (.putfield 32, 3) := by decide +kernel
theorem dX6_of_5 : decode cX6_of 5 = .ok (.iload_n 1, 1) := by decide +kernel
theorem dX6_of_6 : decode cX6_of 6 = .ok (.iconst 0, 1) := by decide +kernel
theorem dX6_of_7 : decode cX6_of 7 = .ok (.aload_n 0, 1) := by decide +kernel
theorem dX6_of_8 : decode cX6_of 8 = .ok (.getfield 7, 3) := by decide +kernel
theorem dX6_of_11 : decode cX6_of 11 = .ok (.iconst 5, 1) := by decide +kernel
theorem dX6_of_12 : decode cX6_of 12 = .ok (.iaload, 1) := by decide +kernel
theorem dX6_of_13 : decode cX6_of 13 = .ok (.iconst 1, 1) := by decide +kernel
theorem dX6_of_14 : decode cX6_of 14 = .ok (.isub, 1) := by decide +kernel
theorem dX6_of_15 : decode cX6_of 15 = .ok (.invokestatic 36, 3) := by decide +kernel
theorem dX6_of_18 : decode cX6_of 18 = .ok (.ifCond .ne 5, 3) := by decide +kernel
theorem dX6_of_21 : decode cX6_of 21 = .ok (.iconst (-1), 1) := by decide +kernel
theorem dX6_of_22 : decode cX6_of 22 = .ok (.ireturn, 1) := by decide +kernel
theorem dX6_of_23 : decode cX6_of 23 = .ok (.iload_n 2, 1) := by decide +kernel
theorem dX6_of_24 : decode cX6_of 24 = .ok (.tableswitch 92 0 5 #[40, 40, 47, 53, 53, 62], 40) := by decide +kernel
theorem dX6_of_64 : decode cX6_of 64 = .ok (.aload_n 0, 1) := by decide +kernel
theorem dX6_of_65 : decode cX6_of 65 = .ok (.iload_n 1, 1) := by decide +kernel
theorem dX6_of_66 : decode cX6_of 66 = .ok (.iload_n 2, 1) := by decide +kernel
theorem dX6_of_67 : decode cX6_of 67 = .ok (.invokevirtual 47, 3) := by decide +kernel
theorem dX6_of_70 : decode cX6_of 70 = .ok (.ireturn, 1) := by decide +kernel
theorem dX6_of_71 : decode cX6_of 71 = .ok (.aload_n 0, 1) := by decide +kernel
theorem dX6_of_72 : decode cX6_of 72 = .ok (.iload_n 1, 1) := by decide +kernel
theorem dX6_of_73 : decode cX6_of 73 = .ok (.invokevirtual 169, 3) := by decide +kernel
theorem dX6_of_76 : decode cX6_of 76 = .ok (.ireturn, 1) := by decide +kernel
theorem dX6_of_77 : decode cX6_of 77 = .ok (.aload_n 0, 1) := by decide +kernel
theorem dX6_of_78 : decode cX6_of 78 = .ok (.iload_n 1, 1) := by decide +kernel
theorem dX6_of_79 : decode cX6_of 79 = .ok (.iload_n 2, 1) := by decide +kernel
theorem dX6_of_80 : decode cX6_of 80 = .ok (.iconst 1, 1) := by decide +kernel
theorem dX6_of_81 : decode cX6_of 81 = .ok (.isub, 1) := by decide +kernel
theorem dX6_of_82 : decode cX6_of 82 = .ok (.invokevirtual 47, 3) := by decide +kernel
theorem dX6_of_85 : decode cX6_of 85 = .ok (.ireturn, 1) := by decide +kernel
theorem dX6_of_86 : decode cX6_of 86 = .ok (.aload_n 0, 1) := by decide +kernel
theorem dX6_of_87 : decode cX6_of 87 = .ok (.iload_n 1, 1) := by decide +kernel
theorem dX6_of_88 : decode cX6_of 88 = .ok (.iconst 0, 1) := by decide +kernel
theorem dX6_of_89 : decode cX6_of 89 = .ok (.invokevirtual 47, 3) := by decide +kernel
theorem dX6_of_92 : decode cX6_of 92 = .ok (.aload_n 0, 1) := by decide +kernel
theorem dX6_of_93 : decode cX6_of 93 = .ok (.iload_n 1, 1) := by decide +kernel
theorem dX6_of_94 : decode cX6_of 94 = .ok (.iconst 1, 1) := by decide +kernel
theorem dX6_of_95 : decode cX6_of 95 = .ok (.invokevirtual 47, 3) := by decide +kernel
theorem dX6_of_98 : decode cX6_of 98 = .ok (.isub, 1) := by decide +kernel
theorem dX6_of_99 : decode cX6_of 99 = .ok (.aload_n 0, 1) := by decide +kernel
theorem dX6_of_100 : decode cX6_of 100 = .ok (.getfield 7, 3) := by decide +kernel
theorem dX6_of_103 : decode cX6_of 103 = .ok (.iconst 1, 1) := by decide +kernel
theorem dX6_of_104 : decode cX6_of 104 = .ok (.iaload, 1) := by decide +kernel
theorem dX6_of_105 : decode cX6_of 105 = .ok (.iadd, 1) := by decide +kernel
theorem dX6_of_106 : decode cX6_of 106 = .ok (.iconst 1, 1) := by decide +kernel
theorem dX6_of_107 : decode cX6_of 107 = .ok (.isub, 1) := by decide +kernel
theorem dX6_of_108 : decode cX6_of 108 = .ok (.aload_n 0, 1) := by decide +kernel
theorem dX6_of_109 : decode cX6_of 109 = .ok (.getfield 7, 3) := by decide +kernel
theorem dX6_of_112 : decode cX6_of 112 = .ok (.iconst 1, 1) := by decide +kernel
theorem dX6_of_113 : decode cX6_of 113 = .ok (.iaload, 1) := by decide +kernel
theorem dX6_of_114 : decode cX6_of 114 = .ok (.idiv, 1) := by decide +kernel
theorem dX6_of_115 : decode cX6_of 115 = .ok (.ireturn, 1) := by decide +kernel
theorem dX6_of_116 : decode cX6_of 116 = .ok (.bipush (-2), 2) := by decide +kernel
theorem dX6_of_118 : decode cX6_of 118 = .ok (.ireturn, 1) := by decide +kernel
theorem dX6_isLate_0 : decode cX6_isLate 0 = .ok (.aload_n 0, 1) := by decide +kernel
theorem dX6_isLate_1 : decode cX6_isLate 1 = .ok (.iload_n 1, 1) := by decide +kernel
theorem dX6_isLate_2 : decode cX6_isLate 2 = .ok (.iconst 5, 1) := by decide +kernel
theorem dX6_isLate_3 : decode cX6_isLate 3 = .ok (.invokevirtual 43, 3) := by decide +kernel
theorem dX6_isLate_6 : decode cX6_isLate 6 = .ok (.istore_n 2, 1) := by decide +kernel
theorem dX6_isLate_7 : decode cX6_isLate 7 = .ok (.iload_n 2, 1) := by decide +kernel
theorem dX6_isLate_8 : decode cX6_isLate 8 = .ok (.iconst 2, 1) := by decide +kernel
theorem dX6_isLate_9 : decode cX6_isLate 9 = .ok (.if_icmp .ne 27, 3) := by decide +kernel
theorem dX6_isLate_12 : decode cX6_isLate 12 = .ok (.aload_n 0, 1) := by decide +kernel
theorem dX6_isLate_13 : decode cX6_isLate 13 = .ok (.iload_n 1, 1) := by decide +kernel
theorem dX6_isLate_14 : decode cX6_isLate 14 = .ok (.bipush 11, 2) := by decide +kernel
theorem dX6_isLate_16 : decode cX6_isLate 16 = .ok (.invokevirtual 43, 3) := by decide +kernel
theorem dX6_isLate_19 : decode cX6_isLate 19 = .ok (.aload_n 0, 1) := by decide +kernel
theorem dX6_isLate_20 : decode cX6_isLate 20 = .ok (.iload_n 1, 1) := by decide +kernel
theorem dX6_isLate_21 : decode cX6_isLate 21 = .ok (.iconst 4, 1) := by decide +kernel
theorem dX6_isLate_22 : decode cX6_isLate 22 = .ok (.invokevirtual 43, 3) := by decide +kernel
theorem dX6_isLate_25 : decode cX6_isLate 25 = .ok (.if_icmp .le 7, 3) := by decide +kernel
theorem dX6_isLate_28 : decode cX6_isLate 28 = .ok (.iconst 1, 1) := by decide +kernel
theorem dX6_isLate_29 : decode cX6_isLate 29 = .ok (.goto 32, 3) := by decide +kernel
theorem dX6_isLate_32 : decode cX6_isLate 32 = .ok (.iconst 0, 1) := by decide +kernel
theorem dX6_isLate_33 : decode cX6_isLate 33 = .ok (.goto 28, 3) := by decide +kernel
theorem dX6_isLate_36 : decode cX6_isLate 36 = .ok (.iload_n 2, 1) := by decide +kernel
theorem dX6_isLate_37 : decode cX6_isLate 37 = .ok (.iconst 2, 1) := by decide +kernel
theorem dX6_isLate_38 : decode cX6_isLate 38 = .ok (.if_icmp .ge 22, 3) := by decide +kernel
theorem dX6_isLate_41 : decode cX6_isLate 41 = .ok (.aload_n 0, 1) := by decide +kernel
theorem dX6_isLate_42 : decode cX6_isLate 42 = .ok (.getfield 7, 3) := by decide +kernel
theorem dX6_isLate_45 : decode cX6_isLate 45 = .ok (.iconst 4, 1) := by decide +kernel
theorem dX6_isLate_46 : decode cX6_isLate 46 = .ok (.iaload, 1) := by decide +kernel
theorem dX6_isLate_47 : decode cX6_isLate 47 = .ok (.aload_n 0, 1) := by decide +kernel
theorem dX6_isLate_48 : decode cX6_isLate 48 = .ok (.iload_n 1, 1) := by decide +kernel
theorem dX6_isLate_49 : decode cX6_isLate 49 = .ok (.iconst 4, 1) := by decide +kernel
theorem dX6_isLate_50 : decode cX6_isLate 50 = .ok (.invokevirtual 43, 3) := by decide +kernel
theorem dX6_isLate_53 : decode cX6_isLate 53 = .ok (.if_icmp .le 7, 3) := by decide +kernel
theorem dX6_isLate_56 : decode cX6_isLate 56 = .ok (.iconst 1, 1) := by decide +kernel
theorem dX6_isLate_57 : decode cX6_isLate 57 = .ok (.goto 4, 3) := by decide +kernel
theorem dX6_isLate_60 : decode cX6_isLate 60 = .ok (.iconst 0, 1) := by decide +kernel
theorem dX6_isLate_61 : decode cX6_isLate 61 = .ok (.ireturn, 1) := by decide +kernel
theorem dX6_ofJob_0 : decode cX6_ofJob 0 = .ok (.aload_n 0, 1) := by decide +kernel
theorem dX6_ofJob_1 : decode cX6_ofJob 1 = .ok (.iconst 0, 1) := by decide +kernel
theorem dX6_ofJob_2 : decode cX6_ofJob 2 = .ok (.putfield 32, 3) := by decide +kernel
theorem dX6_ofJob_5 : decode cX6_ofJob 5 = .ok (.aload_n 0, 1) := by decide +kernel
theorem dX6_ofJob_6 : decode cX6_ofJob 6 = .ok (.iload_n 1, 1) := by decide +kernel
theorem dX6_ofJob_7 : decode cX6_ofJob 7 = .ok (.invokevirtual 133, 3) := by decide +kernel
theorem dX6_ofJob_10 : decode cX6_ofJob 10 = .ok (.ifCond .ne 5, 3) := by decide +kernel
theorem dX6_ofJob_13 : decode cX6_ofJob 13 = .ok (.iconst (-1), 1) := by decide +kernel
theorem dX6_ofJob_14 : decode cX6_ofJob 14 = .ok (.ireturn, 1) := by decide +kernel
theorem dX6_ofJob_15 : decode cX6_ofJob 15 = .ok (.iload_n 2, 1) := by decide +kernel
theorem dX6_ofJob_16 : decode cX6_ofJob 16 = .ok (.iconst 0, 1) := by decide +kernel
theorem dX6_ofJob_17 : decode cX6_ofJob 17 = .ok (.bipush 12, 2) := by decide +kernel
theorem dX6_ofJob_19 : decode cX6_ofJob 19 = .ok (.invokestatic 36, 3) := by decide +kernel
theorem dX6_ofJob_22 : decode cX6_ofJob 22 = .ok (.ifCond .ne 6, 3) := by decide +kernel
theorem dX6_ofJob_25 : decode cX6_ofJob 25 = .ok (.bipush (-2), 2) := by decide +kernel
theorem dX6_ofJob_27 : decode cX6_ofJob 27 = .ok (.ireturn, 1) := by decide +kernel
theorem dX6_ofJob_28 : decode cX6_ofJob 28 = .ok (.iload_n 2, 1) := by decide +kernel
theorem dX6_ofJob_29 : decode cX6_ofJob 29 = .ok (.bipush 6, 2) := by decide +kernel
theorem dX6_ofJob_31 : decode cX6_ofJob 31 = .ok (.if_icmp .ne 31, 3) := by decide +kernel
theorem dX6_ofJob_34 : decode cX6_ofJob 34 = .ok (.aload_n 0, 1) := by decide +kernel
theorem dX6_ofJob_35 : decode cX6_ofJob 35 = .ok (.iload_n 1, 1) := by decide +kernel
theorem dX6_ofJob_36 : decode cX6_ofJob 36 = .ok (.bipush 7, 2) := by decide +kernel
theorem dX6_ofJob_38 : decode cX6_ofJob 38 = .ok (.invokevirtual 43, 3) := by decide +kernel
theorem dX6_ofJob_41 : decode cX6_ofJob 41 = .ok (.ifCond .ne 13, 3) := by decide +kernel
theorem dX6_ofJob_44 : decode cX6_ofJob 44 = .ok (.aload_n 0, 1) := by decide +kernel
theorem dX6_ofJob_45 : decode cX6_ofJob 45 = .ok (.iload_n 1, 1) := by decide +kernel
theorem dX6_ofJob_46 : decode cX6_ofJob 46 = .ok (.bipush (-6), 2) := by decide +kernel
theorem dX6_ofJob_48 : decode cX6_ofJob 48 = .ok (.invokevirtual 68, 3) := by decide +kernel
theorem dX6_ofJob_51 : decode cX6_ofJob 51 = .ok (.goto 10, 3) := by decide +kernel
theorem dX6_ofJob_54 : decode cX6_ofJob 54 = .ok (.aload_n 0, 1) := by decide +kernel
theorem dX6_ofJob_55 : decode cX6_ofJob 55 = .ok (.iload_n 1, 1) := by decide +kernel
theorem dX6_ofJob_56 : decode cX6_ofJob 56 = .ok (.bipush 6, 2) := by decide +kernel
theorem dX6_ofJob_58 : decode cX6_ofJob 58 = .ok (.invokevirtual 43, 3) := by decide +kernel
theorem dX6_ofJob_61 : decode cX6_ofJob 61 = .ok (.ireturn, 1) := by decide +kernel
theorem dX6_ofJob_62 : decode cX6_ofJob 62 = .ok (.iload_n 2, 1) := by decide +kernel
end
section
theorem dX6_ofJob_63 : decode cX6_ofJob 63 = .ok (.bipush 12, 2) := by decide +kernel
theorem dX6_ofJob_65 : decode cX6_ofJob 65 = .ok (.if_icmp .ne 19, 3) := by decide +kernel
theorem dX6_ofJob_68 : decode cX6_ofJob 68 = .ok (.aload_n 0, 1) := by decide +kernel
theorem dX6_ofJob_69 : decode cX6_ofJob 69 = .ok (.iload_n 1, 1) := by decide +kernel
theorem dX6_ofJob_70 : decode cX6_ofJob 70 = .ok (.invokevirtual 172, 3) := by decide +kernel
theorem dX6_ofJob_73 : decode cX6_ofJob 73 = .ok (.ifCond .eq 7, 3) := by decide +kernel
theorem dX6_ofJob_76 : decode cX6_ofJob 76 = .ok (.iconst 1, 1) := by decide +kernel
theorem dX6_ofJob_77 : decode cX6_ofJob 77 = .ok (.goto 13, 3) := by decide +kernel
theorem dX6_ofJob_80 : decode cX6_ofJob 80 = .ok (.iconst 0, 1) := by decide +kernel
theorem dX6_ofJob_81 : decode cX6_ofJob 81 = .ok (.goto 9, 3) := by decide +kernel
theorem dX6_ofJob_84 : decode cX6_ofJob 84 = .ok (.aload_n 0, 1) := by decide +kernel
theorem dX6_ofJob_85 : decode cX6_ofJob 85 = .ok (.iload_n 1, 1) := by decide +kernel
theorem dX6_ofJob_86 : decode cX6_ofJob 86 = .ok (.iload_n 2, 1) := by decide +kernel
theorem dX6_ofJob_87 : decode cX6_ofJob 87 = .ok (.invokevirtual 43, 3) := by decide +kernel
theorem dX6_ofJob_90 : decode cX6_ofJob 90 = .ok (.ireturn, 1) := by decide +kernel
theorem dX6_waiting_0 : decode cX6_waiting 0 = .ok (.aload_n 0, 1) := by decide +kernel
theorem dX6_waiting_1 : decode cX6_waiting 1 = .ok (.iconst 0, 1) := by decide +kernel
theorem dX6_waiting_2 : decode cX6_waiting 2 = .ok (.putfield 32, 3) := by decide +kernel
theorem dX6_waiting_5 : decode cX6_waiting 5 = .ok (.iload_n 1, 1) := by decide +kernel
theorem dX6_waiting_6 : decode cX6_waiting 6 = .ok (.ifCond .ge 8, 3) := by decide +kernel
theorem dX6_waiting_9 : decode cX6_waiting 9 = .ok (.bipush (-6), 2) := by decide +kernel
theorem dX6_waiting_11 : decode cX6_waiting 11 = .ok (.goto 9, 3) := by decide +kernel
theorem dX6_waiting_14 : decode cX6_waiting 14 = .ok (.aload_n 0, 1) := by decide +kernel
theorem dX6_waiting_15 : decode cX6_waiting 15 = .ok (.iload_n 1, 1) := by decide +kernel
theorem dX6_waiting_16 : decode cX6_waiting 16 = .ok (.iconst 0, 1) := by decide +kernel
theorem dX6_waiting_17 : decode cX6_waiting 17 = .ok (.invokevirtual 84, 3) := by decide +kernel
theorem dX6_waiting_20 : decode cX6_waiting 20 = .ok (.istore_n 2, 1) := by decide +kernel
theorem dX6_waiting_21 : decode cX6_waiting 21 = .ok (.iload_n 2, 1) := by decide +kernel
theorem dX6_waiting_22 : decode cX6_waiting 22 = .ok (.bipush (-6), 2) := by decide +kernel
theorem dX6_waiting_24 : decode cX6_waiting 24 = .ok (.if_icmp .ne 7, 3) := by decide +kernel
theorem dX6_waiting_27 : decode cX6_waiting 27 = .ok (.iconst (-1), 1) := by decide +kernel
theorem dX6_waiting_28 : decode cX6_waiting 28 = .ok (.goto 4, 3) := by decide +kernel
theorem dX6_waiting_31 : decode cX6_waiting 31 = .ok (.iload_n 2, 1) := by decide +kernel
theorem dX6_waiting_32 : decode cX6_waiting 32 = .ok (.ireturn, 1) := by decide +kernel
theorem dX6_straps_0 : decode cX6_straps 0 = .ok (.aload_n 0, 1) := by decide +kernel
theorem dX6_straps_1 : decode cX6_straps 1 = .ok (.iconst 0, 1) := by decide +kernel
theorem dX6_straps_2 : decode cX6_straps 2 = .ok (.putfield 32, 3) := by decide +kernel
theorem dX6_straps_5 : decode cX6_straps 5 = .ok (.iload_n 1, 1) := by decide +kernel
theorem dX6_straps_6 : decode cX6_straps 6 = .ok (.iconst 0, 1) := by decide +kernel
theorem dX6_straps_7 : decode cX6_straps 7 = .ok (.iconst 2, 1) := by decide +kernel
theorem dX6_straps_8 : decode cX6_straps 8 = .ok (.invokestatic 36, 3) := by decide +kernel
theorem dX6_straps_11 : decode cX6_straps 11 = .ok (.ifCond .ne 5, 3) := by decide +kernel
theorem dX6_straps_14 : decode cX6_straps 14 = .ok (.iconst (-1), 1) := by decide +kernel
theorem dX6_straps_15 : decode cX6_straps 15 = .ok (.ireturn, 1) := by decide +kernel
theorem dX6_straps_16 : decode cX6_straps 16 = .ok (.iload_n 2, 1) := by decide +kernel
theorem dX6_straps_17 : decode cX6_straps 17 = .ok (.iconst 0, 1) := by decide +kernel
theorem dX6_straps_18 : decode cX6_straps 18 = .ok (.iconst 1, 1) := by decide +kernel
theorem dX6_straps_19 : decode cX6_straps 19 = .ok (.invokestatic 36, 3) := by decide +kernel
theorem dX6_straps_22 : decode cX6_straps 22 = .ok (.ifCond .ne 8, 3) := by decide +kernel
theorem dX6_straps_25 : decode cX6_straps 25 = .ok (.bipush (-2), 2) := by decide +kernel
theorem dX6_straps_27 : decode cX6_straps 27 = .ok (.goto 24, 3) := by decide +kernel
theorem dX6_straps_30 : decode cX6_straps 30 = .ok (.iload_n 2, 1) := by decide +kernel
theorem dX6_straps_31 : decode cX6_straps 31 = .ok (.ifCond .ne 15, 3) := by decide +kernel
theorem dX6_straps_34 : decode cX6_straps 34 = .ok (.aload_n 0, 1) := by decide +kernel
theorem dX6_straps_35 : decode cX6_straps 35 = .ok (.getfield 7, 3) := by decide +kernel
theorem dX6_straps_38 : decode cX6_straps 38 = .ok (.bipush 9, 2) := by decide +kernel
theorem dX6_straps_40 : decode cX6_straps 40 = .ok (.iload_n 1, 1) := by decide +kernel
theorem dX6_straps_41 : decode cX6_straps 41 = .ok (.iadd, 1) := by decide +kernel
theorem dX6_straps_42 : decode cX6_straps 42 = .ok (.iaload, 1) := by decide +kernel
theorem dX6_straps_43 : decode cX6_straps 43 = .ok (.goto 8, 3) := by decide +kernel
theorem dX6_straps_46 : decode cX6_straps 46 = .ok (.aload_n 0, 1) := by decide +kernel
theorem dX6_straps_47 : decode cX6_straps 47 = .ok (.iload_n 1, 1) := by decide +kernel
theorem dX6_straps_48 : decode cX6_straps 48 = .ok (.invokevirtual 50, 3) := by decide +kernel
theorem dX6_straps_51 : decode cX6_straps 51 = .ok (.ireturn, 1) := by decide +kernel
theorem dX6_jobsThat_0 : decode cX6_jobsThat 0 = .ok (.iconst 0, 1) := by decide +kernel
theorem dX6_jobsThat_1 : decode cX6_jobsThat 1 = .ok (.istore_n 2, 1) := by decide +kernel
theorem dX6_jobsThat_2 : decode cX6_jobsThat 2 = .ok (.iconst 0, 1) := by decide +kernel
theorem dX6_jobsThat_3 : decode cX6_jobsThat 3 = .ok (.istore_n 3, 1) := by decide +kernel
theorem dX6_jobsThat_4 : decode cX6_jobsThat 4 = .ok (.iload_n 3, 1) := by decide +kernel
theorem dX6_jobsThat_5 : decode cX6_jobsThat 5 = .ok (.aload_n 0, 1) := by decide +kernel
theorem dX6_jobsThat_6 : decode cX6_jobsThat 6 = .ok (.getfield 7, 3) := by decide +kernel
theorem dX6_jobsThat_9 : decode cX6_jobsThat 9 = .ok (.bipush 6, 2) := by decide +kernel
theorem dX6_jobsThat_11 : decode cX6_jobsThat 11 = .ok (.iaload, 1) := by decide +kernel
theorem dX6_jobsThat_12 : decode cX6_jobsThat 12 = .ok (.if_icmp .ge 54, 3) := by decide +kernel
theorem dX6_jobsThat_15 : decode cX6_jobsThat 15 = .ok (.iload_n 1, 1) := by decide +kernel
theorem dX6_jobsThat_16 : decode cX6_jobsThat 16 = .ok (.iconst 3, 1) := by decide +kernel
theorem dX6_jobsThat_17 : decode cX6_jobsThat 17 = .ok (.if_icmp .ne 11, 3) := by decide +kernel
theorem dX6_jobsThat_20 : decode cX6_jobsThat 20 = .ok (.aload_n 0, 1) := by decide +kernel
theorem dX6_jobsThat_21 : decode cX6_jobsThat 21 = .ok (.iload_n 3, 1) := by decide +kernel
theorem dX6_jobsThat_22 : decode cX6_jobsThat 22 = .ok (.invokevirtual 172, 3) := by decide +kernel
theorem dX6_jobsThat_25 : decode cX6_jobsThat 25 = .ok (.goto 18, 3) := by decide +kernel
theorem dX6_jobsThat_28 : decode cX6_jobsThat 28 = .ok (.aload_n 0, 1) := by decide +kernel
theorem dX6_jobsThat_29 : decode cX6_jobsThat 29 = .ok (.iload_n 3, 1) := by decide +kernel
theorem dX6_jobsThat_30 : decode cX6_jobsThat 30 = .ok (.iconst 5, 1) := by decide +kernel
theorem dX6_jobsThat_31 : decode cX6_jobsThat 31 = .ok (.invokevirtual 43, 3) := by decide +kernel
theorem dX6_jobsThat_34 : decode cX6_jobsThat 34 = .ok (.iload_n 1, 1) := by decide +kernel
theorem dX6_jobsThat_35 : decode cX6_jobsThat 35 = .ok (.if_icmp .ne 7, 3) := by decide +kernel
theorem dX6_jobsThat_38 : decode cX6_jobsThat 38 = .ok (.iconst 1, 1) := by decide +kernel
theorem dX6_jobsThat_39 : decode cX6_jobsThat 39 = .ok (.goto 4, 3) := by decide +kernel
theorem dX6_jobsThat_42 : decode cX6_jobsThat 42 = .ok (.iconst 0, 1) := by decide +kernel
theorem dX6_jobsThat_43 : decode cX6_jobsThat 43 = .ok (.istore 4, 2) := by decide +kernel
theorem dX6_jobsThat_45 : decode cX6_jobsThat 45 = .ok (.iload_n 2, 1) := by decide +kernel
theorem dX6_jobsThat_46 : decode cX6_jobsThat 46 = .ok (.iload 4, 2) := by decide +kernel
theorem dX6_jobsThat_48 : decode cX6_jobsThat 48 = .ok (.ifCond .eq 9, 3) := by decide +kernel
theorem dX6_jobsThat_51 : decode cX6_jobsThat 51 = .ok (.iconst 1, 1) := by decide +kernel
theorem dX6_jobsThat_52 : decode cX6_jobsThat 52 = .ok (.iload_n 3, 1) := by decide +kernel
theorem dX6_jobsThat_53 : decode cX6_jobsThat 53 = .ok (.ishl, 1) := by decide +kernel
theorem dX6_jobsThat_54 : decode cX6_jobsThat 54 = .ok (.goto 4, 3) := by decide +kernel
theorem dX6_jobsThat_57 : decode cX6_jobsThat 57 = .ok (.iconst 0, 1) := by decide +kernel
theorem dX6_jobsThat_58 : decode cX6_jobsThat 58 = .ok (.ior, 1) := by decide +kernel
theorem dX6_jobsThat_59 : decode cX6_jobsThat 59 = .ok (.istore_n 2, 1) := by decide +kernel
theorem dX6_jobsThat_60 : decode cX6_jobsThat 60 = .ok (.iinc 3 1, 3) := by decide +kernel
theorem dX6_jobsThat_63 : decode cX6_jobsThat 63 = .ok (.goto (-59), 3) := by decide +kernel
theorem dX6_jobsThat_66 : decode cX6_jobsThat 66 = .ok (.iload_n 2, 1) := by decide +kernel
theorem dX6_jobsThat_67 : decode cX6_jobsThat 67 = .ok (.ireturn, 1) := by decide +kernel
theorem dX6_count_0 : decode cX6_count 0 = .ok (.aload_n 0, 1) := by decide +kernel
theorem dX6_count_1 : decode cX6_count 1 = .ok (.iconst 0, 1) := by decide +kernel
theorem dX6_count_2 : decode cX6_count 2 = .ok (.putfield 32, 3) := by decide +kernel
theorem dX6_count_5 : decode cX6_count 5 = .ok (.iload_n 1, 1) := by decide +kernel
theorem dX6_count_6 : decode cX6_count 6 = .ok (.tableswitch 141 0 15 #[78, 78, 87, 92, 100, 100, 100, 100, 108, 108, 121, 121, 121, 121, 131, 136], 78) := by decide +kernel
theorem dX6_count_84 : decode cX6_count 84 = .ok (.aload_n 0, 1) := by decide +kernel
theorem dX6_count_85 : decode cX6_count 85 = .ok (.getfield 7, 3) := by decide +kernel
theorem dX6_count_88 : decode cX6_count 88 = .ok (.iconst 4, 1) := by decide +kernel
theorem dX6_count_89 : decode cX6_count 89 = .ok (.iload_n 1, 1) := by decide +kernel
theorem dX6_count_90 : decode cX6_count 90 = .ok (.iadd, 1) := by decide +kernel
theorem dX6_count_91 : decode cX6_count 91 = .ok (.iaload, 1) := by decide +kernel
theorem dX6_count_92 : decode cX6_count 92 = .ok (.ireturn, 1) := by decide +kernel
theorem dX6_count_93 : decode cX6_count 93 = .ok (.aload_n 0, 1) := by decide +kernel
theorem dX6_count_94 : decode cX6_count 94 = .ok (.invokevirtual 57, 3) := by decide +kernel
theorem dX6_count_97 : decode cX6_count 97 = .ok (.ireturn, 1) := by decide +kernel
theorem dX6_count_98 : decode cX6_count 98 = .ok (.aload_n 0, 1) := by decide +kernel
theorem dX6_count_99 : decode cX6_count 99 = .ok (.getfield 7, 3) := by decide +kernel
theorem dX6_count_102 : decode cX6_count 102 = .ok (.bipush 6, 2) := by decide +kernel
theorem dX6_count_104 : decode cX6_count 104 = .ok (.iaload, 1) := by decide +kernel
theorem dX6_count_105 : decode cX6_count 105 = .ok (.ireturn, 1) := by decide +kernel
theorem dX6_count_106 : decode cX6_count 106 = .ok (.aload_n 0, 1) := by decide +kernel
theorem dX6_count_107 : decode cX6_count 107 = .ok (.iload_n 1, 1) := by decide +kernel
theorem dX6_count_108 : decode cX6_count 108 = .ok (.iconst 4, 1) := by decide +kernel
theorem dX6_count_109 : decode cX6_count 109 = .ok (.isub, 1) := by decide +kernel
theorem dX6_count_110 : decode cX6_count 110 = .ok (.invokevirtual 175, 3) := by decide +kernel
theorem dX6_count_113 : decode cX6_count 113 = .ok (.ireturn, 1) := by decide +kernel
theorem dX6_count_114 : decode cX6_count 114 = .ok (.aload_n 0, 1) := by decide +kernel
theorem dX6_count_115 : decode cX6_count 115 = .ok (.getfield 7, 3) := by decide +kernel
theorem dX6_count_118 : decode cX6_count 118 = .ok (.bipush 7, 2) := by decide +kernel
theorem dX6_count_120 : decode cX6_count 120 = .ok (.iload_n 1, 1) := by decide +kernel
theorem dX6_count_121 : decode cX6_count 121 = .ok (.iadd, 1) := by decide +kernel
theorem dX6_count_122 : decode cX6_count 122 = .ok (.bipush 8, 2) := by decide +kernel
theorem dX6_count_124 : decode cX6_count 124 = .ok (.isub, 1) := by decide +kernel
theorem dX6_count_125 : decode cX6_count 125 = .ok (.iaload, 1) := by decide +kernel
theorem dX6_count_126 : decode cX6_count 126 = .ok (.ireturn, 1) := by decide +kernel
theorem dX6_count_127 : decode cX6_count 127 = .ok (.aload_n 0, 1) := by decide +kernel
theorem dX6_count_128 : decode cX6_count 128 = .ok (.getfield 7, 3) := by decide +kernel
theorem dX6_count_131 : decode cX6_count 131 = .ok (.iload_n 1, 1) := by decide +kernel
theorem dX6_count_132 : decode cX6_count 132 = .ok (.bipush 10, 2) := by decide +kernel
theorem dX6_count_134 : decode cX6_count 134 = .ok (.isub, 1) := by decide +kernel
theorem dX6_count_135 : decode cX6_count 135 = .ok (.iaload, 1) := by decide +kernel
theorem dX6_count_136 : decode cX6_count 136 = .ok (.ireturn, 1) := by decide +kernel
theorem dX6_count_137 : decode cX6_count 137 = .ok (.aload_n 0, 1) := by decide +kernel
theorem dX6_count_138 : decode cX6_count 138 = .ok (.getfield 178, 3) := by decide +kernel
theorem dX6_count_141 : decode cX6_count 141 = .ok (.ireturn, 1) := by decide +kernel
theorem dX6_count_142 : decode cX6_count 142 = .ok (.aload_n 0, 1) := by decide +kernel
theorem dX6_count_143 : decode cX6_count 143 = .ok (.getfield 40, 3) := by decide +kernel
theorem dX6_count_146 : decode cX6_count 146 = .ok (.ireturn, 1) := by decide +kernel
theorem dX6_count_147 : decode cX6_count 147 = .ok (.bipush (-2), 2) := by decide +kernel
theorem dX6_count_149 : decode cX6_count 149 = .ok (.ireturn, 1) := by decide +kernel
theorem dX6_why_0 : decode cX6_why 0 = .ok (.aload_n 0, 1) := by decide +kernel
theorem dX6_why_1 : decode cX6_why 1 = .ok (.iconst 0, 1) := by decide +kernel
theorem dX6_why_2 : decode cX6_why 2 = .ok (.putfield 32, 3) := by decide +kernel
theorem dX6_why_5 : decode cX6_why 5 = .ok (.aload_n 0, 1) := by decide +kernel
theorem dX6_why_6 : decode cX6_why 6 = .ok (.iload_n 1, 1) := by decide +kernel
theorem dX6_why_7 : decode cX6_why 7 = .ok (.invokevirtual 133, 3) := by decide +kernel
theorem dX6_why_10 : decode cX6_why 10 = .ok (.ifCond .ne 5, 3) := by decide +kernel
theorem dX6_why_13 : decode cX6_why 13 = .ok (.iconst (-1), 1) := by decide +kernel
theorem dX6_why_14 : decode cX6_why 14 = .ok (.ireturn, 1) := by decide +kernel
theorem dX6_why_15 : decode cX6_why 15 = .ok (.iload_n 3, 1) := by decide +kernel
theorem dX6_why_16 : decode cX6_why 16 = .ok (.invokestatic 136, 3) := by decide +kernel
theorem dX6_why_19 : decode cX6_why 19 = .ok (.ifCond .eq 13, 3) := by decide +kernel
theorem dX6_why_22 : decode cX6_why 22 = .ok (.aload_n 0, 1) := by decide +kernel
theorem dX6_why_23 : decode cX6_why 23 = .ok (.iload_n 1, 1) := by decide +kernel
theorem dX6_why_24 : decode cX6_why 24 = .ok (.iload_n 2, 1) := by decide +kernel
theorem dX6_why_25 : decode cX6_why 25 = .ok (.iload_n 3, 1) := by decide +kernel
theorem dX6_why_26 : decode cX6_why 26 = .ok (.invokevirtual 139, 3) := by decide +kernel
theorem dX6_why_29 : decode cX6_why 29 = .ok (.goto 5, 3) := by decide +kernel
theorem dX6_why_32 : decode cX6_why 32 = .ok (.bipush (-2), 2) := by decide +kernel
theorem dX6_why_34 : decode cX6_why 34 = .ok (.ireturn, 1) := by decide +kernel
theorem dX6_crew_0 : decode cX6_crew 0 = .ok (.aload_n 0, 1) := by decide +kernel
theorem dX6_crew_1 : decode cX6_crew 1 = .ok (.iconst 0, 1) := by decide +kernel
theorem dX6_crew_2 : decode cX6_crew 2 = .ok (.putfield 32, 3) := by decide +kernel
theorem dX6_crew_5 : decode cX6_crew 5 = .ok (.aload_n 0, 1) := by decide +kernel
theorem dX6_crew_6 : decode cX6_crew 6 = .ok (.iload_n 1, 1) := by decide +kernel
theorem dX6_crew_7 : decode cX6_crew 7 = .ok (.invokevirtual 133, 3) := by decide +kernel
theorem dX6_crew_10 : decode cX6_crew 10 = .ok (.ifCond .ne 5, 3) := by decide +kernel
theorem dX6_crew_13 : decode cX6_crew 13 = .ok (.iconst (-1), 1) := by decide +kernel
theorem dX6_crew_14 : decode cX6_crew 14 = .ok (.ireturn, 1) := by decide +kernel
theorem dX6_crew_15 : decode cX6_crew 15 = .ok (.iload_n 2, 1) := by decide +kernel
theorem dX6_crew_16 : decode cX6_crew 16 = .ok (.invokestatic 136, 3) := by decide +kernel
theorem dX6_crew_19 : decode cX6_crew 19 = .ok (.ifCond .ne 6, 3) := by decide +kernel
theorem dX6_crew_22 : decode cX6_crew 22 = .ok (.bipush (-2), 2) := by decide +kernel
theorem dX6_crew_24 : decode cX6_crew 24 = .ok (.ireturn, 1) := by decide +kernel
theorem dX6_crew_25 : decode cX6_crew 25 = .ok (.aload_n 0, 1) := by decide +kernel
theorem dX6_crew_26 : decode cX6_crew 26 = .ok (.iload_n 1, 1) := by decide +kernel
theorem dX6_crew_27 : decode cX6_crew 27 = .ok (.iconst 5, 1) := by decide +kernel
theorem dX6_crew_28 : decode cX6_crew 28 = .ok (.invokevirtual 43, 3) := by decide +kernel
theorem dX6_crew_31 : decode cX6_crew 31 = .ok (.ifCond .eq 8, 3) := by decide +kernel
theorem dX6_crew_34 : decode cX6_crew 34 = .ok (.bipush (-5), 2) := by decide +kernel
theorem dX6_crew_36 : decode cX6_crew 36 = .ok (.goto 9, 3) := by decide +kernel
theorem dX6_crew_39 : decode cX6_crew 39 = .ok (.aload_n 0, 1) := by decide +kernel
theorem dX6_crew_40 : decode cX6_crew 40 = .ok (.iload_n 1, 1) := by decide +kernel
theorem dX6_crew_41 : decode cX6_crew 41 = .ok (.iload_n 2, 1) := by decide +kernel
theorem dX6_crew_42 : decode cX6_crew 42 = .ok (.invokevirtual 74, 3) := by decide +kernel
theorem dX6_crew_45 : decode cX6_crew 45 = .ok (.ireturn, 1) := by decide +kernel
theorem dX6_bestStraps_0 : decode cX6_bestStraps 0 = .ok (.aload_n 0, 1) := by decide +kernel
theorem dX6_bestStraps_1 : decode cX6_bestStraps 1 = .ok (.iconst 0, 1) := by decide +kernel
theorem dX6_bestStraps_2 : decode cX6_bestStraps 2 = .ok (.putfield 32, 3) := by decide +kernel
theorem dX6_bestStraps_5 : decode cX6_bestStraps 5 = .ok (.aload_n 0, 1) := by decide +kernel
theorem dX6_bestStraps_6 : decode cX6_bestStraps 6 = .ok (.iload_n 1, 1) := by decide +kernel
theorem dX6_bestStraps_7 : decode cX6_bestStraps 7 = .ok (.invokevirtual 133, 3) := by decide +kernel
theorem dX6_bestStraps_10 : decode cX6_bestStraps 10 = .ok (.ifCond .ne 5, 3) := by decide +kernel
theorem dX6_bestStraps_13 : decode cX6_bestStraps 13 = .ok (.iconst (-1), 1) := by decide +kernel
theorem dX6_bestStraps_14 : decode cX6_bestStraps 14 = .ok (.ireturn, 1) := by decide +kernel
theorem dX6_bestStraps_15 : decode cX6_bestStraps 15 = .ok (.aload_n 0, 1) := by decide +kernel
theorem dX6_bestStraps_16 : decode cX6_bestStraps 16 = .ok (.iload_n 1, 1) := by decide +kernel
theorem dX6_bestStraps_17 : decode cX6_bestStraps 17 = .ok (.iconst 5, 1) := by decide +kernel
theorem dX6_bestStraps_18 : decode cX6_bestStraps 18 = .ok (.invokevirtual 43, 3) := by decide +kernel
theorem dX6_bestStraps_21 : decode cX6_bestStraps 21 = .ok (.ifCond .eq 8, 3) := by decide +kernel
theorem dX6_bestStraps_24 : decode cX6_bestStraps 24 = .ok (.bipush (-5), 2) := by decide +kernel
theorem dX6_bestStraps_26 : decode cX6_bestStraps 26 = .ok (.goto 8, 3) := by decide +kernel
theorem dX6_bestStraps_29 : decode cX6_bestStraps 29 = .ok (.aload_n 0, 1) := by decide +kernel
theorem dX6_bestStraps_30 : decode cX6_bestStraps 30 = .ok (.iload_n 1, 1) := by decide +kernel
theorem dX6_bestStraps_31 : decode cX6_bestStraps 31 = .ok (.invokevirtual 87, 3) := by decide +kernel
theorem dX6_bestStraps_34 : decode cX6_bestStraps 34 = .ok (.ireturn, 1) := by decide +kernel
theorem dX6_doneIn_0 : decode cX6_doneIn 0 = .ok (.aload_n 0, 1) := by decide +kernel
theorem dX6_doneIn_1 : decode cX6_doneIn 1 = .ok (.iconst 0, 1) := by decide +kernel
theorem dX6_doneIn_2 : decode cX6_doneIn 2 = .ok (.putfield 32, 3) := by decide +kernel
theorem dX6_doneIn_5 : decode cX6_doneIn 5 = .ok (.aload_n 0, 1) := by decide +kernel
theorem dX6_doneIn_6 : decode cX6_doneIn 6 = .ok (.iload_n 1, 1) := by decide +kernel
theorem dX6_doneIn_7 : decode cX6_doneIn 7 = .ok (.invokevirtual 133, 3) := by decide +kernel
theorem dX6_doneIn_10 : decode cX6_doneIn 10 = .ok (.ifCond .ne 5, 3) := by decide +kernel
theorem dX6_doneIn_13 : decode cX6_doneIn 13 = .ok (.iconst (-1), 1) := by decide +kernel
theorem dX6_doneIn_14 : decode cX6_doneIn 14 = .ok (.ireturn, 1) := by decide +kernel
theorem dX6_doneIn_15 : decode cX6_doneIn 15 = .ok (.aload_n 0, 1) := by decide +kernel
theorem dX6_doneIn_16 : decode cX6_doneIn 16 = .ok (.iload_n 1, 1) := by decide +kernel
theorem dX6_doneIn_17 : decode cX6_doneIn 17 = .ok (.iconst 5, 1) := by decide +kernel
theorem dX6_doneIn_18 : decode cX6_doneIn 18 = .ok (.invokevirtual 43, 3) := by decide +kernel
theorem dX6_doneIn_21 : decode cX6_doneIn 21 = .ok (.iconst 1, 1) := by decide +kernel
theorem dX6_doneIn_22 : decode cX6_doneIn 22 = .ok (.if_icmp .eq 6, 3) := by decide +kernel
theorem dX6_doneIn_25 : decode cX6_doneIn 25 = .ok (.bipush (-5), 2) := by decide +kernel
theorem dX6_doneIn_27 : decode cX6_doneIn 27 = .ok (.ireturn, 1) := by decide +kernel
theorem dX6_doneIn_28 : decode cX6_doneIn 28 = .ok (.aload_n 0, 1) := by decide +kernel
theorem dX6_doneIn_29 : decode cX6_doneIn 29 = .ok (.invokevirtual 181, 3) := by decide +kernel
theorem dX6_doneIn_32 : decode cX6_doneIn 32 = .ok (.iconst 0, 1) := by decide +kernel
theorem dX6_doneIn_33 : decode cX6_doneIn 33 = .ok (.istore_n 2, 1) := by decide +kernel
theorem dX6_doneIn_34 : decode cX6_doneIn 34 = .ok (.iload_n 2, 1) := by decide +kernel
theorem dX6_doneIn_35 : decode cX6_doneIn 35 = .ok (.sipush 500, 3) := by decide +kernel
theorem dX6_doneIn_38 : decode cX6_doneIn 38 = .ok (.if_icmp .ge 24, 3) := by decide +kernel
theorem dX6_doneIn_41 : decode cX6_doneIn 41 = .ok (.aload_n 0, 1) := by decide +kernel
theorem dX6_doneIn_42 : decode cX6_doneIn 42 = .ok (.iload_n 1, 1) := by decide +kernel
theorem dX6_doneIn_43 : decode cX6_doneIn 43 = .ok (.iconst 5, 1) := by decide +kernel
theorem dX6_doneIn_44 : decode cX6_doneIn 44 = .ok (.invokevirtual 43, 3) := by decide +kernel
theorem dX6_doneIn_47 : decode cX6_doneIn 47 = .ok (.iconst 1, 1) := by decide +kernel
theorem dX6_doneIn_48 : decode cX6_doneIn 48 = .ok (.if_icmp .ne 14, 3) := by decide +kernel
theorem dX6_doneIn_51 : decode cX6_doneIn 51 = .ok (.aload_n 0, 1) := by decide +kernel
theorem dX6_doneIn_52 : decode cX6_doneIn 52 = .ok (.invokevirtual 160, 3) := by decide +kernel
theorem dX6_doneIn_55 : decode cX6_doneIn 55 = .ok (.pop, 1) := by decide +kernel
theorem dX6_doneIn_56 : decode cX6_doneIn 56 = .ok (.iinc 2 1, 3) := by decide +kernel
theorem dX6_doneIn_59 : decode cX6_doneIn 59 = .ok (.goto (-25), 3) := by decide +kernel
theorem dX6_doneIn_62 : decode cX6_doneIn 62 = .ok (.aload_n 0, 1) := by decide +kernel
theorem dX6_doneIn_63 : decode cX6_doneIn 63 = .ok (.iload_n 1, 1) := by decide +kernel
theorem dX6_doneIn_64 : decode cX6_doneIn 64 = .ok (.iconst 5, 1) := by decide +kernel
theorem dX6_doneIn_65 : decode cX6_doneIn 65 = .ok (.invokevirtual 43, 3) := by decide +kernel
theorem dX6_doneIn_68 : decode cX6_doneIn 68 = .ok (.iconst 2, 1) := by decide +kernel
theorem dX6_doneIn_69 : decode cX6_doneIn 69 = .ok (.if_icmp .ne 7, 3) := by decide +kernel
theorem dX6_doneIn_72 : decode cX6_doneIn 72 = .ok (.iload_n 2, 1) := by decide +kernel
theorem dX6_doneIn_73 : decode cX6_doneIn 73 = .ok (.goto 5, 3) := by decide +kernel
theorem dX6_doneIn_76 : decode cX6_doneIn 76 = .ok (.bipush (-6), 2) := by decide +kernel
theorem dX6_doneIn_78 : decode cX6_doneIn 78 = .ok (.istore_n 3, 1) := by decide +kernel
theorem dX6_doneIn_79 : decode cX6_doneIn 79 = .ok (.aload_n 0, 1) := by decide +kernel
theorem dX6_doneIn_80 : decode cX6_doneIn 80 = .ok (.invokevirtual 184, 3) := by decide +kernel
theorem dX6_doneIn_83 : decode cX6_doneIn 83 = .ok (.iload_n 3, 1) := by decide +kernel
theorem dX6_doneIn_84 : decode cX6_doneIn 84 = .ok (.ireturn, 1) := by decide +kernel
theorem dX6_ifAssigned_0 : decode cX6_ifAssigned 0 = .ok (.aload_n 0, 1) := by decide +kernel
theorem dX6_ifAssigned_1 : decode cX6_ifAssigned 1 = .ok (.iconst 0, 1) := by decide +kernel
theorem dX6_ifAssigned_2 : decode cX6_ifAssigned 2 = .ok (.putfield 32, 3) := by decide +kernel
theorem dX6_ifAssigned_5 : decode cX6_ifAssigned 5 = .ok (.aload_n 0, 1) := by decide +kernel
theorem dX6_ifAssigned_6 : decode cX6_ifAssigned 6 = .ok (.invokevirtual 181, 3) := by decide +kernel
theorem dX6_ifAssigned_9 : decode cX6_ifAssigned 9 = .ok (.aload_n 0, 1) := by decide +kernel
theorem dX6_ifAssigned_10 : decode cX6_ifAssigned 10 = .ok (.invokevirtual 145, 3) := by decide +kernel
theorem dX6_ifAssigned_13 : decode cX6_ifAssigned 13 = .ok (.istore_n 1, 1) := by decide +kernel
theorem dX6_ifAssigned_14 : decode cX6_ifAssigned 14 = .ok (.aload_n 0, 1) := by decide +kernel
theorem dX6_ifAssigned_15 : decode cX6_ifAssigned 15 = .ok (.invokevirtual 184, 3) := by decide +kernel
theorem dX6_ifAssigned_18 : decode cX6_ifAssigned 18 = .ok (.iload_n 1, 1) := by decide +kernel
theorem dX6_ifAssigned_19 : decode cX6_ifAssigned 19 = .ok (.ireturn, 1) := by decide +kernel
theorem dX6_put_0 : decode cX6_put 0 = .ok (.aload_n 0, 1) := by decide +kernel
theorem dX6_put_1 : decode cX6_put 1 = .ok (.iconst 0, 1) := by decide +kernel
theorem dX6_put_2 : decode cX6_put 2 = .ok (.putfield 32, 3) := by decide +kernel
theorem dX6_put_5 : decode cX6_put 5 = .ok (.iconst 0, 1) := by decide +kernel
theorem dX6_put_6 : decode cX6_put 6 = .ok (.istore_n 3, 1) := by decide +kernel
theorem dX6_put_7 : decode cX6_put 7 = .ok (.lload_n 1, 1) := by decide +kernel
theorem dX6_put_8 : decode cX6_put 8 = .ok (.lstore 4, 2) := by decide +kernel
theorem dX6_put_10 : decode cX6_put 10 = .ok (.iconst 1, 1) := by decide +kernel
theorem dX6_put_11 : decode cX6_put 11 = .ok (.istore 6, 2) := by decide +kernel
theorem dX6_put_13 : decode cX6_put 13 = .ok (.iload_n 3, 1) := by decide +kernel
theorem dX6_put_14 : decode cX6_put 14 = .ok (.bipush 8, 2) := by decide +kernel
theorem dX6_put_16 : decode cX6_put 16 = .ok (.if_icmp .ge 56, 3) := by decide +kernel
theorem dX6_put_19 : decode cX6_put 19 = .ok (.lload 4, 2) := by decide +kernel
theorem dX6_put_21 : decode cX6_put 21 = .ok (.ldc2_w 187, 3) := by decide +kernel
theorem dX6_put_24 : decode cX6_put 24 = .ok (.land, 1) := by decide +kernel
theorem dX6_put_25 : decode cX6_put 25 = .ok (.lconst 0, 1) := by decide +kernel
theorem dX6_put_26 : decode cX6_put 26 = .ok (.lcmp, 1) := by decide +kernel
theorem dX6_put_27 : decode cX6_put 27 = .ok (.ifCond .eq 45, 3) := by decide +kernel
theorem dX6_put_30 : decode cX6_put 30 = .ok (.iload 6, 2) := by decide +kernel
theorem dX6_put_32 : decode cX6_put 32 = .ok (.ifCond .eq 24, 3) := by decide +kernel
theorem dX6_put_35 : decode cX6_put 35 = .ok (.lload 4, 2) := by decide +kernel
theorem dX6_put_37 : decode cX6_put 37 = .ok (.ldc2_w 187, 3) := by decide +kernel
theorem dX6_put_40 : decode cX6_put 40 = .ok (.land, 1) := by decide +kernel
theorem dX6_put_41 : decode cX6_put 41 = .ok (.l2i, 1) := by decide +kernel
theorem dX6_put_42 : decode cX6_put 42 = .ok (.bipush 33, 2) := by decide +kernel
theorem dX6_put_44 : decode cX6_put 44 = .ok (.bipush 126, 2) := by decide +kernel
theorem dX6_put_46 : decode cX6_put 46 = .ok (.invokestatic 36, 3) := by decide +kernel
theorem dX6_put_49 : decode cX6_put 49 = .ok (.ifCond .eq 7, 3) := by decide +kernel
theorem dX6_put_52 : decode cX6_put 52 = .ok (.iconst 1, 1) := by decide +kernel
theorem dX6_put_53 : decode cX6_put 53 = .ok (.goto 4, 3) := by decide +kernel
theorem dX6_put_56 : decode cX6_put 56 = .ok (.iconst 0, 1) := by decide +kernel
theorem dX6_put_57 : decode cX6_put 57 = .ok (.istore 6, 2) := by decide +kernel
theorem dX6_put_59 : decode cX6_put 59 = .ok (.lload 4, 2) := by decide +kernel
theorem dX6_put_61 : decode cX6_put 61 = .ok (.bipush 8, 2) := by decide +kernel
theorem dX6_put_63 : decode cX6_put 63 = .ok (.lushr, 1) := by decide +kernel
theorem dX6_put_64 : decode cX6_put 64 = .ok (.lstore 4, 2) := by decide +kernel
theorem dX6_put_66 : decode cX6_put 66 = .ok (.iinc 3 1, 3) := by decide +kernel
theorem dX6_put_69 : decode cX6_put 69 = .ok (.goto (-56), 3) := by decide +kernel
theorem dX6_put_72 : decode cX6_put 72 = .ok (.iload_n 3, 1) := by decide +kernel
theorem dX6_put_73 : decode cX6_put 73 = .ok (.ifCond .eq 15, 3) := by decide +kernel
theorem dX6_put_76 : decode cX6_put 76 = .ok (.iload 6, 2) := by decide +kernel
theorem dX6_put_78 : decode cX6_put 78 = .ok (.ifCond .eq 10, 3) := by decide +kernel
theorem dX6_put_81 : decode cX6_put 81 = .ok (.lload 4, 2) := by decide +kernel
theorem dX6_put_83 : decode cX6_put 83 = .ok (.lconst 0, 1) := by decide +kernel
theorem dX6_put_84 : decode cX6_put 84 = .ok (.lcmp, 1) := by decide +kernel
theorem dX6_put_85 : decode cX6_put 85 = .ok (.ifCond .eq 6, 3) := by decide +kernel
theorem dX6_put_88 : decode cX6_put 88 = .ok (.bipush (-2), 2) := by decide +kernel
theorem dX6_put_90 : decode cX6_put 90 = .ok (.ireturn, 1) := by decide +kernel
theorem dX6_put_91 : decode cX6_put 91 = .ok (.aload_n 0, 1) := by decide +kernel
theorem dX6_put_92 : decode cX6_put 92 = .ok (.getfield 178, 3) := by decide +kernel
theorem dX6_put_95 : decode cX6_put 95 = .ok (.iload_n 3, 1) := by decide +kernel
theorem dX6_put_96 : decode cX6_put 96 = .ok (.iadd, 1) := by decide +kernel
theorem dX6_put_97 : decode cX6_put 97 = .ok (.bipush 80, 2) := by decide +kernel
theorem dX6_put_99 : decode cX6_put 99 = .ok (.if_icmp .le 6, 3) := by decide +kernel
theorem dX6_put_102 : decode cX6_put 102 = .ok (.bipush (-4), 2) := by decide +kernel
theorem dX6_put_104 : decode cX6_put 104 = .ok (.ireturn, 1) := by decide +kernel
theorem dX6_put_105 : decode cX6_put 105 = .ok (.iconst 0, 1) := by decide +kernel
theorem dX6_put_106 : decode cX6_put 106 = .ok (.istore 7, 2) := by decide +kernel
theorem dX6_put_108 : decode cX6_put 108 = .ok (.iload 7, 2) := by decide +kernel
theorem dX6_put_110 : decode cX6_put 110 = .ok (.iload_n 3, 1) := by decide +kernel
theorem dX6_put_111 : decode cX6_put 111 = .ok (.if_icmp .ge 37, 3) := by decide +kernel
theorem dX6_put_114 : decode cX6_put 114 = .ok (.aload_n 0, 1) := by decide +kernel
theorem dX6_put_115 : decode cX6_put 115 = .ok (.getfield 26, 3) := by decide +kernel
theorem dX6_put_118 : decode cX6_put 118 = .ok (.aload_n 0, 1) := by decide +kernel
theorem dX6_put_119 : decode cX6_put 119 = .ok (.getfield 178, 3) := by decide +kernel
theorem dX6_put_122 : decode cX6_put 122 = .ok (.iload 7, 2) := by decide +kernel
theorem dX6_put_124 : decode cX6_put 124 = .ok (.iadd, 1) := by decide +kernel
theorem dX6_put_125 : decode cX6_put 125 = .ok (.lload_n 1, 1) := by decide +kernel
theorem dX6_put_126 : decode cX6_put 126 = .ok (.bipush 8, 2) := by decide +kernel
theorem dX6_put_128 : decode cX6_put 128 = .ok (.iload_n 3, 1) := by decide +kernel
theorem dX6_put_129 : decode cX6_put 129 = .ok (.iconst 1, 1) := by decide +kernel
theorem dX6_put_130 : decode cX6_put 130 = .ok (.isub, 1) := by decide +kernel
theorem dX6_put_131 : decode cX6_put 131 = .ok (.iload 7, 2) := by decide +kernel
theorem dX6_put_133 : decode cX6_put 133 = .ok (.isub, 1) := by decide +kernel
theorem dX6_put_134 : decode cX6_put 134 = .ok (.imul, 1) := by decide +kernel
theorem dX6_put_135 : decode cX6_put 135 = .ok (.lushr, 1) := by decide +kernel
theorem dX6_put_136 : decode cX6_put 136 = .ok (.ldc2_w 187, 3) := by decide +kernel
theorem dX6_put_139 : decode cX6_put 139 = .ok (.land, 1) := by decide +kernel
theorem dX6_put_140 : decode cX6_put 140 = .ok (.l2i, 1) := by decide +kernel
theorem dX6_put_141 : decode cX6_put 141 = .ok (.iastore, 1) := by decide +kernel
theorem dX6_put_142 : decode cX6_put 142 = .ok (.iinc 7 1, 3) := by decide +kernel
theorem dX6_put_145 : decode cX6_put 145 = .ok (.goto (-37), 3) := by decide +kernel
theorem dX6_put_148 : decode cX6_put 148 = .ok (.aload_n 0, 1) := by decide +kernel
theorem dX6_put_149 : decode cX6_put 149 = .ok (.dup, 1) := by decide +kernel
theorem dX6_put_150 : decode cX6_put 150 = .ok (.getfield 178, 3) := by decide +kernel
theorem dX6_put_153 : decode cX6_put 153 = .ok (.iload_n 3, 1) := by decide +kernel
theorem dX6_put_154 : decode cX6_put 154 = .ok (.iadd, 1) := by decide +kernel
theorem dX6_put_155 : decode cX6_put 155 = .ok (.putfield 178, 3) := by decide +kernel
theorem dX6_put_158 : decode cX6_put 158 = .ok (.aload_n 0, 1) := by decide +kernel
theorem dX6_put_159 : decode cX6_put 159 = .ok (.getfield 178, 3) := by decide +kernel
theorem dX6_put_162 : decode cX6_put 162 = .ok (.ireturn, 1) := by decide +kernel
theorem dX6_wipe_0 : decode cX6_wipe 0 = .ok (.aload_n 0, 1) := by decide +kernel
theorem dX6_wipe_1 : decode cX6_wipe 1 = .ok (.iconst 0, 1) := by decide +kernel
theorem dX6_wipe_2 : decode cX6_wipe 2 = .ok (.putfield 32, 3) := by decide +kernel
theorem dX6_wipe_5 : decode cX6_wipe 5 = .ok (.aload_n 0, 1) := by decide +kernel
theorem dX6_wipe_6 : decode cX6_wipe 6 = .ok (.getfield 178, 3) := by decide +kernel
theorem dX6_wipe_9 : decode cX6_wipe 9 = .ok (.istore_n 1, 1) := by decide +kernel
theorem dX6_wipe_10 : decode cX6_wipe 10 = .ok (.aload_n 0, 1) := by decide +kernel
theorem dX6_wipe_11 : decode cX6_wipe 11 = .ok (.iconst 0, 1) := by decide +kernel
theorem dX6_wipe_12 : decode cX6_wipe 12 = .ok (.putfield 178, 3) := by decide +kernel
theorem dX6_wipe_15 : decode cX6_wipe 15 = .ok (.iload_n 1, 1) := by decide +kernel
theorem dX6_wipe_16 : decode cX6_wipe 16 = .ok (.ireturn, 1) := by decide +kernel
theorem dX6_letter_0 : decode cX6_letter 0 = .ok (.aload_n 0, 1) := by decide +kernel
theorem dX6_letter_1 : decode cX6_letter 1 = .ok (.getfield 189, 3) := by decide +kernel
theorem dX6_letter_4 : decode cX6_letter 4 = .ok (.aload_n 0, 1) := by decide +kernel
theorem dX6_letter_5 : decode cX6_letter 5 = .ok (.getfield 178, 3) := by decide +kernel
theorem dX6_letter_8 : decode cX6_letter 8 = .ok (.if_icmp .ge 15, 3) := by decide +kernel
theorem dX6_letter_11 : decode cX6_letter 11 = .ok (.aload_n 0, 1) := by decide +kernel
theorem dX6_letter_12 : decode cX6_letter 12 = .ok (.getfield 26, 3) := by decide +kernel
theorem dX6_letter_15 : decode cX6_letter 15 = .ok (.aload_n 0, 1) := by decide +kernel
theorem dX6_letter_16 : decode cX6_letter 16 = .ok (.getfield 189, 3) := by decide +kernel
theorem dX6_letter_19 : decode cX6_letter 19 = .ok (.iaload, 1) := by decide +kernel
theorem dX6_letter_20 : decode cX6_letter 20 = .ok (.goto 4, 3) := by decide +kernel
theorem dX6_letter_23 : decode cX6_letter 23 = .ok (.iconst 0, 1) := by decide +kernel
theorem dX6_letter_24 : decode cX6_letter 24 = .ok (.ireturn, 1) := by decide +kernel
theorem dX6_wants_0 : decode cX6_wants 0 = .ok (.aload_n 0, 1) := by decide +kernel
theorem dX6_wants_1 : decode cX6_wants 1 = .ok (.aload_n 0, 1) := by decide +kernel
theorem dX6_wants_2 : decode cX6_wants 2 = .ok (.getfield 192, 3) := by decide +kernel
theorem dX6_wants_5 : decode cX6_wants 5 = .ok (.ifCond .eq 15, 3) := by decide +kernel
theorem dX6_wants_8 : decode cX6_wants 8 = .ok (.aload_n 0, 1) := by decide +kernel
theorem dX6_wants_9 : decode cX6_wants 9 = .ok (.invokevirtual 196, 3) := by decide +kernel
theorem dX6_wants_12 : decode cX6_wants 12 = .ok (.iload_n 1, 1) := by decide +kernel
theorem dX6_wants_13 : decode cX6_wants 13 = .ok (.if_icmp .ne 7, 3) := by decide +kernel
theorem dX6_wants_16 : decode cX6_wants 16 = .ok (.iconst 1, 1) := by decide +kernel
theorem dX6_wants_17 : decode cX6_wants 17 = .ok (.goto 4, 3) := by decide +kernel
theorem dX6_wants_20 : decode cX6_wants 20 = .ok (.iconst 0, 1) := by decide +kernel
theorem dX6_wants_21 : decode cX6_wants 21 = .ok (.putfield 192, 3) := by decide +kernel
theorem dX6_wants_24 : decode cX6_wants 24 = .ok (.aload_n 0, 1) := by decide +kernel
theorem dX6_wants_25 : decode cX6_wants 25 = .ok (.dup, 1) := by decide +kernel
theorem dX6_wants_26 : decode cX6_wants 26 = .ok (.getfield 189, 3) := by decide +kernel
theorem dX6_wants_29 : decode cX6_wants 29 = .ok (.aload_n 0, 1) := by decide +kernel
theorem dX6_wants_30 : decode cX6_wants 30 = .ok (.getfield 192, 3) := by decide +kernel
theorem dX6_wants_33 : decode cX6_wants 33 = .ok (.ifCond .eq 7, 3) := by decide +kernel
theorem dX6_wants_36 : decode cX6_wants 36 = .ok (.iconst 1, 1) := by decide +kernel
theorem dX6_wants_37 : decode cX6_wants 37 = .ok (.goto 4, 3) := by decide +kernel
theorem dX6_wants_40 : decode cX6_wants 40 = .ok (.iconst 0, 1) := by decide +kernel
theorem dX6_wants_41 : decode cX6_wants 41 = .ok (.iadd, 1) := by decide +kernel
theorem dX6_wants_42 : decode cX6_wants 42 = .ok (.putfield 189, 3) := by decide +kernel
theorem dX6_wants_45 : decode cX6_wants 45 = .ok (.return_, 1) := by decide +kernel
theorem dX6_digit_0 : decode cX6_digit 0 = .ok (.aload_n 0, 1) := by decide +kernel
theorem dX6_digit_1 : decode cX6_digit 1 = .ok (.aload_n 0, 1) := by decide +kernel
theorem dX6_digit_2 : decode cX6_digit 2 = .ok (.getfield 192, 3) := by decide +kernel
theorem dX6_digit_5 : decode cX6_digit 5 = .ok (.ifCond .eq 21, 3) := by decide +kernel
theorem dX6_digit_8 : decode cX6_digit 8 = .ok (.aload_n 0, 1) := by decide +kernel
theorem dX6_digit_9 : decode cX6_digit 9 = .ok (.invokevirtual 196, 3) := by decide +kernel
theorem dX6_digit_12 : decode cX6_digit 12 = .ok (.bipush 48, 2) := by decide +kernel
theorem dX6_digit_14 : decode cX6_digit 14 = .ok (.bipush 57, 2) := by decide +kernel
theorem dX6_digit_16 : decode cX6_digit 16 = .ok (.invokestatic 36, 3) := by decide +kernel
theorem dX6_digit_19 : decode cX6_digit 19 = .ok (.ifCond .eq 7, 3) := by decide +kernel
theorem dX6_digit_22 : decode cX6_digit 22 = .ok (.iconst 1, 1) := by decide +kernel
theorem dX6_digit_23 : decode cX6_digit 23 = .ok (.goto 4, 3) := by decide +kernel
theorem dX6_digit_26 : decode cX6_digit 26 = .ok (.iconst 0, 1) := by decide +kernel
theorem dX6_digit_27 : decode cX6_digit 27 = .ok (.putfield 192, 3) := by decide +kernel
theorem dX6_digit_30 : decode cX6_digit 30 = .ok (.aload_n 0, 1) := by decide +kernel
theorem dX6_digit_31 : decode cX6_digit 31 = .ok (.invokevirtual 196, 3) := by decide +kernel
theorem dX6_digit_34 : decode cX6_digit 34 = .ok (.bipush 48, 2) := by decide +kernel
theorem dX6_digit_36 : decode cX6_digit 36 = .ok (.isub, 1) := by decide +kernel
theorem dX6_digit_37 : decode cX6_digit 37 = .ok (.istore_n 1, 1) := by decide +kernel
theorem dX6_digit_38 : decode cX6_digit 38 = .ok (.aload_n 0, 1) := by decide +kernel
theorem dX6_digit_39 : decode cX6_digit 39 = .ok (.dup, 1) := by decide +kernel
theorem dX6_digit_40 : decode cX6_digit 40 = .ok (.getfield 189, 3) := by decide +kernel
theorem dX6_digit_43 : decode cX6_digit 43 = .ok (.aload_n 0, 1) := by decide +kernel
theorem dX6_digit_44 : decode cX6_digit 44 = .ok (.getfield 192, 3) := by decide +kernel
theorem dX6_digit_47 : decode cX6_digit 47 = .ok (.ifCond .eq 7, 3) := by decide +kernel
theorem dX6_digit_50 : decode cX6_digit 50 = .ok (.iconst 1, 1) := by decide +kernel
theorem dX6_digit_51 : decode cX6_digit 51 = .ok (.goto 4, 3) := by decide +kernel
theorem dX6_digit_54 : decode cX6_digit 54 = .ok (.iconst 0, 1) := by decide +kernel
theorem dX6_digit_55 : decode cX6_digit 55 = .ok (.iadd, 1) := by decide +kernel
theorem dX6_digit_56 : decode cX6_digit 56 = .ok (.putfield 189, 3) := by decide +kernel
theorem dX6_digit_59 : decode cX6_digit 59 = .ok (.iload_n 1, 1) := by decide +kernel
theorem dX6_digit_60 : decode cX6_digit 60 = .ok (.ireturn, 1) := by decide +kernel
theorem dX6_number_0 : decode cX6_number 0 = .ok (.aload_n 0, 1) := by decide +kernel
theorem dX6_number_1 : decode cX6_number 1 = .ok (.invokevirtual 199, 3) := by decide +kernel
theorem dX6_number_4 : decode cX6_number 4 = .ok (.istore_n 1, 1) := by decide +kernel
theorem dX6_number_5 : decode cX6_number 5 = .ok (.aload_n 0, 1) := by decide +kernel
theorem dX6_number_6 : decode cX6_number 6 = .ok (.getfield 192, 3) := by decide +kernel
theorem dX6_number_9 : decode cX6_number 9 = .ok (.ifCond .eq 53, 3) := by decide +kernel
theorem dX6_number_12 : decode cX6_number 12 = .ok (.iload_n 1, 1) := by decide +kernel
theorem dX6_number_13 : decode cX6_number 13 = .ok (.iconst 1, 1) := by decide +kernel
theorem dX6_number_14 : decode cX6_number 14 = .ok (.bipush 99, 2) := by decide +kernel
theorem dX6_number_16 : decode cX6_number 16 = .ok (.invokestatic 36, 3) := by decide +kernel
theorem dX6_number_19 : decode cX6_number 19 = .ok (.ifCond .eq 43, 3) := by decide +kernel
theorem dX6_number_22 : decode cX6_number 22 = .ok (.aload_n 0, 1) := by decide +kernel
theorem dX6_number_23 : decode cX6_number 23 = .ok (.invokevirtual 196, 3) := by decide +kernel
theorem dX6_number_26 : decode cX6_number 26 = .ok (.bipush 48, 2) := by decide +kernel
theorem dX6_number_28 : decode cX6_number 28 = .ok (.bipush 57, 2) := by decide +kernel
theorem dX6_number_30 : decode cX6_number 30 = .ok (.invokestatic 36, 3) := by decide +kernel
theorem dX6_number_33 : decode cX6_number 33 = .ok (.ifCond .eq 29, 3) := by decide +kernel
theorem dX6_number_36 : decode cX6_number 36 = .ok (.bipush 10, 2) := by decide +kernel
theorem dX6_number_38 : decode cX6_number 38 = .ok (.iload_n 1, 1) := by decide +kernel
theorem dX6_number_39 : decode cX6_number 39 = .ok (.imul, 1) := by decide +kernel
theorem dX6_number_40 : decode cX6_number 40 = .ok (.aload_n 0, 1) := by decide +kernel
theorem dX6_number_41 : decode cX6_number 41 = .ok (.invokevirtual 196, 3) := by decide +kernel
theorem dX6_number_44 : decode cX6_number 44 = .ok (.iadd, 1) := by decide +kernel
theorem dX6_number_45 : decode cX6_number 45 = .ok (.bipush 48, 2) := by decide +kernel
theorem dX6_number_47 : decode cX6_number 47 = .ok (.isub, 1) := by decide +kernel
theorem dX6_number_48 : decode cX6_number 48 = .ok (.istore_n 1, 1) := by decide +kernel
theorem dX6_number_49 : decode cX6_number 49 = .ok (.aload_n 0, 1) := by decide +kernel
theorem dX6_number_50 : decode cX6_number 50 = .ok (.dup, 1) := by decide +kernel
theorem dX6_number_51 : decode cX6_number 51 = .ok (.getfield 189, 3) := by decide +kernel
theorem dX6_number_54 : decode cX6_number 54 = .ok (.iconst 1, 1) := by decide +kernel
theorem dX6_number_55 : decode cX6_number 55 = .ok (.iadd, 1) := by decide +kernel
theorem dX6_number_56 : decode cX6_number 56 = .ok (.putfield 189, 3) := by decide +kernel
theorem dX6_number_59 : decode cX6_number 59 = .ok (.goto (-54), 3) := by decide +kernel
theorem dX6_number_62 : decode cX6_number 62 = .ok (.iload_n 1, 1) := by decide +kernel
theorem dX6_number_63 : decode cX6_number 63 = .ok (.ireturn, 1) := by decide +kernel
theorem dX6_readsCrew_0 : decode cX6_readsCrew 0 = .ok (.aload_n 0, 1) := by decide +kernel
theorem dX6_readsCrew_1 : decode cX6_readsCrew 1 = .ok (.bipush 58, 2) := by decide +kernel
theorem dX6_readsCrew_3 : decode cX6_readsCrew 3 = .ok (.invokevirtual 202, 3) := by decide +kernel
theorem dX6_readsCrew_6 : decode cX6_readsCrew 6 = .ok (.iconst 1, 1) := by decide +kernel
theorem dX6_readsCrew_7 : decode cX6_readsCrew 7 = .ok (.aload_n 0, 1) := by decide +kernel
theorem dX6_readsCrew_8 : decode cX6_readsCrew 8 = .ok (.invokevirtual 199, 3) := by decide +kernel
theorem dX6_readsCrew_11 : decode cX6_readsCrew 11 = .ok (.bipush 15, 2) := by decide +kernel
theorem dX6_readsCrew_13 : decode cX6_readsCrew 13 = .ok (.iand, 1) := by decide +kernel
theorem dX6_readsCrew_14 : decode cX6_readsCrew 14 = .ok (.ishl, 1) := by decide +kernel
theorem dX6_readsCrew_15 : decode cX6_readsCrew 15 = .ok (.istore_n 2, 1) := by decide +kernel
theorem dX6_readsCrew_16 : decode cX6_readsCrew 16 = .ok (.aload_n 0, 1) := by decide +kernel
theorem dX6_readsCrew_17 : decode cX6_readsCrew 17 = .ok (.getfield 192, 3) := by decide +kernel
theorem dX6_readsCrew_20 : decode cX6_readsCrew 20 = .ok (.ifCond .eq 29, 3) := by decide +kernel
theorem dX6_readsCrew_23 : decode cX6_readsCrew 23 = .ok (.aload_n 0, 1) := by decide +kernel
theorem dX6_readsCrew_24 : decode cX6_readsCrew 24 = .ok (.invokevirtual 196, 3) := by decide +kernel
theorem dX6_readsCrew_27 : decode cX6_readsCrew 27 = .ok (.bipush 48, 2) := by decide +kernel
theorem dX6_readsCrew_29 : decode cX6_readsCrew 29 = .ok (.bipush 57, 2) := by decide +kernel
theorem dX6_readsCrew_31 : decode cX6_readsCrew 31 = .ok (.invokestatic 36, 3) := by decide +kernel
theorem dX6_readsCrew_34 : decode cX6_readsCrew 34 = .ok (.ifCond .eq 15, 3) := by decide +kernel
theorem dX6_readsCrew_37 : decode cX6_readsCrew 37 = .ok (.iload_n 2, 1) := by decide +kernel
theorem dX6_readsCrew_38 : decode cX6_readsCrew 38 = .ok (.iconst 1, 1) := by decide +kernel
theorem dX6_readsCrew_39 : decode cX6_readsCrew 39 = .ok (.aload_n 0, 1) := by decide +kernel
theorem dX6_readsCrew_40 : decode cX6_readsCrew 40 = .ok (.invokevirtual 199, 3) := by decide +kernel
theorem dX6_readsCrew_43 : decode cX6_readsCrew 43 = .ok (.ishl, 1) := by decide +kernel
theorem dX6_readsCrew_44 : decode cX6_readsCrew 44 = .ok (.ior, 1) := by decide +kernel
theorem dX6_readsCrew_45 : decode cX6_readsCrew 45 = .ok (.istore_n 2, 1) := by decide +kernel
theorem dX6_readsCrew_46 : decode cX6_readsCrew 46 = .ok (.goto (-30), 3) := by decide +kernel
theorem dX6_readsCrew_49 : decode cX6_readsCrew 49 = .ok (.aload_n 0, 1) := by decide +kernel
theorem dX6_readsCrew_50 : decode cX6_readsCrew 50 = .ok (.getfield 29, 3) := by decide +kernel
theorem dX6_readsCrew_53 : decode cX6_readsCrew 53 = .ok (.iload_n 1, 1) := by decide +kernel
theorem dX6_readsCrew_54 : decode cX6_readsCrew 54 = .ok (.iconst 2, 1) := by decide +kernel
theorem dX6_readsCrew_55 : decode cX6_readsCrew 55 = .ok (.iadd, 1) := by decide +kernel
theorem dX6_readsCrew_56 : decode cX6_readsCrew 56 = .ok (.iload_n 2, 1) := by decide +kernel
theorem dX6_readsCrew_57 : decode cX6_readsCrew 57 = .ok (.iastore, 1) := by decide +kernel
theorem dX6_readsCrew_58 : decode cX6_readsCrew 58 = .ok (.aload_n 0, 1) := by decide +kernel
theorem dX6_readsCrew_59 : decode cX6_readsCrew 59 = .ok (.getfield 29, 3) := by decide +kernel
theorem dX6_readsCrew_62 : decode cX6_readsCrew 62 = .ok (.iload_n 1, 1) := by decide +kernel
theorem dX6_readsCrew_63 : decode cX6_readsCrew 63 = .ok (.iconst 3, 1) := by decide +kernel
theorem dX6_readsCrew_64 : decode cX6_readsCrew 64 = .ok (.iadd, 1) := by decide +kernel
theorem dX6_readsCrew_65 : decode cX6_readsCrew 65 = .ok (.bipush (-6), 2) := by decide +kernel
theorem dX6_readsCrew_67 : decode cX6_readsCrew 67 = .ok (.iastore, 1) := by decide +kernel
theorem dX6_readsCrew_68 : decode cX6_readsCrew 68 = .ok (.aload_n 0, 1) := by decide +kernel
theorem dX6_readsCrew_69 : decode cX6_readsCrew 69 = .ok (.getfield 192, 3) := by decide +kernel
theorem dX6_readsCrew_72 : decode cX6_readsCrew 72 = .ok (.ifCond .eq 34, 3) := by decide +kernel
theorem dX6_readsCrew_75 : decode cX6_readsCrew 75 = .ok (.aload_n 0, 1) := by decide +kernel
theorem dX6_readsCrew_76 : decode cX6_readsCrew 76 = .ok (.invokevirtual 196, 3) := by decide +kernel
theorem dX6_readsCrew_79 : decode cX6_readsCrew 79 = .ok (.bipush 43, 2) := by decide +kernel
theorem dX6_readsCrew_81 : decode cX6_readsCrew 81 = .ok (.if_icmp .ne 25, 3) := by decide +kernel
theorem dX6_readsCrew_84 : decode cX6_readsCrew 84 = .ok (.aload_n 0, 1) := by decide +kernel
theorem dX6_readsCrew_85 : decode cX6_readsCrew 85 = .ok (.dup, 1) := by decide +kernel
theorem dX6_readsCrew_86 : decode cX6_readsCrew 86 = .ok (.getfield 189, 3) := by decide +kernel
theorem dX6_readsCrew_89 : decode cX6_readsCrew 89 = .ok (.iconst 1, 1) := by decide +kernel
theorem dX6_readsCrew_90 : decode cX6_readsCrew 90 = .ok (.iadd, 1) := by decide +kernel
theorem dX6_readsCrew_91 : decode cX6_readsCrew 91 = .ok (.putfield 189, 3) := by decide +kernel
theorem dX6_readsCrew_94 : decode cX6_readsCrew 94 = .ok (.aload_n 0, 1) := by decide +kernel
theorem dX6_readsCrew_95 : decode cX6_readsCrew 95 = .ok (.getfield 29, 3) := by decide +kernel
theorem dX6_readsCrew_98 : decode cX6_readsCrew 98 = .ok (.iload_n 1, 1) := by decide +kernel
theorem dX6_readsCrew_99 : decode cX6_readsCrew 99 = .ok (.iconst 3, 1) := by decide +kernel
theorem dX6_readsCrew_100 : decode cX6_readsCrew 100 = .ok (.iadd, 1) := by decide +kernel
theorem dX6_readsCrew_101 : decode cX6_readsCrew 101 = .ok (.aload_n 0, 1) := by decide +kernel
theorem dX6_readsCrew_102 : decode cX6_readsCrew 102 = .ok (.invokevirtual 199, 3) := by decide +kernel
theorem dX6_readsCrew_105 : decode cX6_readsCrew 105 = .ok (.iastore, 1) := by decide +kernel
theorem dX6_readsCrew_106 : decode cX6_readsCrew 106 = .ok (.return_, 1) := by decide +kernel
theorem dX6_readsJob_0 : decode cX6_readsJob 0 = .ok (.iconst 2, 1) := by decide +kernel
theorem dX6_readsJob_1 : decode cX6_readsJob 1 = .ok (.istore_n 2, 1) := by decide +kernel
theorem dX6_readsJob_2 : decode cX6_readsJob 2 = .ok (.iload_n 2, 1) := by decide +kernel
theorem dX6_readsJob_3 : decode cX6_readsJob 3 = .ok (.bipush 6, 2) := by decide +kernel
theorem dX6_readsJob_5 : decode cX6_readsJob 5 = .ok (.if_icmp .ge 39, 3) := by decide +kernel
theorem dX6_readsJob_8 : decode cX6_readsJob 8 = .ok (.aload_n 0, 1) := by decide +kernel
theorem dX6_readsJob_9 : decode cX6_readsJob 9 = .ok (.bipush 44, 2) := by decide +kernel
theorem dX6_readsJob_11 : decode cX6_readsJob 11 = .ok (.invokevirtual 202, 3) := by decide +kernel
theorem dX6_readsJob_14 : decode cX6_readsJob 14 = .ok (.aload_n 0, 1) := by decide +kernel
theorem dX6_readsJob_15 : decode cX6_readsJob 15 = .ok (.getfield 29, 3) := by decide +kernel
theorem dX6_readsJob_18 : decode cX6_readsJob 18 = .ok (.iload_n 1, 1) := by decide +kernel
theorem dX6_readsJob_19 : decode cX6_readsJob 19 = .ok (.iload_n 2, 1) := by decide +kernel
theorem dX6_readsJob_20 : decode cX6_readsJob 20 = .ok (.iadd, 1) := by decide +kernel
theorem dX6_readsJob_21 : decode cX6_readsJob 21 = .ok (.iload_n 2, 1) := by decide +kernel
theorem dX6_readsJob_22 : decode cX6_readsJob 22 = .ok (.iconst 5, 1) := by decide +kernel
theorem dX6_readsJob_23 : decode cX6_readsJob 23 = .ok (.if_icmp .ge 10, 3) := by decide +kernel
theorem dX6_readsJob_26 : decode cX6_readsJob 26 = .ok (.aload_n 0, 1) := by decide +kernel
theorem dX6_readsJob_27 : decode cX6_readsJob 27 = .ok (.invokevirtual 199, 3) := by decide +kernel
theorem dX6_readsJob_30 : decode cX6_readsJob 30 = .ok (.goto 7, 3) := by decide +kernel
theorem dX6_readsJob_33 : decode cX6_readsJob 33 = .ok (.aload_n 0, 1) := by decide +kernel
theorem dX6_readsJob_34 : decode cX6_readsJob 34 = .ok (.invokevirtual 205, 3) := by decide +kernel
theorem dX6_readsJob_37 : decode cX6_readsJob 37 = .ok (.iastore, 1) := by decide +kernel
theorem dX6_readsJob_38 : decode cX6_readsJob 38 = .ok (.iinc 2 1, 3) := by decide +kernel
theorem dX6_readsJob_41 : decode cX6_readsJob 41 = .ok (.goto (-39), 3) := by decide +kernel
theorem dX6_readsJob_44 : decode cX6_readsJob 44 = .ok (.return_, 1) := by decide +kernel
theorem dX6_isOrder_0 : decode cX6_isOrder 0 = .ok (.iload_n 0, 1) := by decide +kernel
theorem dX6_isOrder_1 : decode cX6_isOrder 1 = .ok (.bipush 119, 2) := by decide +kernel
theorem dX6_isOrder_3 : decode cX6_isOrder 3 = .ok (.if_icmp .eq 39, 3) := by decide +kernel
theorem dX6_isOrder_6 : decode cX6_isOrder 6 = .ok (.iload_n 0, 1) := by decide +kernel
theorem dX6_isOrder_7 : decode cX6_isOrder 7 = .ok (.bipush 106, 2) := by decide +kernel
theorem dX6_isOrder_9 : decode cX6_isOrder 9 = .ok (.if_icmp .eq 33, 3) := by decide +kernel
theorem dX6_isOrder_12 : decode cX6_isOrder 12 = .ok (.iload_n 0, 1) := by decide +kernel
theorem dX6_isOrder_13 : decode cX6_isOrder 13 = .ok (.bipush 103, 2) := by decide +kernel
theorem dX6_isOrder_15 : decode cX6_isOrder 15 = .ok (.if_icmp .eq 27, 3) := by decide +kernel
theorem dX6_isOrder_18 : decode cX6_isOrder 18 = .ok (.iload_n 0, 1) := by decide +kernel
theorem dX6_isOrder_19 : decode cX6_isOrder 19 = .ok (.bipush 100, 2) := by decide +kernel
theorem dX6_isOrder_21 : decode cX6_isOrder 21 = .ok (.if_icmp .eq 21, 3) := by decide +kernel
theorem dX6_isOrder_24 : decode cX6_isOrder 24 = .ok (.iload_n 0, 1) := by decide +kernel
theorem dX6_isOrder_25 : decode cX6_isOrder 25 = .ok (.bipush 120, 2) := by decide +kernel
theorem dX6_isOrder_27 : decode cX6_isOrder 27 = .ok (.if_icmp .eq 15, 3) := by decide +kernel
theorem dX6_isOrder_30 : decode cX6_isOrder 30 = .ok (.iload_n 0, 1) := by decide +kernel
theorem dX6_isOrder_31 : decode cX6_isOrder 31 = .ok (.bipush 97, 2) := by decide +kernel
theorem dX6_isOrder_33 : decode cX6_isOrder 33 = .ok (.if_icmp .eq 9, 3) := by decide +kernel
theorem dX6_isOrder_36 : decode cX6_isOrder 36 = .ok (.iload_n 0, 1) := by decide +kernel
theorem dX6_isOrder_37 : decode cX6_isOrder 37 = .ok (.bipush 110, 2) := by decide +kernel
theorem dX6_isOrder_39 : decode cX6_isOrder 39 = .ok (.if_icmp .ne 7, 3) := by decide +kernel
theorem dX6_isOrder_42 : decode cX6_isOrder 42 = .ok (.iconst 1, 1) := by decide +kernel
theorem dX6_isOrder_43 : decode cX6_isOrder 43 = .ok (.goto 4, 3) := by decide +kernel
theorem dX6_isOrder_46 : decode cX6_isOrder 46 = .ok (.iconst 0, 1) := by decide +kernel
theorem dX6_isOrder_47 : decode cX6_isOrder 47 = .ok (.ireturn, 1) := by decide +kernel
theorem dX6_readsOrder_0 : decode cX6_readsOrder 0 = .ok (.bipush 6, 2) := by decide +kernel
theorem dX6_readsOrder_2 : decode cX6_readsOrder 2 = .ok (.aload_n 0, 1) := by decide +kernel
theorem dX6_readsOrder_3 : decode cX6_readsOrder 3 = .ok (.getfield 208, 3) := by decide +kernel
theorem dX6_readsOrder_6 : decode cX6_readsOrder 6 = .ok (.imul, 1) := by decide +kernel
theorem dX6_readsOrder_7 : decode cX6_readsOrder 7 = .ok (.istore_n 1, 1) := by decide +kernel
theorem dX6_readsOrder_8 : decode cX6_readsOrder 8 = .ok (.aload_n 0, 1) := by decide +kernel
theorem dX6_readsOrder_9 : decode cX6_readsOrder 9 = .ok (.invokevirtual 196, 3) := by decide +kernel
theorem dX6_readsOrder_12 : decode cX6_readsOrder 12 = .ok (.istore_n 2, 1) := by decide +kernel
theorem dX6_readsOrder_13 : decode cX6_readsOrder 13 = .ok (.aload_n 0, 1) := by decide +kernel
theorem dX6_readsOrder_14 : decode cX6_readsOrder 14 = .ok (.iload_n 2, 1) := by decide +kernel
theorem dX6_readsOrder_15 : decode cX6_readsOrder 15 = .ok (.invokestatic 211, 3) := by decide +kernel
theorem dX6_readsOrder_18 : decode cX6_readsOrder 18 = .ok (.putfield 192, 3) := by decide +kernel
theorem dX6_readsOrder_21 : decode cX6_readsOrder 21 = .ok (.aload_n 0, 1) := by decide +kernel
theorem dX6_readsOrder_22 : decode cX6_readsOrder 22 = .ok (.dup, 1) := by decide +kernel
theorem dX6_readsOrder_23 : decode cX6_readsOrder 23 = .ok (.getfield 189, 3) := by decide +kernel
theorem dX6_readsOrder_26 : decode cX6_readsOrder 26 = .ok (.aload_n 0, 1) := by decide +kernel
theorem dX6_readsOrder_27 : decode cX6_readsOrder 27 = .ok (.getfield 192, 3) := by decide +kernel
theorem dX6_readsOrder_30 : decode cX6_readsOrder 30 = .ok (.ifCond .eq 7, 3) := by decide +kernel
theorem dX6_readsOrder_33 : decode cX6_readsOrder 33 = .ok (.iconst 1, 1) := by decide +kernel
theorem dX6_readsOrder_34 : decode cX6_readsOrder 34 = .ok (.goto 4, 3) := by decide +kernel
theorem dX6_readsOrder_37 : decode cX6_readsOrder 37 = .ok (.iconst 0, 1) := by decide +kernel
theorem dX6_readsOrder_38 : decode cX6_readsOrder 38 = .ok (.iadd, 1) := by decide +kernel
theorem dX6_readsOrder_39 : decode cX6_readsOrder 39 = .ok (.putfield 189, 3) := by decide +kernel
theorem dX6_readsOrder_42 : decode cX6_readsOrder 42 = .ok (.aload_n 0, 1) := by decide +kernel
theorem dX6_readsOrder_43 : decode cX6_readsOrder 43 = .ok (.getfield 29, 3) := by decide +kernel
theorem dX6_readsOrder_46 : decode cX6_readsOrder 46 = .ok (.iload_n 1, 1) := by decide +kernel
theorem dX6_readsOrder_47 : decode cX6_readsOrder 47 = .ok (.iload_n 2, 1) := by decide +kernel
theorem dX6_readsOrder_48 : decode cX6_readsOrder 48 = .ok (.iastore, 1) := by decide +kernel
theorem dX6_readsOrder_49 : decode cX6_readsOrder 49 = .ok (.aload_n 0, 1) := by decide +kernel
theorem dX6_readsOrder_50 : decode cX6_readsOrder 50 = .ok (.getfield 29, 3) := by decide +kernel
theorem dX6_readsOrder_53 : decode cX6_readsOrder 53 = .ok (.iload_n 1, 1) := by decide +kernel
theorem dX6_readsOrder_54 : decode cX6_readsOrder 54 = .ok (.iconst 1, 1) := by decide +kernel
theorem dX6_readsOrder_55 : decode cX6_readsOrder 55 = .ok (.iadd, 1) := by decide +kernel
theorem dX6_readsOrder_56 : decode cX6_readsOrder 56 = .ok (.iload_n 2, 1) := by decide +kernel
theorem dX6_readsOrder_57 : decode cX6_readsOrder 57 = .ok (.bipush 97, 2) := by decide +kernel
theorem dX6_readsOrder_59 : decode cX6_readsOrder 59 = .ok (.if_icmp .ne 7, 3) := by decide +kernel
theorem dX6_readsOrder_62 : decode cX6_readsOrder 62 = .ok (.iconst 0, 1) := by decide +kernel
theorem dX6_readsOrder_63 : decode cX6_readsOrder 63 = .ok (.goto 7, 3) := by decide +kernel
theorem dX6_readsOrder_66 : decode cX6_readsOrder 66 = .ok (.aload_n 0, 1) := by decide +kernel
theorem dX6_readsOrder_67 : decode cX6_readsOrder 67 = .ok (.invokevirtual 205, 3) := by decide +kernel
theorem dX6_readsOrder_70 : decode cX6_readsOrder 70 = .ok (.iastore, 1) := by decide +kernel
theorem dX6_readsOrder_71 : decode cX6_readsOrder 71 = .ok (.iload_n 2, 1) := by decide +kernel
theorem dX6_readsOrder_72 : decode cX6_readsOrder 72 = .ok (.bipush 106, 2) := by decide +kernel
theorem dX6_readsOrder_74 : decode cX6_readsOrder 74 = .ok (.if_icmp .ne 11, 3) := by decide +kernel
theorem dX6_readsOrder_77 : decode cX6_readsOrder 77 = .ok (.aload_n 0, 1) := by decide +kernel
theorem dX6_readsOrder_78 : decode cX6_readsOrder 78 = .ok (.iload_n 1, 1) := by decide +kernel
theorem dX6_readsOrder_79 : decode cX6_readsOrder 79 = .ok (.invokevirtual 214, 3) := by decide +kernel
theorem dX6_readsOrder_82 : decode cX6_readsOrder 82 = .ok (.goto 41, 3) := by decide +kernel
theorem dX6_readsOrder_85 : decode cX6_readsOrder 85 = .ok (.iload_n 2, 1) := by decide +kernel
theorem dX6_readsOrder_86 : decode cX6_readsOrder 86 = .ok (.bipush 103, 2) := by decide +kernel
theorem dX6_readsOrder_88 : decode cX6_readsOrder 88 = .ok (.if_icmp .ne 11, 3) := by decide +kernel
theorem dX6_readsOrder_91 : decode cX6_readsOrder 91 = .ok (.aload_n 0, 1) := by decide +kernel
theorem dX6_readsOrder_92 : decode cX6_readsOrder 92 = .ok (.iload_n 1, 1) := by decide +kernel
theorem dX6_readsOrder_93 : decode cX6_readsOrder 93 = .ok (.invokevirtual 217, 3) := by decide +kernel
theorem dX6_readsOrder_96 : decode cX6_readsOrder 96 = .ok (.goto 27, 3) := by decide +kernel
theorem dX6_readsOrder_99 : decode cX6_readsOrder 99 = .ok (.iload_n 2, 1) := by decide +kernel
theorem dX6_readsOrder_100 : decode cX6_readsOrder 100 = .ok (.bipush 100, 2) := by decide +kernel
theorem dX6_readsOrder_102 : decode cX6_readsOrder 102 = .ok (.if_icmp .ne 21, 3) := by decide +kernel
theorem dX6_readsOrder_105 : decode cX6_readsOrder 105 = .ok (.aload_n 0, 1) := by decide +kernel
theorem dX6_readsOrder_106 : decode cX6_readsOrder 106 = .ok (.bipush 43, 2) := by decide +kernel
theorem dX6_readsOrder_108 : decode cX6_readsOrder 108 = .ok (.invokevirtual 202, 3) := by decide +kernel
theorem dX6_readsOrder_111 : decode cX6_readsOrder 111 = .ok (.aload_n 0, 1) := by decide +kernel
theorem dX6_readsOrder_112 : decode cX6_readsOrder 112 = .ok (.getfield 29, 3) := by decide +kernel
theorem dX6_readsOrder_115 : decode cX6_readsOrder 115 = .ok (.iload_n 1, 1) := by decide +kernel
theorem dX6_readsOrder_116 : decode cX6_readsOrder 116 = .ok (.iconst 2, 1) := by decide +kernel
theorem dX6_readsOrder_117 : decode cX6_readsOrder 117 = .ok (.iadd, 1) := by decide +kernel
theorem dX6_readsOrder_118 : decode cX6_readsOrder 118 = .ok (.aload_n 0, 1) := by decide +kernel
theorem dX6_readsOrder_119 : decode cX6_readsOrder 119 = .ok (.invokevirtual 205, 3) := by decide +kernel
theorem dX6_readsOrder_122 : decode cX6_readsOrder 122 = .ok (.iastore, 1) := by decide +kernel
theorem dX6_readsOrder_123 : decode cX6_readsOrder 123 = .ok (.aload_n 0, 1) := by decide +kernel
theorem dX6_readsOrder_124 : decode cX6_readsOrder 124 = .ok (.dup, 1) := by decide +kernel
theorem dX6_readsOrder_125 : decode cX6_readsOrder 125 = .ok (.getfield 208, 3) := by decide +kernel
theorem dX6_readsOrder_128 : decode cX6_readsOrder 128 = .ok (.aload_n 0, 1) := by decide +kernel
theorem dX6_readsOrder_129 : decode cX6_readsOrder 129 = .ok (.getfield 192, 3) := by decide +kernel
theorem dX6_readsOrder_132 : decode cX6_readsOrder 132 = .ok (.ifCond .eq 7, 3) := by decide +kernel
theorem dX6_readsOrder_135 : decode cX6_readsOrder 135 = .ok (.iconst 1, 1) := by decide +kernel
theorem dX6_readsOrder_136 : decode cX6_readsOrder 136 = .ok (.goto 4, 3) := by decide +kernel
theorem dX6_readsOrder_139 : decode cX6_readsOrder 139 = .ok (.iconst 0, 1) := by decide +kernel
theorem dX6_readsOrder_140 : decode cX6_readsOrder 140 = .ok (.iadd, 1) := by decide +kernel
theorem dX6_readsOrder_141 : decode cX6_readsOrder 141 = .ok (.putfield 208, 3) := by decide +kernel
theorem dX6_readsOrder_144 : decode cX6_readsOrder 144 = .ok (.return_, 1) := by decide +kernel
theorem dX6_reads_0 : decode cX6_reads 0 = .ok (.aload_n 0, 1) := by decide +kernel
theorem dX6_reads_1 : decode cX6_reads 1 = .ok (.iconst 0, 1) := by decide +kernel
theorem dX6_reads_2 : decode cX6_reads 2 = .ok (.putfield 189, 3) := by decide +kernel
theorem dX6_reads_5 : decode cX6_reads 5 = .ok (.aload_n 0, 1) := by decide +kernel
theorem dX6_reads_6 : decode cX6_reads 6 = .ok (.iconst 0, 1) := by decide +kernel
theorem dX6_reads_7 : decode cX6_reads 7 = .ok (.putfield 208, 3) := by decide +kernel
theorem dX6_reads_10 : decode cX6_reads 10 = .ok (.aload_n 0, 1) := by decide +kernel
theorem dX6_reads_11 : decode cX6_reads 11 = .ok (.invokevirtual 220, 3) := by decide +kernel
theorem dX6_reads_14 : decode cX6_reads 14 = .ok (.aload_n 0, 1) := by decide +kernel
theorem dX6_reads_15 : decode cX6_reads 15 = .ok (.getfield 192, 3) := by decide +kernel
theorem dX6_reads_18 : decode cX6_reads 18 = .ok (.ifCond .eq 34, 3) := by decide +kernel
theorem dX6_reads_21 : decode cX6_reads 21 = .ok (.aload_n 0, 1) := by decide +kernel
theorem dX6_reads_22 : decode cX6_reads 22 = .ok (.getfield 189, 3) := by decide +kernel
theorem dX6_reads_25 : decode cX6_reads 25 = .ok (.aload_n 0, 1) := by decide +kernel
theorem dX6_reads_26 : decode cX6_reads 26 = .ok (.getfield 178, 3) := by decide +kernel
theorem dX6_reads_29 : decode cX6_reads 29 = .ok (.if_icmp .ge 23, 3) := by decide +kernel
theorem dX6_reads_32 : decode cX6_reads 32 = .ok (.aload_n 0, 1) := by decide +kernel
theorem dX6_reads_33 : decode cX6_reads 33 = .ok (.bipush 59, 2) := by decide +kernel
theorem dX6_reads_35 : decode cX6_reads 35 = .ok (.invokevirtual 202, 3) := by decide +kernel
theorem dX6_reads_38 : decode cX6_reads 38 = .ok (.aload_n 0, 1) := by decide +kernel
theorem dX6_reads_39 : decode cX6_reads 39 = .ok (.getfield 192, 3) := by decide +kernel
theorem dX6_reads_42 : decode cX6_reads 42 = .ok (.ifCond .eq (-28), 3) := by decide +kernel
theorem dX6_reads_45 : decode cX6_reads 45 = .ok (.aload_n 0, 1) := by decide +kernel
theorem dX6_reads_46 : decode cX6_reads 46 = .ok (.invokevirtual 220, 3) := by decide +kernel
theorem dX6_reads_49 : decode cX6_reads 49 = .ok (.goto (-35), 3) := by decide +kernel
theorem dX6_reads_52 : decode cX6_reads 52 = .ok (.aload_n 0, 1) := by decide +kernel
theorem dX6_reads_53 : decode cX6_reads 53 = .ok (.getfield 192, 3) := by decide +kernel
theorem dX6_reads_56 : decode cX6_reads 56 = .ok (.ifCond .eq 8, 3) := by decide +kernel
theorem dX6_reads_59 : decode cX6_reads 59 = .ok (.bipush (-6), 2) := by decide +kernel
theorem dX6_reads_61 : decode cX6_reads 61 = .ok (.goto 7, 3) := by decide +kernel
theorem dX6_reads_64 : decode cX6_reads 64 = .ok (.aload_n 0, 1) := by decide +kernel
theorem dX6_reads_65 : decode cX6_reads 65 = .ok (.getfield 189, 3) := by decide +kernel
theorem dX6_reads_68 : decode cX6_reads 68 = .ok (.ireturn, 1) := by decide +kernel
theorem dX6_fault_0 : decode cX6_fault 0 = .ok (.aload_n 0, 1) := by decide +kernel
theorem dX6_fault_1 : decode cX6_fault 1 = .ok (.iconst 0, 1) := by decide +kernel
theorem dX6_fault_2 : decode cX6_fault 2 = .ok (.putfield 32, 3) := by decide +kernel
theorem dX6_fault_5 : decode cX6_fault 5 = .ok (.aload_n 0, 1) := by decide +kernel
theorem dX6_fault_6 : decode cX6_fault 6 = .ok (.invokevirtual 223, 3) := by decide +kernel
theorem dX6_fault_9 : decode cX6_fault 9 = .ok (.ireturn, 1) := by decide +kernel
theorem dX6_refuses_0 : decode cX6_refuses 0 = .ok (.aload_n 0, 1) := by decide +kernel
theorem dX6_refuses_1 : decode cX6_refuses 1 = .ok (.getfield 29, 3) := by decide +kernel
theorem dX6_refuses_4 : decode cX6_refuses 4 = .ok (.iload_n 1, 1) := by decide +kernel
theorem dX6_refuses_5 : decode cX6_refuses 5 = .ok (.iconst 1, 1) := by decide +kernel
theorem dX6_refuses_6 : decode cX6_refuses 6 = .ok (.iadd, 1) := by decide +kernel
theorem dX6_refuses_7 : decode cX6_refuses 7 = .ok (.iaload, 1) := by decide +kernel
theorem dX6_refuses_8 : decode cX6_refuses 8 = .ok (.istore_n 2, 1) := by decide +kernel
theorem dX6_refuses_9 : decode cX6_refuses 9 = .ok (.aload_n 0, 1) := by decide +kernel
theorem dX6_refuses_10 : decode cX6_refuses 10 = .ok (.getfield 29, 3) := by decide +kernel
theorem dX6_refuses_13 : decode cX6_refuses 13 = .ok (.iload_n 1, 1) := by decide +kernel
theorem dX6_refuses_14 : decode cX6_refuses 14 = .ok (.iconst 2, 1) := by decide +kernel
theorem dX6_refuses_15 : decode cX6_refuses 15 = .ok (.iadd, 1) := by decide +kernel
theorem dX6_refuses_16 : decode cX6_refuses 16 = .ok (.iaload, 1) := by decide +kernel
theorem dX6_refuses_17 : decode cX6_refuses 17 = .ok (.istore_n 3, 1) := by decide +kernel
theorem dX6_refuses_18 : decode cX6_refuses 18 = .ok (.aload_n 0, 1) := by decide +kernel
theorem dX6_refuses_19 : decode cX6_refuses 19 = .ok (.getfield 29, 3) := by decide +kernel
theorem dX6_refuses_22 : decode cX6_refuses 22 = .ok (.iload_n 1, 1) := by decide +kernel
theorem dX6_refuses_23 : decode cX6_refuses 23 = .ok (.iaload, 1) := by decide +kernel
theorem dX6_refuses_24 : decode cX6_refuses 24 = .ok (.lookupswitch 131 #[(100, 112), (103, 97), (106, 66), (110, 125), (119, 60), (120, 119)], 60) := by decide +kernel
theorem dX6_refuses_84 : decode cX6_refuses 84 = .ok (.aload_n 0, 1) := by decide +kernel
theorem dX6_refuses_85 : decode cX6_refuses 85 = .ok (.iload_n 2, 1) := by decide +kernel
theorem dX6_refuses_86 : decode cX6_refuses 86 = .ok (.invokevirtual 120, 3) := by decide +kernel
theorem dX6_refuses_89 : decode cX6_refuses 89 = .ok (.ireturn, 1) := by decide +kernel
theorem dX6_refuses_90 : decode cX6_refuses 90 = .ok (.aload_n 0, 1) := by decide +kernel
theorem dX6_refuses_91 : decode cX6_refuses 91 = .ok (.iload_n 2, 1) := by decide +kernel
theorem dX6_refuses_92 : decode cX6_refuses 92 = .ok (.iload_n 3, 1) := by decide +kernel
theorem dX6_refuses_93 : decode cX6_refuses 93 = .ok (.aload_n 0, 1) := by decide +kernel
theorem dX6_refuses_94 : decode cX6_refuses 94 = .ok (.getfield 29, 3) := by decide +kernel
theorem dX6_refuses_97 : decode cX6_refuses 97 = .ok (.iload_n 1, 1) := by decide +kernel
theorem dX6_refuses_98 : decode cX6_refuses 98 = .ok (.iconst 3, 1) := by decide +kernel
theorem dX6_refuses_99 : decode cX6_refuses 99 = .ok (.iadd, 1) := by decide +kernel
theorem dX6_refuses_100 : decode cX6_refuses 100 = .ok (.iaload, 1) := by decide +kernel
theorem dX6_refuses_101 : decode cX6_refuses 101 = .ok (.aload_n 0, 1) := by decide +kernel
theorem dX6_refuses_102 : decode cX6_refuses 102 = .ok (.getfield 29, 3) := by decide +kernel
theorem dX6_refuses_105 : decode cX6_refuses 105 = .ok (.iload_n 1, 1) := by decide +kernel
theorem dX6_refuses_106 : decode cX6_refuses 106 = .ok (.iconst 4, 1) := by decide +kernel
theorem dX6_refuses_107 : decode cX6_refuses 107 = .ok (.iadd, 1) := by decide +kernel
theorem dX6_refuses_108 : decode cX6_refuses 108 = .ok (.iaload, 1) := by decide +kernel
theorem dX6_refuses_109 : decode cX6_refuses 109 = .ok (.aload_n 0, 1) := by decide +kernel
theorem dX6_refuses_110 : decode cX6_refuses 110 = .ok (.getfield 29, 3) := by decide +kernel
theorem dX6_refuses_113 : decode cX6_refuses 113 = .ok (.iload_n 1, 1) := by decide +kernel
theorem dX6_refuses_114 : decode cX6_refuses 114 = .ok (.iconst 5, 1) := by decide +kernel
theorem dX6_refuses_115 : decode cX6_refuses 115 = .ok (.iadd, 1) := by decide +kernel
theorem dX6_refuses_116 : decode cX6_refuses 116 = .ok (.iaload, 1) := by decide +kernel
theorem dX6_refuses_117 : decode cX6_refuses 117 = .ok (.invokevirtual 126, 3) := by decide +kernel
theorem dX6_refuses_120 : decode cX6_refuses 120 = .ok (.ireturn, 1) := by decide +kernel
theorem dX6_refuses_121 : decode cX6_refuses 121 = .ok (.aload_n 0, 1) := by decide +kernel
theorem dX6_refuses_122 : decode cX6_refuses 122 = .ok (.iload_n 2, 1) := by decide +kernel
theorem dX6_refuses_123 : decode cX6_refuses 123 = .ok (.iload_n 3, 1) := by decide +kernel
theorem dX6_refuses_124 : decode cX6_refuses 124 = .ok (.aload_n 0, 1) := by decide +kernel
theorem dX6_refuses_125 : decode cX6_refuses 125 = .ok (.getfield 29, 3) := by decide +kernel
theorem dX6_refuses_128 : decode cX6_refuses 128 = .ok (.iload_n 1, 1) := by decide +kernel
theorem dX6_refuses_129 : decode cX6_refuses 129 = .ok (.iconst 3, 1) := by decide +kernel
theorem dX6_refuses_130 : decode cX6_refuses 130 = .ok (.iadd, 1) := by decide +kernel
theorem dX6_refuses_131 : decode cX6_refuses 131 = .ok (.iaload, 1) := by decide +kernel
theorem dX6_refuses_132 : decode cX6_refuses 132 = .ok (.invokevirtual 142, 3) := by decide +kernel
theorem dX6_refuses_135 : decode cX6_refuses 135 = .ok (.ireturn, 1) := by decide +kernel
theorem dX6_refuses_136 : decode cX6_refuses 136 = .ok (.aload_n 0, 1) := by decide +kernel
theorem dX6_refuses_137 : decode cX6_refuses 137 = .ok (.iload_n 2, 1) := by decide +kernel
theorem dX6_refuses_138 : decode cX6_refuses 138 = .ok (.iload_n 3, 1) := by decide +kernel
theorem dX6_refuses_139 : decode cX6_refuses 139 = .ok (.invokevirtual 148, 3) := by decide +kernel
theorem dX6_refuses_142 : decode cX6_refuses 142 = .ok (.ireturn, 1) := by decide +kernel
theorem dX6_refuses_143 : decode cX6_refuses 143 = .ok (.aload_n 0, 1) := by decide +kernel
theorem dX6_refuses_144 : decode cX6_refuses 144 = .ok (.iload_n 2, 1) := by decide +kernel
theorem dX6_refuses_145 : decode cX6_refuses 145 = .ok (.invokevirtual 154, 3) := by decide +kernel
theorem dX6_refuses_148 : decode cX6_refuses 148 = .ok (.ireturn, 1) := by decide +kernel
theorem dX6_refuses_149 : decode cX6_refuses 149 = .ok (.aload_n 0, 1) := by decide +kernel
theorem dX6_refuses_150 : decode cX6_refuses 150 = .ok (.iload_n 2, 1) := by decide +kernel
theorem dX6_refuses_151 : decode cX6_refuses 151 = .ok (.invokevirtual 163, 3) := by decide +kernel
theorem dX6_refuses_154 : decode cX6_refuses 154 = .ok (.ireturn, 1) := by decide +kernel
theorem dX6_refuses_155 : decode cX6_refuses 155 = .ok (.iconst 0, 1) := by decide +kernel
theorem dX6_refuses_156 : decode cX6_refuses 156 = .ok (.ireturn, 1) := by decide +kernel
theorem dX6_does_0 : decode cX6_does 0 = .ok (.aload_n 0, 1) := by decide +kernel
theorem dX6_does_1 : decode cX6_does 1 = .ok (.getfield 29, 3) := by decide +kernel
theorem dX6_does_4 : decode cX6_does 4 = .ok (.iload_n 1, 1) := by decide +kernel
theorem dX6_does_5 : decode cX6_does 5 = .ok (.iconst 1, 1) := by decide +kernel
theorem dX6_does_6 : decode cX6_does 6 = .ok (.iadd, 1) := by decide +kernel
theorem dX6_does_7 : decode cX6_does 7 = .ok (.iaload, 1) := by decide +kernel
theorem dX6_does_8 : decode cX6_does 8 = .ok (.istore_n 2, 1) := by decide +kernel
theorem dX6_does_9 : decode cX6_does 9 = .ok (.aload_n 0, 1) := by decide +kernel
theorem dX6_does_10 : decode cX6_does 10 = .ok (.getfield 29, 3) := by decide +kernel
theorem dX6_does_13 : decode cX6_does 13 = .ok (.iload_n 1, 1) := by decide +kernel
theorem dX6_does_14 : decode cX6_does 14 = .ok (.iconst 2, 1) := by decide +kernel
theorem dX6_does_15 : decode cX6_does 15 = .ok (.iadd, 1) := by decide +kernel
theorem dX6_does_16 : decode cX6_does 16 = .ok (.iaload, 1) := by decide +kernel
theorem dX6_does_17 : decode cX6_does 17 = .ok (.istore_n 3, 1) := by decide +kernel
theorem dX6_does_18 : decode cX6_does 18 = .ok (.aload_n 0, 1) := by decide +kernel
theorem dX6_does_19 : decode cX6_does 19 = .ok (.getfield 29, 3) := by decide +kernel
theorem dX6_does_22 : decode cX6_does 22 = .ok (.iload_n 1, 1) := by decide +kernel
theorem dX6_does_23 : decode cX6_does 23 = .ok (.iaload, 1) := by decide +kernel
theorem dX6_does_24 : decode cX6_does 24 = .ok (.lookupswitch 149 #[(100, 121), (103, 103), (106, 69), (110, 140), (119, 60), (120, 131)], 60) := by decide +kernel
theorem dX6_does_84 : decode cX6_does 84 = .ok (.aload_n 0, 1) := by decide +kernel
theorem dX6_does_85 : decode cX6_does 85 = .ok (.iload_n 2, 1) := by decide +kernel
theorem dX6_does_86 : decode cX6_does 86 = .ok (.invokevirtual 123, 3) := by decide +kernel
theorem dX6_does_89 : decode cX6_does 89 = .ok (.pop, 1) := by decide +kernel
theorem dX6_does_90 : decode cX6_does 90 = .ok (.goto 88, 3) := by decide +kernel
theorem dX6_does_93 : decode cX6_does 93 = .ok (.aload_n 0, 1) := by decide +kernel
theorem dX6_does_94 : decode cX6_does 94 = .ok (.iload_n 2, 1) := by decide +kernel
theorem dX6_does_95 : decode cX6_does 95 = .ok (.iload_n 3, 1) := by decide +kernel
theorem dX6_does_96 : decode cX6_does 96 = .ok (.aload_n 0, 1) := by decide +kernel
theorem dX6_does_97 : decode cX6_does 97 = .ok (.getfield 29, 3) := by decide +kernel
theorem dX6_does_100 : decode cX6_does 100 = .ok (.iload_n 1, 1) := by decide +kernel
theorem dX6_does_101 : decode cX6_does 101 = .ok (.iconst 3, 1) := by decide +kernel
theorem dX6_does_102 : decode cX6_does 102 = .ok (.iadd, 1) := by decide +kernel
theorem dX6_does_103 : decode cX6_does 103 = .ok (.iaload, 1) := by decide +kernel
theorem dX6_does_104 : decode cX6_does 104 = .ok (.aload_n 0, 1) := by decide +kernel
theorem dX6_does_105 : decode cX6_does 105 = .ok (.getfield 29, 3) := by decide +kernel
theorem dX6_does_108 : decode cX6_does 108 = .ok (.iload_n 1, 1) := by decide +kernel
theorem dX6_does_109 : decode cX6_does 109 = .ok (.iconst 4, 1) := by decide +kernel
theorem dX6_does_110 : decode cX6_does 110 = .ok (.iadd, 1) := by decide +kernel
theorem dX6_does_111 : decode cX6_does 111 = .ok (.iaload, 1) := by decide +kernel
theorem dX6_does_112 : decode cX6_does 112 = .ok (.aload_n 0, 1) := by decide +kernel
theorem dX6_does_113 : decode cX6_does 113 = .ok (.getfield 29, 3) := by decide +kernel
theorem dX6_does_116 : decode cX6_does 116 = .ok (.iload_n 1, 1) := by decide +kernel
theorem dX6_does_117 : decode cX6_does 117 = .ok (.iconst 5, 1) := by decide +kernel
theorem dX6_does_118 : decode cX6_does 118 = .ok (.iadd, 1) := by decide +kernel
theorem dX6_does_119 : decode cX6_does 119 = .ok (.iaload, 1) := by decide +kernel
theorem dX6_does_120 : decode cX6_does 120 = .ok (.invokevirtual 130, 3) := by decide +kernel
theorem dX6_does_123 : decode cX6_does 123 = .ok (.pop, 1) := by decide +kernel
theorem dX6_does_124 : decode cX6_does 124 = .ok (.goto 54, 3) := by decide +kernel
theorem dX6_does_127 : decode cX6_does 127 = .ok (.aload_n 0, 1) := by decide +kernel
theorem dX6_does_128 : decode cX6_does 128 = .ok (.iload_n 2, 1) := by decide +kernel
theorem dX6_does_129 : decode cX6_does 129 = .ok (.iload_n 3, 1) := by decide +kernel
theorem dX6_does_130 : decode cX6_does 130 = .ok (.aload_n 0, 1) := by decide +kernel
theorem dX6_does_131 : decode cX6_does 131 = .ok (.getfield 29, 3) := by decide +kernel
theorem dX6_does_134 : decode cX6_does 134 = .ok (.iload_n 1, 1) := by decide +kernel
theorem dX6_does_135 : decode cX6_does 135 = .ok (.iconst 3, 1) := by decide +kernel
theorem dX6_does_136 : decode cX6_does 136 = .ok (.iadd, 1) := by decide +kernel
theorem dX6_does_137 : decode cX6_does 137 = .ok (.iaload, 1) := by decide +kernel
theorem dX6_does_138 : decode cX6_does 138 = .ok (.invokevirtual 90, 3) := by decide +kernel
theorem dX6_does_141 : decode cX6_does 141 = .ok (.pop, 1) := by decide +kernel
theorem dX6_does_142 : decode cX6_does 142 = .ok (.goto 36, 3) := by decide +kernel
theorem dX6_does_145 : decode cX6_does 145 = .ok (.aload_n 0, 1) := by decide +kernel
theorem dX6_does_146 : decode cX6_does 146 = .ok (.iload_n 2, 1) := by decide +kernel
theorem dX6_does_147 : decode cX6_does 147 = .ok (.iload_n 3, 1) := by decide +kernel
theorem dX6_does_148 : decode cX6_does 148 = .ok (.invokevirtual 151, 3) := by decide +kernel
theorem dX6_does_151 : decode cX6_does 151 = .ok (.pop, 1) := by decide +kernel
theorem dX6_does_152 : decode cX6_does 152 = .ok (.goto 26, 3) := by decide +kernel
theorem dX6_does_155 : decode cX6_does 155 = .ok (.aload_n 0, 1) := by decide +kernel
theorem dX6_does_156 : decode cX6_does 156 = .ok (.iload_n 2, 1) := by decide +kernel
theorem dX6_does_157 : decode cX6_does 157 = .ok (.invokevirtual 157, 3) := by decide +kernel
theorem dX6_does_160 : decode cX6_does 160 = .ok (.pop, 1) := by decide +kernel
theorem dX6_does_161 : decode cX6_does 161 = .ok (.goto 17, 3) := by decide +kernel
theorem dX6_does_164 : decode cX6_does 164 = .ok (.aload_n 0, 1) := by decide +kernel
theorem dX6_does_165 : decode cX6_does 165 = .ok (.iload_n 2, 1) := by decide +kernel
theorem dX6_does_166 : decode cX6_does 166 = .ok (.invokevirtual 166, 3) := by decide +kernel
theorem dX6_does_169 : decode cX6_does 169 = .ok (.pop, 1) := by decide +kernel
theorem dX6_does_170 : decode cX6_does 170 = .ok (.goto 8, 3) := by decide +kernel
theorem dX6_does_173 : decode cX6_does 173 = .ok (.aload_n 0, 1) := by decide +kernel
theorem dX6_does_174 : decode cX6_does 174 = .ok (.invokevirtual 145, 3) := by decide +kernel
theorem dX6_does_177 : decode cX6_does 177 = .ok (.pop, 1) := by decide +kernel
theorem dX6_does_178 : decode cX6_does 178 = .ok (.return_, 1) := by decide +kernel
theorem dX6_carryOut_0 : decode cX6_carryOut 0 = .ok (.aload_n 0, 1) := by decide +kernel
theorem dX6_carryOut_1 : decode cX6_carryOut 1 = .ok (.iconst 0, 1) := by decide +kernel
theorem dX6_carryOut_2 : decode cX6_carryOut 2 = .ok (.putfield 32, 3) := by decide +kernel
theorem dX6_carryOut_5 : decode cX6_carryOut 5 = .ok (.aload_n 0, 1) := by decide +kernel
theorem dX6_carryOut_6 : decode cX6_carryOut 6 = .ok (.invokevirtual 223, 3) := by decide +kernel
theorem dX6_carryOut_9 : decode cX6_carryOut 9 = .ok (.bipush (-6), 2) := by decide +kernel
theorem dX6_carryOut_11 : decode cX6_carryOut 11 = .ok (.if_icmp .eq 6, 3) := by decide +kernel
theorem dX6_carryOut_14 : decode cX6_carryOut 14 = .ok (.bipush (-3), 2) := by decide +kernel
theorem dX6_carryOut_16 : decode cX6_carryOut 16 = .ok (.ireturn, 1) := by decide +kernel
theorem dX6_carryOut_17 : decode cX6_carryOut 17 = .ok (.aload_n 0, 1) := by decide +kernel
theorem dX6_carryOut_18 : decode cX6_carryOut 18 = .ok (.invokevirtual 117, 3) := by decide +kernel
theorem dX6_carryOut_21 : decode cX6_carryOut 21 = .ok (.aload_n 0, 1) := by decide +kernel
theorem dX6_carryOut_22 : decode cX6_carryOut 22 = .ok (.iconst 0, 1) := by decide +kernel
theorem dX6_carryOut_23 : decode cX6_carryOut 23 = .ok (.putfield 178, 3) := by decide +kernel
theorem dX6_carryOut_26 : decode cX6_carryOut 26 = .ok (.iconst 0, 1) := by decide +kernel
theorem dX6_carryOut_27 : decode cX6_carryOut 27 = .ok (.istore_n 1, 1) := by decide +kernel
theorem dX6_carryOut_28 : decode cX6_carryOut 28 = .ok (.iload_n 1, 1) := by decide +kernel
theorem dX6_carryOut_29 : decode cX6_carryOut 29 = .ok (.aload_n 0, 1) := by decide +kernel
theorem dX6_carryOut_30 : decode cX6_carryOut 30 = .ok (.getfield 208, 3) := by decide +kernel
theorem dX6_carryOut_33 : decode cX6_carryOut 33 = .ok (.if_icmp .ge 28, 3) := by decide +kernel
theorem dX6_carryOut_36 : decode cX6_carryOut 36 = .ok (.aload_n 0, 1) := by decide +kernel
theorem dX6_carryOut_37 : decode cX6_carryOut 37 = .ok (.bipush 6, 2) := by decide +kernel
theorem dX6_carryOut_39 : decode cX6_carryOut 39 = .ok (.iload_n 1, 1) := by decide +kernel
theorem dX6_carryOut_40 : decode cX6_carryOut 40 = .ok (.imul, 1) := by decide +kernel
theorem dX6_carryOut_41 : decode cX6_carryOut 41 = .ok (.invokevirtual 226, 3) := by decide +kernel
theorem dX6_carryOut_44 : decode cX6_carryOut 44 = .ok (.ifCond .ne 17, 3) := by decide +kernel
theorem dX6_carryOut_47 : decode cX6_carryOut 47 = .ok (.aload_n 0, 1) := by decide +kernel
theorem dX6_carryOut_48 : decode cX6_carryOut 48 = .ok (.bipush 6, 2) := by decide +kernel
theorem dX6_carryOut_50 : decode cX6_carryOut 50 = .ok (.iload_n 1, 1) := by decide +kernel
theorem dX6_carryOut_51 : decode cX6_carryOut 51 = .ok (.imul, 1) := by decide +kernel
theorem dX6_carryOut_52 : decode cX6_carryOut 52 = .ok (.invokevirtual 229, 3) := by decide +kernel
theorem dX6_carryOut_55 : decode cX6_carryOut 55 = .ok (.iinc 1 1, 3) := by decide +kernel
theorem dX6_carryOut_58 : decode cX6_carryOut 58 = .ok (.goto (-30), 3) := by decide +kernel
theorem dX6_carryOut_61 : decode cX6_carryOut 61 = .ok (.iload_n 1, 1) := by decide +kernel
theorem dX6_carryOut_62 : decode cX6_carryOut 62 = .ok (.ireturn, 1) := by decide +kernel
theorem dX6_undo_0 : decode cX6_undo 0 = .ok (.aload_n 0, 1) := by decide +kernel
theorem dX6_undo_1 : decode cX6_undo 1 = .ok (.iconst 0, 1) := by decide +kernel
theorem dX6_undo_2 : decode cX6_undo 2 = .ok (.putfield 32, 3) := by decide +kernel
theorem dX6_undo_5 : decode cX6_undo 5 = .ok (.aload_n 0, 1) := by decide +kernel
theorem dX6_undo_6 : decode cX6_undo 6 = .ok (.getfield 40, 3) := by decide +kernel
theorem dX6_undo_9 : decode cX6_undo 9 = .ok (.ifCond .ne 6, 3) := by decide +kernel
theorem dX6_undo_12 : decode cX6_undo 12 = .ok (.bipush (-5), 2) := by decide +kernel
theorem dX6_undo_14 : decode cX6_undo 14 = .ok (.ireturn, 1) := by decide +kernel
theorem dX6_undo_15 : decode cX6_undo 15 = .ok (.aload_n 0, 1) := by decide +kernel
theorem dX6_undo_16 : decode cX6_undo 16 = .ok (.dup, 1) := by decide +kernel
theorem dX6_undo_17 : decode cX6_undo 17 = .ok (.getfield 40, 3) := by decide +kernel
theorem dX6_undo_20 : decode cX6_undo 20 = .ok (.iconst 1, 1) := by decide +kernel
theorem dX6_undo_21 : decode cX6_undo 21 = .ok (.isub, 1) := by decide +kernel
theorem dX6_undo_22 : decode cX6_undo 22 = .ok (.putfield 40, 3) := by decide +kernel
theorem dX6_undo_25 : decode cX6_undo 25 = .ok (.iconst 0, 1) := by decide +kernel
theorem dX6_undo_26 : decode cX6_undo 26 = .ok (.istore_n 1, 1) := by decide +kernel
theorem dX6_undo_27 : decode cX6_undo 27 = .ok (.iload_n 1, 1) := by decide +kernel
theorem dX6_undo_28 : decode cX6_undo 28 = .ok (.sipush 244, 3) := by decide +kernel
theorem dX6_undo_31 : decode cX6_undo 31 = .ok (.if_icmp .ge 30, 3) := by decide +kernel
theorem dX6_undo_34 : decode cX6_undo 34 = .ok (.aload_n 0, 1) := by decide +kernel
theorem dX6_undo_35 : decode cX6_undo 35 = .ok (.getfield 7, 3) := by decide +kernel
theorem dX6_undo_38 : decode cX6_undo 38 = .ok (.iload_n 1, 1) := by decide +kernel
theorem dX6_undo_39 : decode cX6_undo 39 = .ok (.aload_n 0, 1) := by decide +kernel
theorem dX6_undo_40 : decode cX6_undo 40 = .ok (.getfield 16, 3) := by decide +kernel
theorem dX6_undo_43 : decode cX6_undo 43 = .ok (.sipush 244, 3) := by decide +kernel
theorem dX6_undo_46 : decode cX6_undo 46 = .ok (.aload_n 0, 1) := by decide +kernel
theorem dX6_undo_47 : decode cX6_undo 47 = .ok (.getfield 40, 3) := by decide +kernel
theorem dX6_undo_50 : decode cX6_undo 50 = .ok (.imul, 1) := by decide +kernel
theorem dX6_undo_51 : decode cX6_undo 51 = .ok (.iload_n 1, 1) := by decide +kernel
theorem dX6_undo_52 : decode cX6_undo 52 = .ok (.iadd, 1) := by decide +kernel
theorem dX6_undo_53 : decode cX6_undo 53 = .ok (.iaload, 1) := by decide +kernel
theorem dX6_undo_54 : decode cX6_undo 54 = .ok (.iastore, 1) := by decide +kernel
theorem dX6_undo_55 : decode cX6_undo 55 = .ok (.iinc 1 1, 3) := by decide +kernel
theorem dX6_undo_58 : decode cX6_undo 58 = .ok (.goto (-31), 3) := by decide +kernel
theorem dX6_undo_61 : decode cX6_undo 61 = .ok (.aload_n 0, 1) := by decide +kernel
theorem dX6_undo_62 : decode cX6_undo 62 = .ok (.getfield 40, 3) := by decide +kernel
theorem dX6_undo_65 : decode cX6_undo 65 = .ok (.ireturn, 1) := by decide +kernel
theorem dX6_save_0 : decode cX6_save 0 = .ok (.aload_n 0, 1) := by decide +kernel
theorem dX6_save_1 : decode cX6_save 1 = .ok (.iconst 0, 1) := by decide +kernel
theorem dX6_save_2 : decode cX6_save 2 = .ok (.putfield 32, 3) := by decide +kernel
theorem dX6_save_5 : decode cX6_save 5 = .ok (.iload_n 1, 1) := by decide +kernel
theorem dX6_save_6 : decode cX6_save 6 = .ok (.iconst 0, 1) := by decide +kernel
theorem dX6_save_7 : decode cX6_save 7 = .ok (.iconst 1, 1) := by decide +kernel
theorem dX6_save_8 : decode cX6_save 8 = .ok (.invokestatic 36, 3) := by decide +kernel
theorem dX6_save_11 : decode cX6_save 11 = .ok (.ifCond .ne 6, 3) := by decide +kernel
theorem dX6_save_14 : decode cX6_save 14 = .ok (.bipush (-2), 2) := by decide +kernel
theorem dX6_save_16 : decode cX6_save 16 = .ok (.ireturn, 1) := by decide +kernel
theorem dX6_save_17 : decode cX6_save 17 = .ok (.iconst 0, 1) := by decide +kernel
theorem dX6_save_18 : decode cX6_save 18 = .ok (.istore_n 2, 1) := by decide +kernel
theorem dX6_save_19 : decode cX6_save 19 = .ok (.iload_n 2, 1) := by decide +kernel
theorem dX6_save_20 : decode cX6_save 20 = .ok (.sipush 244, 3) := by decide +kernel
theorem dX6_save_23 : decode cX6_save 23 = .ok (.if_icmp .ge 27, 3) := by decide +kernel
theorem dX6_save_26 : decode cX6_save 26 = .ok (.aload_n 0, 1) := by decide +kernel
theorem dX6_save_27 : decode cX6_save 27 = .ok (.getfield 19, 3) := by decide +kernel
theorem dX6_save_30 : decode cX6_save 30 = .ok (.sipush 244, 3) := by decide +kernel
theorem dX6_save_33 : decode cX6_save 33 = .ok (.iload_n 1, 1) := by decide +kernel
theorem dX6_save_34 : decode cX6_save 34 = .ok (.imul, 1) := by decide +kernel
theorem dX6_save_35 : decode cX6_save 35 = .ok (.iload_n 2, 1) := by decide +kernel
theorem dX6_save_36 : decode cX6_save 36 = .ok (.iadd, 1) := by decide +kernel
theorem dX6_save_37 : decode cX6_save 37 = .ok (.aload_n 0, 1) := by decide +kernel
theorem dX6_save_38 : decode cX6_save 38 = .ok (.getfield 7, 3) := by decide +kernel
theorem dX6_save_41 : decode cX6_save 41 = .ok (.iload_n 2, 1) := by decide +kernel
theorem dX6_save_42 : decode cX6_save 42 = .ok (.iaload, 1) := by decide +kernel
theorem dX6_save_43 : decode cX6_save 43 = .ok (.iastore, 1) := by decide +kernel
theorem dX6_save_44 : decode cX6_save 44 = .ok (.iinc 2 1, 3) := by decide +kernel
theorem dX6_save_47 : decode cX6_save 47 = .ok (.goto (-28), 3) := by decide +kernel
theorem dX6_save_50 : decode cX6_save 50 = .ok (.aload_n 0, 1) := by decide +kernel
theorem dX6_save_51 : decode cX6_save 51 = .ok (.getfield 22, 3) := by decide +kernel
theorem dX6_save_54 : decode cX6_save 54 = .ok (.iload_n 1, 1) := by decide +kernel
theorem dX6_save_55 : decode cX6_save 55 = .ok (.iconst 1, 1) := by decide +kernel
theorem dX6_save_56 : decode cX6_save 56 = .ok (.bastore, 1) := by decide +kernel
theorem dX6_save_57 : decode cX6_save 57 = .ok (.aload_n 0, 1) := by decide +kernel
theorem dX6_save_58 : decode cX6_save 58 = .ok (.getfield 7, 3) := by decide +kernel
theorem dX6_save_61 : decode cX6_save 61 = .ok (.bipush 6, 2) := by decide +kernel
theorem dX6_save_63 : decode cX6_save 63 = .ok (.iaload, 1) := by decide +kernel
theorem dX6_save_64 : decode cX6_save 64 = .ok (.ireturn, 1) := by decide +kernel
theorem dX6_restore_0 : decode cX6_restore 0 = .ok (.aload_n 0, 1) := by decide +kernel
theorem dX6_restore_1 : decode cX6_restore 1 = .ok (.iconst 0, 1) := by decide +kernel
theorem dX6_restore_2 : decode cX6_restore 2 = .ok (.putfield 32, 3) := by decide +kernel
theorem dX6_restore_5 : decode cX6_restore 5 = .ok (.iload_n 1, 1) := by decide +kernel
theorem dX6_restore_6 : decode cX6_restore 6 = .ok (.iconst 0, 1) := by decide +kernel
theorem dX6_restore_7 : decode cX6_restore 7 = .ok (.iconst 1, 1) := by decide +kernel
theorem dX6_restore_8 : decode cX6_restore 8 = .ok (.invokestatic 36, 3) := by decide +kernel
theorem dX6_restore_11 : decode cX6_restore 11 = .ok (.ifCond .ne 6, 3) := by decide +kernel
theorem dX6_restore_14 : decode cX6_restore 14 = .ok (.bipush (-2), 2) := by decide +kernel
theorem dX6_restore_16 : decode cX6_restore 16 = .ok (.ireturn, 1) := by decide +kernel
theorem dX6_restore_17 : decode cX6_restore 17 = .ok (.aload_n 0, 1) := by decide +kernel
theorem dX6_restore_18 : decode cX6_restore 18 = .ok (.getfield 22, 3) := by decide +kernel
theorem dX6_restore_21 : decode cX6_restore 21 = .ok (.iload_n 1, 1) := by decide +kernel
theorem dX6_restore_22 : decode cX6_restore 22 = .ok (.baload, 1) := by decide +kernel
theorem dX6_restore_23 : decode cX6_restore 23 = .ok (.ifCond .ne 6, 3) := by decide +kernel
theorem dX6_restore_26 : decode cX6_restore 26 = .ok (.bipush (-5), 2) := by decide +kernel
theorem dX6_restore_28 : decode cX6_restore 28 = .ok (.ireturn, 1) := by decide +kernel
theorem dX6_restore_29 : decode cX6_restore 29 = .ok (.aload_n 0, 1) := by decide +kernel
theorem dX6_restore_30 : decode cX6_restore 30 = .ok (.invokevirtual 117, 3) := by decide +kernel
theorem dX6_restore_33 : decode cX6_restore 33 = .ok (.iconst 0, 1) := by decide +kernel
theorem dX6_restore_34 : decode cX6_restore 34 = .ok (.istore_n 2, 1) := by decide +kernel
theorem dX6_restore_35 : decode cX6_restore 35 = .ok (.iload_n 2, 1) := by decide +kernel
theorem dX6_restore_36 : decode cX6_restore 36 = .ok (.sipush 244, 3) := by decide +kernel
theorem dX6_restore_39 : decode cX6_restore 39 = .ok (.if_icmp .ge 27, 3) := by decide +kernel
theorem dX6_restore_42 : decode cX6_restore 42 = .ok (.aload_n 0, 1) := by decide +kernel
theorem dX6_restore_43 : decode cX6_restore 43 = .ok (.getfield 7, 3) := by decide +kernel
theorem dX6_restore_46 : decode cX6_restore 46 = .ok (.iload_n 2, 1) := by decide +kernel
theorem dX6_restore_47 : decode cX6_restore 47 = .ok (.aload_n 0, 1) := by decide +kernel
theorem dX6_restore_48 : decode cX6_restore 48 = .ok (.getfield 19, 3) := by decide +kernel
theorem dX6_restore_51 : decode cX6_restore 51 = .ok (.sipush 244, 3) := by decide +kernel
theorem dX6_restore_54 : decode cX6_restore 54 = .ok (.iload_n 1, 1) := by decide +kernel
theorem dX6_restore_55 : decode cX6_restore 55 = .ok (.imul, 1) := by decide +kernel
theorem dX6_restore_56 : decode cX6_restore 56 = .ok (.iload_n 2, 1) := by decide +kernel
theorem dX6_restore_57 : decode cX6_restore 57 = .ok (.iadd, 1) := by decide +kernel
theorem dX6_restore_58 : decode cX6_restore 58 = .ok (.iaload, 1) := by decide +kernel
theorem dX6_restore_59 : decode cX6_restore 59 = .ok (.iastore, 1) := by decide +kernel
theorem dX6_restore_60 : decode cX6_restore 60 = .ok (.iinc 2 1, 3) := by decide +kernel
theorem dX6_restore_63 : decode cX6_restore 63 = .ok (.goto (-28), 3) := by decide +kernel
theorem dX6_restore_66 : decode cX6_restore 66 = .ok (.aload_n 0, 1) := by decide +kernel
theorem dX6_restore_67 : decode cX6_restore 67 = .ok (.getfield 7, 3) := by decide +kernel
theorem dX6_restore_70 : decode cX6_restore 70 = .ok (.bipush 6, 2) := by decide +kernel
theorem dX6_restore_72 : decode cX6_restore 72 = .ok (.iaload, 1) := by decide +kernel
theorem dX6_restore_73 : decode cX6_restore 73 = .ok (.ireturn, 1) := by decide +kernel
theorem dJ6_bitCount_0f7a4_0 : decode cJ6_bitCount_0f7a4 0 = .ok (.iload_n 0, 1) := by decide +kernel
theorem dJ6_bitCount_0f7a4_1 : decode cJ6_bitCount_0f7a4 1 = .ok (.iload_n 0, 1) := by decide +kernel
theorem dJ6_bitCount_0f7a4_2 : decode cJ6_bitCount_0f7a4 2 = .ok (.iconst 1, 1) := by decide +kernel
theorem dJ6_bitCount_0f7a4_3 : decode cJ6_bitCount_0f7a4 3 = .ok (.iushr, 1) := by decide +kernel
theorem dJ6_bitCount_0f7a4_4 : decode cJ6_bitCount_0f7a4 4 = .ok (.ldc_w 265, 3) := by decide +kernel
theorem dJ6_bitCount_0f7a4_7 : decode cJ6_bitCount_0f7a4 7 = .ok (.iand, 1) := by decide +kernel
theorem dJ6_bitCount_0f7a4_8 : decode cJ6_bitCount_0f7a4 8 = .ok (.isub, 1) := by decide +kernel
theorem dJ6_bitCount_0f7a4_9 : decode cJ6_bitCount_0f7a4 9 = .ok (.istore_n 0, 1) := by decide +kernel
theorem dJ6_bitCount_0f7a4_10 : decode cJ6_bitCount_0f7a4 10 = .ok (.iload_n 0, 1) := by decide +kernel
theorem dJ6_bitCount_0f7a4_11 : decode cJ6_bitCount_0f7a4 11 = .ok (.ldc_w 266, 3) := by decide +kernel
theorem dJ6_bitCount_0f7a4_14 : decode cJ6_bitCount_0f7a4 14 = .ok (.iand, 1) := by decide +kernel
theorem dJ6_bitCount_0f7a4_15 : decode cJ6_bitCount_0f7a4 15 = .ok (.iload_n 0, 1) := by decide +kernel
theorem dJ6_bitCount_0f7a4_16 : decode cJ6_bitCount_0f7a4 16 = .ok (.iconst 2, 1) := by decide +kernel
theorem dJ6_bitCount_0f7a4_17 : decode cJ6_bitCount_0f7a4 17 = .ok (.iushr, 1) := by decide +kernel
theorem dJ6_bitCount_0f7a4_18 : decode cJ6_bitCount_0f7a4 18 = .ok (.ldc_w 266, 3) := by decide +kernel
theorem dJ6_bitCount_0f7a4_21 : decode cJ6_bitCount_0f7a4 21 = .ok (.iand, 1) := by decide +kernel
theorem dJ6_bitCount_0f7a4_22 : decode cJ6_bitCount_0f7a4 22 = .ok (.iadd, 1) := by decide +kernel
theorem dJ6_bitCount_0f7a4_23 : decode cJ6_bitCount_0f7a4 23 = .ok (.istore_n 0, 1) := by decide +kernel
theorem dJ6_bitCount_0f7a4_24 : decode cJ6_bitCount_0f7a4 24 = .ok (.iload_n 0, 1) := by decide +kernel
theorem dJ6_bitCount_0f7a4_25 : decode cJ6_bitCount_0f7a4 25 = .ok (.iload_n 0, 1) := by decide +kernel
theorem dJ6_bitCount_0f7a4_26 : decode cJ6_bitCount_0f7a4 26 = .ok (.iconst 4, 1) := by decide +kernel
theorem dJ6_bitCount_0f7a4_27 : decode cJ6_bitCount_0f7a4 27 = .ok (.iushr, 1) := by decide +kernel
theorem dJ6_bitCount_0f7a4_28 : decode cJ6_bitCount_0f7a4 28 = .ok (.iadd, 1) := by decide +kernel
theorem dJ6_bitCount_0f7a4_29 : decode cJ6_bitCount_0f7a4 29 = .ok (.ldc_w 267, 3) := by decide +kernel
theorem dJ6_bitCount_0f7a4_32 : decode cJ6_bitCount_0f7a4 32 = .ok (.iand, 1) := by decide +kernel
theorem dJ6_bitCount_0f7a4_33 : decode cJ6_bitCount_0f7a4 33 = .ok (.istore_n 0, 1) := by decide +kernel
theorem dJ6_bitCount_0f7a4_34 : decode cJ6_bitCount_0f7a4 34 = .ok (.iload_n 0, 1) := by decide +kernel
theorem dJ6_bitCount_0f7a4_35 : decode cJ6_bitCount_0f7a4 35 = .ok (.iload_n 0, 1) := by decide +kernel
theorem dJ6_bitCount_0f7a4_36 : decode cJ6_bitCount_0f7a4 36 = .ok (.bipush 8, 2) := by decide +kernel
theorem dJ6_bitCount_0f7a4_38 : decode cJ6_bitCount_0f7a4 38 = .ok (.iushr, 1) := by decide +kernel
theorem dJ6_bitCount_0f7a4_39 : decode cJ6_bitCount_0f7a4 39 = .ok (.iadd, 1) := by decide +kernel
theorem dJ6_bitCount_0f7a4_40 : decode cJ6_bitCount_0f7a4 40 = .ok (.istore_n 0, 1) := by decide +kernel
theorem dJ6_bitCount_0f7a4_41 : decode cJ6_bitCount_0f7a4 41 = .ok (.iload_n 0, 1) := by decide +kernel
theorem dJ6_bitCount_0f7a4_42 : decode cJ6_bitCount_0f7a4 42 = .ok (.iload_n 0, 1) := by decide +kernel
theorem dJ6_bitCount_0f7a4_43 : decode cJ6_bitCount_0f7a4 43 = .ok (.bipush 16, 2) := by decide +kernel
theorem dJ6_bitCount_0f7a4_45 : decode cJ6_bitCount_0f7a4 45 = .ok (.iushr, 1) := by decide +kernel
theorem dJ6_bitCount_0f7a4_46 : decode cJ6_bitCount_0f7a4 46 = .ok (.iadd, 1) := by decide +kernel
theorem dJ6_bitCount_0f7a4_47 : decode cJ6_bitCount_0f7a4 47 = .ok (.istore_n 0, 1) := by decide +kernel
theorem dJ6_bitCount_0f7a4_48 : decode cJ6_bitCount_0f7a4 48 = .ok (.iload_n 0, 1) := by decide +kernel
theorem dJ6_bitCount_0f7a4_49 : decode cJ6_bitCount_0f7a4 49 = .ok (.bipush 63, 2) := by decide +kernel
theorem dJ6_bitCount_0f7a4_51 : decode cJ6_bitCount_0f7a4 51 = .ok (.iand, 1) := by decide +kernel
theorem dJ6_bitCount_0f7a4_52 : decode cJ6_bitCount_0f7a4 52 = .ok (.ireturn, 1) := by decide +kernel
theorem dJ9_max_7cf53_0 : decode cJ9_max_7cf53 0 = .ok (.iload_n 0, 1) := by decide +kernel
theorem dJ9_max_7cf53_1 : decode cJ9_max_7cf53 1 = .ok (.iload_n 1, 1) := by decide +kernel
theorem dJ9_max_7cf53_2 : decode cJ9_max_7cf53 2 = .ok (.if_icmp .lt 7, 3) := by decide +kernel
theorem dJ9_max_7cf53_5 : decode cJ9_max_7cf53 5 = .ok (.iload_n 0, 1) := by decide +kernel
theorem dJ9_max_7cf53_6 : decode cJ9_max_7cf53 6 = .ok (.goto 4, 3) := by decide +kernel
theorem dJ9_max_7cf53_9 : decode cJ9_max_7cf53 9 = .ok (.iload_n 1, 1) := by decide +kernel
theorem dJ9_max_7cf53_10 : decode cJ9_max_7cf53 10 = .ok (.ireturn, 1) := by decide +kernel
theorem dJ9_min_7cf53_0 : decode cJ9_min_7cf53 0 = .ok (.iload_n 0, 1) := by decide +kernel
theorem dJ9_min_7cf53_1 : decode cJ9_min_7cf53 1 = .ok (.iload_n 1, 1) := by decide +kernel
theorem dJ9_min_7cf53_2 : decode cJ9_min_7cf53 2 = .ok (.if_icmp .gt 7, 3) := by decide +kernel
theorem dJ9_min_7cf53_5 : decode cJ9_min_7cf53 5 = .ok (.iload_n 0, 1) := by decide +kernel
theorem dJ9_min_7cf53_6 : decode cJ9_min_7cf53 6 = .ok (.goto 4, 3) := by decide +kernel
theorem dJ9_min_7cf53_9 : decode cJ9_min_7cf53 9 = .ok (.iload_n 1, 1) := by decide +kernel
theorem dJ9_min_7cf53_10 : decode cJ9_min_7cf53 10 = .ok (.ireturn, 1) := by decide +kernel
theorem dJ0_length_8abf5_0 : decode cJ0_length_8abf5 0 = .ok (.aload_n 0, 1) := by decide +kernel
theorem dJ0_length_8abf5_1 : decode cJ0_length_8abf5 1 = .ok (.getfield 9, 3) := by decide +kernel
theorem dJ0_length_8abf5_4 : decode cJ0_length_8abf5 4 = .ok (.arraylength, 1) := by decide +kernel
theorem dJ0_length_8abf5_5 : decode cJ0_length_8abf5 5 = .ok (.aload_n 0, 1) := by decide +kernel
theorem dJ0_length_8abf5_6 : decode cJ0_length_8abf5 6 = .ok (.invokevirtual 335, 3) := by decide +kernel
theorem dJ0_length_8abf5_9 : decode cJ0_length_8abf5 9 = .ok (.ishr, 1) := by decide +kernel
theorem dJ0_length_8abf5_10 : decode cJ0_length_8abf5 10 = .ok (.ireturn, 1) := by decide +kernel
theorem dJ0_charAt_5068e_0 : decode cJ0_charAt_5068e 0 = .ok (.aload_n 0, 1) := by decide +kernel
theorem dJ0_charAt_5068e_1 : decode cJ0_charAt_5068e 1 = .ok (.invokevirtual 492, 3) := by decide +kernel
theorem dJ0_charAt_5068e_4 : decode cJ0_charAt_5068e 4 = .ok (.ifCond .eq 12, 3) := by decide +kernel
theorem dJ0_charAt_5068e_7 : decode cJ0_charAt_5068e 7 = .ok (.aload_n 0, 1) := by decide +kernel
theorem dJ0_charAt_5068e_8 : decode cJ0_charAt_5068e 8 = .ok (.getfield 9, 3) := by decide +kernel
theorem dJ0_charAt_5068e_11 : decode cJ0_charAt_5068e 11 = .ok (.iload_n 1, 1) := by decide +kernel
theorem dJ0_charAt_5068e_12 : decode cJ0_charAt_5068e 12 = .ok (.invokestatic 495, 3) := by decide +kernel
theorem dJ0_charAt_5068e_15 : decode cJ0_charAt_5068e 15 = .ok (.ireturn, 1) := by decide +kernel
theorem dJ0_charAt_5068e_16 : decode cJ0_charAt_5068e 16 = .ok (.aload_n 0, 1) := by decide +kernel
theorem dJ0_charAt_5068e_17 : decode cJ0_charAt_5068e 17 = .ok (.getfield 9, 3) := by decide +kernel
end
section
theorem dJ0_charAt_5068e_20 : decode cJ0_charAt_5068e 20 = .ok (.iload_n 1, 1) := by decide +kernel
theorem dJ0_charAt_5068e_21 : decode cJ0_charAt_5068e 21 = .ok (.invokestatic 498, 3) := by decide +kernel
theorem dJ0_charAt_5068e_24 : decode cJ0_charAt_5068e 24 = .ok (.ireturn, 1) := by decide +kernel
theorem dJ0_indexOf_0f7a4_0 : decode cJ0_indexOf_0f7a4 0 = .ok (.aload_n 0, 1) := by decide +kernel
theorem dJ0_indexOf_0f7a4_1 : decode cJ0_indexOf_0f7a4 1 = .ok (.iload_n 1, 1) := by decide +kernel
theorem dJ0_indexOf_0f7a4_2 : decode cJ0_indexOf_0f7a4 2 = .ok (.iconst 0, 1) := by decide +kernel
theorem dJ0_indexOf_0f7a4_3 : decode cJ0_indexOf_0f7a4 3 = .ok (.invokevirtual 633, 3) := by decide +kernel
theorem dJ0_indexOf_0f7a4_6 : decode cJ0_indexOf_0f7a4 6 = .ok (.ireturn, 1) := by decide +kernel
theorem dJ0_indexOf_7cf53_0 : decode cJ0_indexOf_7cf53 0 = .ok (.aload_n 0, 1) := by decide +kernel
theorem dJ0_indexOf_7cf53_1 : decode cJ0_indexOf_7cf53 1 = .ok (.invokevirtual 492, 3) := by decide +kernel
theorem dJ0_indexOf_7cf53_4 : decode cJ0_indexOf_7cf53 4 = .ok (.ifCond .eq 19, 3) := by decide +kernel
theorem dJ0_indexOf_7cf53_7 : decode cJ0_indexOf_7cf53 7 = .ok (.aload_n 0, 1) := by decide +kernel
theorem dJ0_indexOf_7cf53_8 : decode cJ0_indexOf_7cf53 8 = .ok (.getfield 9, 3) := by decide +kernel
theorem dJ0_indexOf_7cf53_11 : decode cJ0_indexOf_7cf53 11 = .ok (.iload_n 1, 1) := by decide +kernel
theorem dJ0_indexOf_7cf53_12 : decode cJ0_indexOf_7cf53 12 = .ok (.iload_n 2, 1) := by decide +kernel
theorem dJ0_indexOf_7cf53_13 : decode cJ0_indexOf_7cf53 13 = .ok (.aload_n 0, 1) := by decide +kernel
theorem dJ0_indexOf_7cf53_14 : decode cJ0_indexOf_7cf53 14 = .ok (.invokevirtual 505, 3) := by decide +kernel
theorem dJ0_indexOf_7cf53_17 : decode cJ0_indexOf_7cf53 17 = .ok (.invokestatic 637, 3) := by decide +kernel
theorem dJ0_indexOf_7cf53_20 : decode cJ0_indexOf_7cf53 20 = .ok (.goto 16, 3) := by decide +kernel
theorem dJ0_indexOf_7cf53_23 : decode cJ0_indexOf_7cf53 23 = .ok (.aload_n 0, 1) := by decide +kernel
theorem dJ0_indexOf_7cf53_24 : decode cJ0_indexOf_7cf53 24 = .ok (.getfield 9, 3) := by decide +kernel
theorem dJ0_indexOf_7cf53_27 : decode cJ0_indexOf_7cf53 27 = .ok (.iload_n 1, 1) := by decide +kernel
theorem dJ0_indexOf_7cf53_28 : decode cJ0_indexOf_7cf53 28 = .ok (.iload_n 2, 1) := by decide +kernel
theorem dJ0_indexOf_7cf53_29 : decode cJ0_indexOf_7cf53 29 = .ok (.aload_n 0, 1) := by decide +kernel
theorem dJ0_indexOf_7cf53_30 : decode cJ0_indexOf_7cf53 30 = .ok (.invokevirtual 505, 3) := by decide +kernel
theorem dJ0_indexOf_7cf53_33 : decode cJ0_indexOf_7cf53 33 = .ok (.invokestatic 640, 3) := by decide +kernel
theorem dJ0_indexOf_7cf53_36 : decode cJ0_indexOf_7cf53 36 = .ok (.ireturn, 1) := by decide +kernel
theorem dJ0_coder_7d493_0 : decode cJ0_coder_7d493 0 = .ok (.getstatic 38, 3) := by decide +kernel
theorem dJ0_coder_7d493_3 : decode cJ0_coder_7d493 3 = .ok (.ifCond .eq 10, 3) := by decide +kernel
theorem dJ0_coder_7d493_6 : decode cJ0_coder_7d493 6 = .ok (.aload_n 0, 1) := by decide +kernel
theorem dJ0_coder_7d493_7 : decode cJ0_coder_7d493 7 = .ok (.getfield 15, 3) := by decide +kernel
theorem dJ0_coder_7d493_10 : decode cJ0_coder_7d493 10 = .ok (.goto 4, 3) := by decide +kernel
theorem dJ0_coder_7d493_13 : decode cJ0_coder_7d493 13 = .ok (.iconst 1, 1) := by decide +kernel
theorem dJ0_coder_7d493_14 : decode cJ0_coder_7d493 14 = .ok (.ireturn, 1) := by decide +kernel
theorem dJ0_isLatin1_aae02_0 : decode cJ0_isLatin1_aae02 0 = .ok (.getstatic 38, 3) := by decide +kernel
theorem dJ0_isLatin1_aae02_3 : decode cJ0_isLatin1_aae02 3 = .ok (.ifCond .eq 14, 3) := by decide +kernel
theorem dJ0_isLatin1_aae02_6 : decode cJ0_isLatin1_aae02 6 = .ok (.aload_n 0, 1) := by decide +kernel
theorem dJ0_isLatin1_aae02_7 : decode cJ0_isLatin1_aae02 7 = .ok (.getfield 15, 3) := by decide +kernel
theorem dJ0_isLatin1_aae02_10 : decode cJ0_isLatin1_aae02 10 = .ok (.ifCond .ne 7, 3) := by decide +kernel
theorem dJ0_isLatin1_aae02_13 : decode cJ0_isLatin1_aae02 13 = .ok (.iconst 1, 1) := by decide +kernel
theorem dJ0_isLatin1_aae02_14 : decode cJ0_isLatin1_aae02 14 = .ok (.goto 4, 3) := by decide +kernel
theorem dJ0_isLatin1_aae02_17 : decode cJ0_isLatin1_aae02 17 = .ok (.iconst 0, 1) := by decide +kernel
theorem dJ0_isLatin1_aae02_18 : decode cJ0_isLatin1_aae02 18 = .ok (.ireturn, 1) := by decide +kernel
theorem dJ0_checkIndex_df160_0 : decode cJ0_checkIndex_df160 0 = .ok (.iload_n 0, 1) := by decide +kernel
theorem dJ0_checkIndex_df160_1 : decode cJ0_checkIndex_df160 1 = .ok (.iload_n 1, 1) := by decide +kernel
theorem dJ0_checkIndex_df160_2 : decode cJ0_checkIndex_df160 2 = .ok (.getstatic 1053, 3) := by decide +kernel
theorem dJ0_checkIndex_df160_5 : decode cJ0_checkIndex_df160 5 = .ok (.invokestatic 1059, 3) := by decide +kernel
theorem dJ0_checkIndex_df160_8 : decode cJ0_checkIndex_df160 8 = .ok (.pop, 1) := by decide +kernel
theorem dJ0_checkIndex_df160_9 : decode cJ0_checkIndex_df160 9 = .ok (.return_, 1) := by decide +kernel
theorem dJ0_checkBoundsBeginEnd_23922_0 : decode cJ0_checkBoundsBeginEnd_23922 0 = .ok (.iload_n 0, 1) := by decide +kernel
theorem dJ0_checkBoundsBeginEnd_23922_1 : decode cJ0_checkBoundsBeginEnd_23922 1 = .ok (.iload_n 1, 1) := by decide +kernel
theorem dJ0_checkBoundsBeginEnd_23922_2 : decode cJ0_checkBoundsBeginEnd_23922 2 = .ok (.iload_n 2, 1) := by decide +kernel
theorem dJ0_checkBoundsBeginEnd_23922_3 : decode cJ0_checkBoundsBeginEnd_23922 3 = .ok (.getstatic 1053, 3) := by decide +kernel
theorem dJ0_checkBoundsBeginEnd_23922_6 : decode cJ0_checkBoundsBeginEnd_23922 6 = .ok (.invokestatic 1062, 3) := by decide +kernel
theorem dJ0_checkBoundsBeginEnd_23922_9 : decode cJ0_checkBoundsBeginEnd_23922 9 = .ok (.pop, 1) := by decide +kernel
theorem dJ0_checkBoundsBeginEnd_23922_10 : decode cJ0_checkBoundsBeginEnd_23922 10 = .ok (.return_, 1) := by decide +kernel
theorem dJ1_charAt_3b067_0 : decode cJ1_charAt_3b067 0 = .ok (.iload_n 1, 1) := by decide +kernel
theorem dJ1_charAt_3b067_1 : decode cJ1_charAt_3b067 1 = .ok (.aload_n 0, 1) := by decide +kernel
theorem dJ1_charAt_3b067_2 : decode cJ1_charAt_3b067 2 = .ok (.arraylength, 1) := by decide +kernel
theorem dJ1_charAt_3b067_3 : decode cJ1_charAt_3b067 3 = .ok (.invokestatic 9, 3) := by decide +kernel
theorem dJ1_charAt_3b067_6 : decode cJ1_charAt_3b067 6 = .ok (.aload_n 0, 1) := by decide +kernel
theorem dJ1_charAt_3b067_7 : decode cJ1_charAt_3b067 7 = .ok (.iload_n 1, 1) := by decide +kernel
theorem dJ1_charAt_3b067_8 : decode cJ1_charAt_3b067 8 = .ok (.baload, 1) := by decide +kernel
theorem dJ1_charAt_3b067_9 : decode cJ1_charAt_3b067 9 = .ok (.sipush 255, 3) := by decide +kernel
theorem dJ1_charAt_3b067_12 : decode cJ1_charAt_3b067 12 = .ok (.iand, 1) := by decide +kernel
theorem dJ1_charAt_3b067_13 : decode cJ1_charAt_3b067 13 = .ok (.i2c, 1) := by decide +kernel
theorem dJ1_charAt_3b067_14 : decode cJ1_charAt_3b067 14 = .ok (.ireturn, 1) := by decide +kernel
theorem dJ1_canEncode_9a6ad_0 : decode cJ1_canEncode_9a6ad 0 = .ok (.iload_n 0, 1) := by decide +kernel
theorem dJ1_canEncode_9a6ad_1 : decode cJ1_canEncode_9a6ad 1 = .ok (.ifCond .lt 14, 3) := by decide +kernel
theorem dJ1_canEncode_9a6ad_4 : decode cJ1_canEncode_9a6ad 4 = .ok (.iload_n 0, 1) := by decide +kernel
theorem dJ1_canEncode_9a6ad_5 : decode cJ1_canEncode_9a6ad 5 = .ok (.sipush 255, 3) := by decide +kernel
theorem dJ1_canEncode_9a6ad_8 : decode cJ1_canEncode_9a6ad 8 = .ok (.if_icmp .gt 7, 3) := by decide +kernel
theorem dJ1_canEncode_9a6ad_11 : decode cJ1_canEncode_9a6ad 11 = .ok (.iconst 1, 1) := by decide +kernel
theorem dJ1_canEncode_9a6ad_12 : decode cJ1_canEncode_9a6ad 12 = .ok (.goto 4, 3) := by decide +kernel
theorem dJ1_canEncode_9a6ad_15 : decode cJ1_canEncode_9a6ad 15 = .ok (.iconst 0, 1) := by decide +kernel
theorem dJ1_canEncode_9a6ad_16 : decode cJ1_canEncode_9a6ad 16 = .ok (.ireturn, 1) := by decide +kernel
theorem dJ1_indexOf_4cfef_0 : decode cJ1_indexOf_4cfef 0 = .ok (.iload_n 1, 1) := by decide +kernel
theorem dJ1_indexOf_4cfef_1 : decode cJ1_indexOf_4cfef 1 = .ok (.invokestatic 88, 3) := by decide +kernel
theorem dJ1_indexOf_4cfef_4 : decode cJ1_indexOf_4cfef 4 = .ok (.ifCond .ne 5, 3) := by decide +kernel
theorem dJ1_indexOf_4cfef_7 : decode cJ1_indexOf_4cfef 7 = .ok (.iconst (-1), 1) := by decide +kernel
theorem dJ1_indexOf_4cfef_8 : decode cJ1_indexOf_4cfef 8 = .ok (.ireturn, 1) := by decide +kernel
theorem dJ1_indexOf_4cfef_9 : decode cJ1_indexOf_4cfef 9 = .ok (.iload_n 2, 1) := by decide +kernel
theorem dJ1_indexOf_4cfef_10 : decode cJ1_indexOf_4cfef 10 = .ok (.iconst 0, 1) := by decide +kernel
theorem dJ1_indexOf_4cfef_11 : decode cJ1_indexOf_4cfef 11 = .ok (.invokestatic 92, 3) := by decide +kernel
theorem dJ1_indexOf_4cfef_14 : decode cJ1_indexOf_4cfef 14 = .ok (.istore_n 2, 1) := by decide +kernel
theorem dJ1_indexOf_4cfef_15 : decode cJ1_indexOf_4cfef 15 = .ok (.iload_n 3, 1) := by decide +kernel
theorem dJ1_indexOf_4cfef_16 : decode cJ1_indexOf_4cfef 16 = .ok (.aload_n 0, 1) := by decide +kernel
theorem dJ1_indexOf_4cfef_17 : decode cJ1_indexOf_4cfef 17 = .ok (.arraylength, 1) := by decide +kernel
theorem dJ1_indexOf_4cfef_18 : decode cJ1_indexOf_4cfef 18 = .ok (.invokestatic 38, 3) := by decide +kernel
theorem dJ1_indexOf_4cfef_21 : decode cJ1_indexOf_4cfef 21 = .ok (.istore_n 3, 1) := by decide +kernel
theorem dJ1_indexOf_4cfef_22 : decode cJ1_indexOf_4cfef 22 = .ok (.iload_n 2, 1) := by decide +kernel
theorem dJ1_indexOf_4cfef_23 : decode cJ1_indexOf_4cfef 23 = .ok (.iload_n 3, 1) := by decide +kernel
theorem dJ1_indexOf_4cfef_24 : decode cJ1_indexOf_4cfef 24 = .ok (.if_icmp .lt 5, 3) := by decide +kernel
theorem dJ1_indexOf_4cfef_27 : decode cJ1_indexOf_4cfef 27 = .ok (.iconst (-1), 1) := by decide +kernel
theorem dJ1_indexOf_4cfef_28 : decode cJ1_indexOf_4cfef 28 = .ok (.ireturn, 1) := by decide +kernel
theorem dJ1_indexOf_4cfef_29 : decode cJ1_indexOf_4cfef 29 = .ok (.aload_n 0, 1) := by decide +kernel
theorem dJ1_indexOf_4cfef_30 : decode cJ1_indexOf_4cfef 30 = .ok (.iload_n 1, 1) := by decide +kernel
theorem dJ1_indexOf_4cfef_31 : decode cJ1_indexOf_4cfef 31 = .ok (.iload_n 2, 1) := by decide +kernel
theorem dJ1_indexOf_4cfef_32 : decode cJ1_indexOf_4cfef 32 = .ok (.iload_n 3, 1) := by decide +kernel
theorem dJ1_indexOf_4cfef_33 : decode cJ1_indexOf_4cfef 33 = .ok (.invokestatic 95, 3) := by decide +kernel
theorem dJ1_indexOf_4cfef_36 : decode cJ1_indexOf_4cfef 36 = .ok (.ireturn, 1) := by decide +kernel
theorem dJ1_indexOfChar_4cfef_0 : decode cJ1_indexOfChar_4cfef 0 = .ok (.iload_n 1, 1) := by decide +kernel
theorem dJ1_indexOfChar_4cfef_1 : decode cJ1_indexOfChar_4cfef 1 = .ok (.i2b, 1) := by decide +kernel
theorem dJ1_indexOfChar_4cfef_2 : decode cJ1_indexOfChar_4cfef 2 = .ok (.istore 4, 2) := by decide +kernel
theorem dJ1_indexOfChar_4cfef_4 : decode cJ1_indexOfChar_4cfef 4 = .ok (.iload_n 2, 1) := by decide +kernel
theorem dJ1_indexOfChar_4cfef_5 : decode cJ1_indexOfChar_4cfef 5 = .ok (.istore 5, 2) := by decide +kernel
theorem dJ1_indexOfChar_4cfef_7 : decode cJ1_indexOfChar_4cfef 7 = .ok (.iload 5, 2) := by decide +kernel
theorem dJ1_indexOfChar_4cfef_9 : decode cJ1_indexOfChar_4cfef 9 = .ok (.iload_n 3, 1) := by decide +kernel
theorem dJ1_indexOfChar_4cfef_10 : decode cJ1_indexOfChar_4cfef 10 = .ok (.if_icmp .ge 21, 3) := by decide +kernel
theorem dJ1_indexOfChar_4cfef_13 : decode cJ1_indexOfChar_4cfef 13 = .ok (.aload_n 0, 1) := by decide +kernel
theorem dJ1_indexOfChar_4cfef_14 : decode cJ1_indexOfChar_4cfef 14 = .ok (.iload 5, 2) := by decide +kernel
theorem dJ1_indexOfChar_4cfef_16 : decode cJ1_indexOfChar_4cfef 16 = .ok (.baload, 1) := by decide +kernel
theorem dJ1_indexOfChar_4cfef_17 : decode cJ1_indexOfChar_4cfef 17 = .ok (.iload 4, 2) := by decide +kernel
theorem dJ1_indexOfChar_4cfef_19 : decode cJ1_indexOfChar_4cfef 19 = .ok (.if_icmp .ne 6, 3) := by decide +kernel
theorem dJ1_indexOfChar_4cfef_22 : decode cJ1_indexOfChar_4cfef 22 = .ok (.iload 5, 2) := by decide +kernel
theorem dJ1_indexOfChar_4cfef_24 : decode cJ1_indexOfChar_4cfef 24 = .ok (.ireturn, 1) := by decide +kernel
theorem dJ1_indexOfChar_4cfef_25 : decode cJ1_indexOfChar_4cfef 25 = .ok (.iinc 5 1, 3) := by decide +kernel
theorem dJ1_indexOfChar_4cfef_28 : decode cJ1_indexOfChar_4cfef 28 = .ok (.goto (-21), 3) := by decide +kernel
theorem dJ1_indexOfChar_4cfef_31 : decode cJ1_indexOfChar_4cfef 31 = .ok (.iconst (-1), 1) := by decide +kernel
theorem dJ1_indexOfChar_4cfef_32 : decode cJ1_indexOfChar_4cfef 32 = .ok (.ireturn, 1) := by decide +kernel
theorem dL_law_0 : decode cL_law 0 = .ok (.new 7, 3) := by decide +kernel
theorem dL_law_3 : decode cL_law 3 = .ok (.dup, 1) := by decide +kernel
theorem dL_law_4 : decode cL_law 4 = .ok (.invokespecial 9, 3) := by decide +kernel
theorem dL_law_7 : decode cL_law 7 = .ok (.astore_n 1, 1) := by decide +kernel
theorem dL_law_8 : decode cL_law 8 = .ok (.new 10, 3) := by decide +kernel
theorem dL_law_11 : decode cL_law 11 = .ok (.dup, 1) := by decide +kernel
theorem dL_law_12 : decode cL_law 12 = .ok (.invokespecial 12, 3) := by decide +kernel
theorem dL_law_15 : decode cL_law 15 = .ok (.astore_n 2, 1) := by decide +kernel
theorem dL_law_16 : decode cL_law 16 = .ok (.iconst 0, 1) := by decide +kernel
theorem dL_law_17 : decode cL_law 17 = .ok (.istore_n 3, 1) := by decide +kernel
theorem dL_law_18 : decode cL_law 18 = .ok (.iload_n 3, 1) := by decide +kernel
theorem dL_law_19 : decode cL_law 19 = .ok (.aload_n 0, 1) := by decide +kernel
theorem dL_law_20 : decode cL_law 20 = .ok (.arraylength, 1) := by decide +kernel
theorem dL_law_21 : decode cL_law 21 = .ok (.bipush 6, 2) := by decide +kernel
theorem dL_law_23 : decode cL_law 23 = .ok (.isub, 1) := by decide +kernel
theorem dL_law_24 : decode cL_law 24 = .ok (.if_icmp .gt 842, 3) := by decide +kernel
theorem dL_law_27 : decode cL_law 27 = .ok (.aload_n 0, 1) := by decide +kernel
theorem dL_law_28 : decode cL_law 28 = .ok (.iload_n 3, 1) := by decide +kernel
theorem dL_law_29 : decode cL_law 29 = .ok (.iaload, 1) := by decide +kernel
theorem dL_law_30 : decode cL_law 30 = .ok (.bipush 31, 2) := by decide +kernel
theorem dL_law_32 : decode cL_law 32 = .ok (.iand, 1) := by decide +kernel
theorem dL_law_33 : decode cL_law 33 = .ok (.tableswitch 827 0 25 #[119, 152, 175, 198, 261, 304, 317, 350, 373, 396, 429, 462, 485, 518, 541, 584, 617, 640, 663, 676, 729, 742, 755, 768, 781, 804], 119) := by decide +kernel
theorem dL_law_152 : decode cL_law 152 = .ok (.aload_n 1, 1) := by decide +kernel
theorem dL_law_153 : decode cL_law 153 = .ok (.aload_n 0, 1) := by decide +kernel
theorem dL_law_154 : decode cL_law 154 = .ok (.iload_n 3, 1) := by decide +kernel
theorem dL_law_155 : decode cL_law 155 = .ok (.iconst 1, 1) := by decide +kernel
theorem dL_law_156 : decode cL_law 156 = .ok (.iadd, 1) := by decide +kernel
theorem dL_law_157 : decode cL_law 157 = .ok (.iaload, 1) := by decide +kernel
theorem dL_law_158 : decode cL_law 158 = .ok (.aload_n 0, 1) := by decide +kernel
theorem dL_law_159 : decode cL_law 159 = .ok (.iload_n 3, 1) := by decide +kernel
theorem dL_law_160 : decode cL_law 160 = .ok (.iconst 2, 1) := by decide +kernel
theorem dL_law_161 : decode cL_law 161 = .ok (.iadd, 1) := by decide +kernel
theorem dL_law_162 : decode cL_law 162 = .ok (.iaload, 1) := by decide +kernel
theorem dL_law_163 : decode cL_law 163 = .ok (.invokevirtual 13, 3) := by decide +kernel
theorem dL_law_166 : decode cL_law 166 = .ok (.aload_n 2, 1) := by decide +kernel
theorem dL_law_167 : decode cL_law 167 = .ok (.aload_n 0, 1) := by decide +kernel
theorem dL_law_168 : decode cL_law 168 = .ok (.iload_n 3, 1) := by decide +kernel
theorem dL_law_169 : decode cL_law 169 = .ok (.iconst 1, 1) := by decide +kernel
theorem dL_law_170 : decode cL_law 170 = .ok (.iadd, 1) := by decide +kernel
theorem dL_law_171 : decode cL_law 171 = .ok (.iaload, 1) := by decide +kernel
theorem dL_law_172 : decode cL_law 172 = .ok (.aload_n 0, 1) := by decide +kernel
theorem dL_law_173 : decode cL_law 173 = .ok (.iload_n 3, 1) := by decide +kernel
theorem dL_law_174 : decode cL_law 174 = .ok (.iconst 2, 1) := by decide +kernel
theorem dL_law_175 : decode cL_law 175 = .ok (.iadd, 1) := by decide +kernel
theorem dL_law_176 : decode cL_law 176 = .ok (.iaload, 1) := by decide +kernel
theorem dL_law_177 : decode cL_law 177 = .ok (.invokevirtual 17, 3) := by decide +kernel
theorem dL_law_180 : decode cL_law 180 = .ok (.if_icmp .eq 680, 3) := by decide +kernel
theorem dL_law_183 : decode cL_law 183 = .ok (.iconst 0, 1) := by decide +kernel
theorem dL_law_184 : decode cL_law 184 = .ok (.ireturn, 1) := by decide +kernel
theorem dL_law_185 : decode cL_law 185 = .ok (.aload_n 1, 1) := by decide +kernel
theorem dL_law_186 : decode cL_law 186 = .ok (.aload_n 0, 1) := by decide +kernel
theorem dL_law_187 : decode cL_law 187 = .ok (.iload_n 3, 1) := by decide +kernel
theorem dL_law_188 : decode cL_law 188 = .ok (.iconst 1, 1) := by decide +kernel
theorem dL_law_189 : decode cL_law 189 = .ok (.iadd, 1) := by decide +kernel
theorem dL_law_190 : decode cL_law 190 = .ok (.iaload, 1) := by decide +kernel
theorem dL_law_191 : decode cL_law 191 = .ok (.invokevirtual 18, 3) := by decide +kernel
theorem dL_law_194 : decode cL_law 194 = .ok (.aload_n 2, 1) := by decide +kernel
theorem dL_law_195 : decode cL_law 195 = .ok (.aload_n 0, 1) := by decide +kernel
theorem dL_law_196 : decode cL_law 196 = .ok (.iload_n 3, 1) := by decide +kernel
theorem dL_law_197 : decode cL_law 197 = .ok (.iconst 1, 1) := by decide +kernel
theorem dL_law_198 : decode cL_law 198 = .ok (.iadd, 1) := by decide +kernel
theorem dL_law_199 : decode cL_law 199 = .ok (.iaload, 1) := by decide +kernel
theorem dL_law_200 : decode cL_law 200 = .ok (.invokevirtual 22, 3) := by decide +kernel
theorem dL_law_203 : decode cL_law 203 = .ok (.if_icmp .eq 657, 3) := by decide +kernel
theorem dL_law_206 : decode cL_law 206 = .ok (.iconst 0, 1) := by decide +kernel
theorem dL_law_207 : decode cL_law 207 = .ok (.ireturn, 1) := by decide +kernel
theorem dL_law_208 : decode cL_law 208 = .ok (.aload_n 1, 1) := by decide +kernel
theorem dL_law_209 : decode cL_law 209 = .ok (.aload_n 0, 1) := by decide +kernel
theorem dL_law_210 : decode cL_law 210 = .ok (.iload_n 3, 1) := by decide +kernel
theorem dL_law_211 : decode cL_law 211 = .ok (.iconst 1, 1) := by decide +kernel
theorem dL_law_212 : decode cL_law 212 = .ok (.iadd, 1) := by decide +kernel
theorem dL_law_213 : decode cL_law 213 = .ok (.iaload, 1) := by decide +kernel
theorem dL_law_214 : decode cL_law 214 = .ok (.invokevirtual 23, 3) := by decide +kernel
theorem dL_law_217 : decode cL_law 217 = .ok (.aload_n 2, 1) := by decide +kernel
theorem dL_law_218 : decode cL_law 218 = .ok (.aload_n 0, 1) := by decide +kernel
theorem dL_law_219 : decode cL_law 219 = .ok (.iload_n 3, 1) := by decide +kernel
theorem dL_law_220 : decode cL_law 220 = .ok (.iconst 1, 1) := by decide +kernel
theorem dL_law_221 : decode cL_law 221 = .ok (.iadd, 1) := by decide +kernel
theorem dL_law_222 : decode cL_law 222 = .ok (.iaload, 1) := by decide +kernel
theorem dL_law_223 : decode cL_law 223 = .ok (.invokevirtual 26, 3) := by decide +kernel
theorem dL_law_226 : decode cL_law 226 = .ok (.if_icmp .eq 634, 3) := by decide +kernel
theorem dL_law_229 : decode cL_law 229 = .ok (.iconst 0, 1) := by decide +kernel
theorem dL_law_230 : decode cL_law 230 = .ok (.ireturn, 1) := by decide +kernel
theorem dL_law_231 : decode cL_law 231 = .ok (.aload_n 1, 1) := by decide +kernel
theorem dL_law_232 : decode cL_law 232 = .ok (.aload_n 0, 1) := by decide +kernel
theorem dL_law_233 : decode cL_law 233 = .ok (.iload_n 3, 1) := by decide +kernel
theorem dL_law_234 : decode cL_law 234 = .ok (.iconst 1, 1) := by decide +kernel
theorem dL_law_235 : decode cL_law 235 = .ok (.iadd, 1) := by decide +kernel
theorem dL_law_236 : decode cL_law 236 = .ok (.iaload, 1) := by decide +kernel
theorem dL_law_237 : decode cL_law 237 = .ok (.aload_n 0, 1) := by decide +kernel
theorem dL_law_238 : decode cL_law 238 = .ok (.iload_n 3, 1) := by decide +kernel
theorem dL_law_239 : decode cL_law 239 = .ok (.iconst 2, 1) := by decide +kernel
theorem dL_law_240 : decode cL_law 240 = .ok (.iadd, 1) := by decide +kernel
theorem dL_law_241 : decode cL_law 241 = .ok (.iaload, 1) := by decide +kernel
theorem dL_law_242 : decode cL_law 242 = .ok (.aload_n 0, 1) := by decide +kernel
theorem dL_law_243 : decode cL_law 243 = .ok (.iload_n 3, 1) := by decide +kernel
theorem dL_law_244 : decode cL_law 244 = .ok (.iconst 3, 1) := by decide +kernel
theorem dL_law_245 : decode cL_law 245 = .ok (.iadd, 1) := by decide +kernel
theorem dL_law_246 : decode cL_law 246 = .ok (.iaload, 1) := by decide +kernel
theorem dL_law_247 : decode cL_law 247 = .ok (.aload_n 0, 1) := by decide +kernel
theorem dL_law_248 : decode cL_law 248 = .ok (.iload_n 3, 1) := by decide +kernel
theorem dL_law_249 : decode cL_law 249 = .ok (.iconst 4, 1) := by decide +kernel
theorem dL_law_250 : decode cL_law 250 = .ok (.iadd, 1) := by decide +kernel
theorem dL_law_251 : decode cL_law 251 = .ok (.iaload, 1) := by decide +kernel
theorem dL_law_252 : decode cL_law 252 = .ok (.aload_n 0, 1) := by decide +kernel
theorem dL_law_253 : decode cL_law 253 = .ok (.iload_n 3, 1) := by decide +kernel
theorem dL_law_254 : decode cL_law 254 = .ok (.iconst 5, 1) := by decide +kernel
theorem dL_law_255 : decode cL_law 255 = .ok (.iadd, 1) := by decide +kernel
theorem dL_law_256 : decode cL_law 256 = .ok (.iaload, 1) := by decide +kernel
theorem dL_law_257 : decode cL_law 257 = .ok (.invokevirtual 27, 3) := by decide +kernel
theorem dL_law_260 : decode cL_law 260 = .ok (.aload_n 2, 1) := by decide +kernel
theorem dL_law_261 : decode cL_law 261 = .ok (.aload_n 0, 1) := by decide +kernel
theorem dL_law_262 : decode cL_law 262 = .ok (.iload_n 3, 1) := by decide +kernel
theorem dL_law_263 : decode cL_law 263 = .ok (.iconst 1, 1) := by decide +kernel
theorem dL_law_264 : decode cL_law 264 = .ok (.iadd, 1) := by decide +kernel
theorem dL_law_265 : decode cL_law 265 = .ok (.iaload, 1) := by decide +kernel
theorem dL_law_266 : decode cL_law 266 = .ok (.aload_n 0, 1) := by decide +kernel
theorem dL_law_267 : decode cL_law 267 = .ok (.iload_n 3, 1) := by decide +kernel
theorem dL_law_268 : decode cL_law 268 = .ok (.iconst 2, 1) := by decide +kernel
theorem dL_law_269 : decode cL_law 269 = .ok (.iadd, 1) := by decide +kernel
theorem dL_law_270 : decode cL_law 270 = .ok (.iaload, 1) := by decide +kernel
theorem dL_law_271 : decode cL_law 271 = .ok (.aload_n 0, 1) := by decide +kernel
theorem dL_law_272 : decode cL_law 272 = .ok (.iload_n 3, 1) := by decide +kernel
theorem dL_law_273 : decode cL_law 273 = .ok (.iconst 3, 1) := by decide +kernel
theorem dL_law_274 : decode cL_law 274 = .ok (.iadd, 1) := by decide +kernel
theorem dL_law_275 : decode cL_law 275 = .ok (.iaload, 1) := by decide +kernel
theorem dL_law_276 : decode cL_law 276 = .ok (.aload_n 0, 1) := by decide +kernel
theorem dL_law_277 : decode cL_law 277 = .ok (.iload_n 3, 1) := by decide +kernel
theorem dL_law_278 : decode cL_law 278 = .ok (.iconst 4, 1) := by decide +kernel
theorem dL_law_279 : decode cL_law 279 = .ok (.iadd, 1) := by decide +kernel
theorem dL_law_280 : decode cL_law 280 = .ok (.iaload, 1) := by decide +kernel
theorem dL_law_281 : decode cL_law 281 = .ok (.aload_n 0, 1) := by decide +kernel
theorem dL_law_282 : decode cL_law 282 = .ok (.iload_n 3, 1) := by decide +kernel
theorem dL_law_283 : decode cL_law 283 = .ok (.iconst 5, 1) := by decide +kernel
theorem dL_law_284 : decode cL_law 284 = .ok (.iadd, 1) := by decide +kernel
theorem dL_law_285 : decode cL_law 285 = .ok (.iaload, 1) := by decide +kernel
theorem dL_law_286 : decode cL_law 286 = .ok (.invokevirtual 31, 3) := by decide +kernel
theorem dL_law_289 : decode cL_law 289 = .ok (.if_icmp .eq 571, 3) := by decide +kernel
theorem dL_law_292 : decode cL_law 292 = .ok (.iconst 0, 1) := by decide +kernel
theorem dL_law_293 : decode cL_law 293 = .ok (.ireturn, 1) := by decide +kernel
theorem dL_law_294 : decode cL_law 294 = .ok (.aload_n 1, 1) := by decide +kernel
theorem dL_law_295 : decode cL_law 295 = .ok (.aload_n 0, 1) := by decide +kernel
theorem dL_law_296 : decode cL_law 296 = .ok (.iload_n 3, 1) := by decide +kernel
theorem dL_law_297 : decode cL_law 297 = .ok (.iconst 1, 1) := by decide +kernel
theorem dL_law_298 : decode cL_law 298 = .ok (.iadd, 1) := by decide +kernel
theorem dL_law_299 : decode cL_law 299 = .ok (.iaload, 1) := by decide +kernel
theorem dL_law_300 : decode cL_law 300 = .ok (.aload_n 0, 1) := by decide +kernel
theorem dL_law_301 : decode cL_law 301 = .ok (.iload_n 3, 1) := by decide +kernel
theorem dL_law_302 : decode cL_law 302 = .ok (.iconst 2, 1) := by decide +kernel
theorem dL_law_303 : decode cL_law 303 = .ok (.iadd, 1) := by decide +kernel
theorem dL_law_304 : decode cL_law 304 = .ok (.iaload, 1) := by decide +kernel
theorem dL_law_305 : decode cL_law 305 = .ok (.aload_n 0, 1) := by decide +kernel
theorem dL_law_306 : decode cL_law 306 = .ok (.iload_n 3, 1) := by decide +kernel
theorem dL_law_307 : decode cL_law 307 = .ok (.iconst 3, 1) := by decide +kernel
theorem dL_law_308 : decode cL_law 308 = .ok (.iadd, 1) := by decide +kernel
theorem dL_law_309 : decode cL_law 309 = .ok (.iaload, 1) := by decide +kernel
theorem dL_law_310 : decode cL_law 310 = .ok (.invokevirtual 32, 3) := by decide +kernel
theorem dL_law_313 : decode cL_law 313 = .ok (.aload_n 2, 1) := by decide +kernel
theorem dL_law_314 : decode cL_law 314 = .ok (.aload_n 0, 1) := by decide +kernel
theorem dL_law_315 : decode cL_law 315 = .ok (.iload_n 3, 1) := by decide +kernel
theorem dL_law_316 : decode cL_law 316 = .ok (.iconst 1, 1) := by decide +kernel
theorem dL_law_317 : decode cL_law 317 = .ok (.iadd, 1) := by decide +kernel
theorem dL_law_318 : decode cL_law 318 = .ok (.iaload, 1) := by decide +kernel
theorem dL_law_319 : decode cL_law 319 = .ok (.aload_n 0, 1) := by decide +kernel
theorem dL_law_320 : decode cL_law 320 = .ok (.iload_n 3, 1) := by decide +kernel
theorem dL_law_321 : decode cL_law 321 = .ok (.iconst 2, 1) := by decide +kernel
theorem dL_law_322 : decode cL_law 322 = .ok (.iadd, 1) := by decide +kernel
theorem dL_law_323 : decode cL_law 323 = .ok (.iaload, 1) := by decide +kernel
theorem dL_law_324 : decode cL_law 324 = .ok (.aload_n 0, 1) := by decide +kernel
theorem dL_law_325 : decode cL_law 325 = .ok (.iload_n 3, 1) := by decide +kernel
theorem dL_law_326 : decode cL_law 326 = .ok (.iconst 3, 1) := by decide +kernel
theorem dL_law_327 : decode cL_law 327 = .ok (.iadd, 1) := by decide +kernel
theorem dL_law_328 : decode cL_law 328 = .ok (.iaload, 1) := by decide +kernel
theorem dL_law_329 : decode cL_law 329 = .ok (.invokevirtual 36, 3) := by decide +kernel
theorem dL_law_332 : decode cL_law 332 = .ok (.if_icmp .eq 528, 3) := by decide +kernel
theorem dL_law_335 : decode cL_law 335 = .ok (.iconst 0, 1) := by decide +kernel
theorem dL_law_336 : decode cL_law 336 = .ok (.ireturn, 1) := by decide +kernel
theorem dL_law_337 : decode cL_law 337 = .ok (.aload_n 1, 1) := by decide +kernel
theorem dL_law_338 : decode cL_law 338 = .ok (.invokevirtual 37, 3) := by decide +kernel
theorem dL_law_341 : decode cL_law 341 = .ok (.aload_n 2, 1) := by decide +kernel
theorem dL_law_342 : decode cL_law 342 = .ok (.invokevirtual 41, 3) := by decide +kernel
theorem dL_law_345 : decode cL_law 345 = .ok (.if_icmp .eq 515, 3) := by decide +kernel
theorem dL_law_348 : decode cL_law 348 = .ok (.iconst 0, 1) := by decide +kernel
theorem dL_law_349 : decode cL_law 349 = .ok (.ireturn, 1) := by decide +kernel
theorem dL_law_350 : decode cL_law 350 = .ok (.aload_n 1, 1) := by decide +kernel
theorem dL_law_351 : decode cL_law 351 = .ok (.aload_n 0, 1) := by decide +kernel
theorem dL_law_352 : decode cL_law 352 = .ok (.iload_n 3, 1) := by decide +kernel
theorem dL_law_353 : decode cL_law 353 = .ok (.iconst 1, 1) := by decide +kernel
theorem dL_law_354 : decode cL_law 354 = .ok (.iadd, 1) := by decide +kernel
theorem dL_law_355 : decode cL_law 355 = .ok (.iaload, 1) := by decide +kernel
theorem dL_law_356 : decode cL_law 356 = .ok (.aload_n 0, 1) := by decide +kernel
theorem dL_law_357 : decode cL_law 357 = .ok (.iload_n 3, 1) := by decide +kernel
theorem dL_law_358 : decode cL_law 358 = .ok (.iconst 2, 1) := by decide +kernel
theorem dL_law_359 : decode cL_law 359 = .ok (.iadd, 1) := by decide +kernel
theorem dL_law_360 : decode cL_law 360 = .ok (.iaload, 1) := by decide +kernel
theorem dL_law_361 : decode cL_law 361 = .ok (.invokevirtual 42, 3) := by decide +kernel
theorem dL_law_364 : decode cL_law 364 = .ok (.aload_n 2, 1) := by decide +kernel
theorem dL_law_365 : decode cL_law 365 = .ok (.aload_n 0, 1) := by decide +kernel
theorem dL_law_366 : decode cL_law 366 = .ok (.iload_n 3, 1) := by decide +kernel
theorem dL_law_367 : decode cL_law 367 = .ok (.iconst 1, 1) := by decide +kernel
theorem dL_law_368 : decode cL_law 368 = .ok (.iadd, 1) := by decide +kernel
theorem dL_law_369 : decode cL_law 369 = .ok (.iaload, 1) := by decide +kernel
theorem dL_law_370 : decode cL_law 370 = .ok (.aload_n 0, 1) := by decide +kernel
theorem dL_law_371 : decode cL_law 371 = .ok (.iload_n 3, 1) := by decide +kernel
theorem dL_law_372 : decode cL_law 372 = .ok (.iconst 2, 1) := by decide +kernel
theorem dL_law_373 : decode cL_law 373 = .ok (.iadd, 1) := by decide +kernel
theorem dL_law_374 : decode cL_law 374 = .ok (.iaload, 1) := by decide +kernel
theorem dL_law_375 : decode cL_law 375 = .ok (.invokevirtual 45, 3) := by decide +kernel
theorem dL_law_378 : decode cL_law 378 = .ok (.if_icmp .eq 482, 3) := by decide +kernel
theorem dL_law_381 : decode cL_law 381 = .ok (.iconst 0, 1) := by decide +kernel
theorem dL_law_382 : decode cL_law 382 = .ok (.ireturn, 1) := by decide +kernel
theorem dL_law_383 : decode cL_law 383 = .ok (.aload_n 1, 1) := by decide +kernel
theorem dL_law_384 : decode cL_law 384 = .ok (.aload_n 0, 1) := by decide +kernel
theorem dL_law_385 : decode cL_law 385 = .ok (.iload_n 3, 1) := by decide +kernel
theorem dL_law_386 : decode cL_law 386 = .ok (.iconst 1, 1) := by decide +kernel
theorem dL_law_387 : decode cL_law 387 = .ok (.iadd, 1) := by decide +kernel
theorem dL_law_388 : decode cL_law 388 = .ok (.iaload, 1) := by decide +kernel
theorem dL_law_389 : decode cL_law 389 = .ok (.invokevirtual 46, 3) := by decide +kernel
theorem dL_law_392 : decode cL_law 392 = .ok (.aload_n 2, 1) := by decide +kernel
theorem dL_law_393 : decode cL_law 393 = .ok (.aload_n 0, 1) := by decide +kernel
theorem dL_law_394 : decode cL_law 394 = .ok (.iload_n 3, 1) := by decide +kernel
theorem dL_law_395 : decode cL_law 395 = .ok (.iconst 1, 1) := by decide +kernel
theorem dL_law_396 : decode cL_law 396 = .ok (.iadd, 1) := by decide +kernel
theorem dL_law_397 : decode cL_law 397 = .ok (.iaload, 1) := by decide +kernel
theorem dL_law_398 : decode cL_law 398 = .ok (.invokevirtual 49, 3) := by decide +kernel
theorem dL_law_401 : decode cL_law 401 = .ok (.if_icmp .eq 459, 3) := by decide +kernel
theorem dL_law_404 : decode cL_law 404 = .ok (.iconst 0, 1) := by decide +kernel
theorem dL_law_405 : decode cL_law 405 = .ok (.ireturn, 1) := by decide +kernel
theorem dL_law_406 : decode cL_law 406 = .ok (.aload_n 1, 1) := by decide +kernel
theorem dL_law_407 : decode cL_law 407 = .ok (.aload_n 0, 1) := by decide +kernel
theorem dL_law_408 : decode cL_law 408 = .ok (.iload_n 3, 1) := by decide +kernel
theorem dL_law_409 : decode cL_law 409 = .ok (.iconst 1, 1) := by decide +kernel
theorem dL_law_410 : decode cL_law 410 = .ok (.iadd, 1) := by decide +kernel
theorem dL_law_411 : decode cL_law 411 = .ok (.iaload, 1) := by decide +kernel
theorem dL_law_412 : decode cL_law 412 = .ok (.invokevirtual 50, 3) := by decide +kernel
theorem dL_law_415 : decode cL_law 415 = .ok (.aload_n 2, 1) := by decide +kernel
theorem dL_law_416 : decode cL_law 416 = .ok (.aload_n 0, 1) := by decide +kernel
theorem dL_law_417 : decode cL_law 417 = .ok (.iload_n 3, 1) := by decide +kernel
theorem dL_law_418 : decode cL_law 418 = .ok (.iconst 1, 1) := by decide +kernel
theorem dL_law_419 : decode cL_law 419 = .ok (.iadd, 1) := by decide +kernel
theorem dL_law_420 : decode cL_law 420 = .ok (.iaload, 1) := by decide +kernel
theorem dL_law_421 : decode cL_law 421 = .ok (.invokevirtual 53, 3) := by decide +kernel
theorem dL_law_424 : decode cL_law 424 = .ok (.if_icmp .eq 436, 3) := by decide +kernel
theorem dL_law_427 : decode cL_law 427 = .ok (.iconst 0, 1) := by decide +kernel
theorem dL_law_428 : decode cL_law 428 = .ok (.ireturn, 1) := by decide +kernel
theorem dL_law_429 : decode cL_law 429 = .ok (.aload_n 1, 1) := by decide +kernel
theorem dL_law_430 : decode cL_law 430 = .ok (.aload_n 0, 1) := by decide +kernel
theorem dL_law_431 : decode cL_law 431 = .ok (.iload_n 3, 1) := by decide +kernel
theorem dL_law_432 : decode cL_law 432 = .ok (.iconst 1, 1) := by decide +kernel
theorem dL_law_433 : decode cL_law 433 = .ok (.iadd, 1) := by decide +kernel
theorem dL_law_434 : decode cL_law 434 = .ok (.iaload, 1) := by decide +kernel
theorem dL_law_435 : decode cL_law 435 = .ok (.aload_n 0, 1) := by decide +kernel
theorem dL_law_436 : decode cL_law 436 = .ok (.iload_n 3, 1) := by decide +kernel
theorem dL_law_437 : decode cL_law 437 = .ok (.iconst 2, 1) := by decide +kernel
theorem dL_law_438 : decode cL_law 438 = .ok (.iadd, 1) := by decide +kernel
theorem dL_law_439 : decode cL_law 439 = .ok (.iaload, 1) := by decide +kernel
theorem dL_law_440 : decode cL_law 440 = .ok (.invokevirtual 54, 3) := by decide +kernel
theorem dL_law_443 : decode cL_law 443 = .ok (.aload_n 2, 1) := by decide +kernel
theorem dL_law_444 : decode cL_law 444 = .ok (.aload_n 0, 1) := by decide +kernel
theorem dL_law_445 : decode cL_law 445 = .ok (.iload_n 3, 1) := by decide +kernel
theorem dL_law_446 : decode cL_law 446 = .ok (.iconst 1, 1) := by decide +kernel
theorem dL_law_447 : decode cL_law 447 = .ok (.iadd, 1) := by decide +kernel
theorem dL_law_448 : decode cL_law 448 = .ok (.iaload, 1) := by decide +kernel
theorem dL_law_449 : decode cL_law 449 = .ok (.aload_n 0, 1) := by decide +kernel
theorem dL_law_450 : decode cL_law 450 = .ok (.iload_n 3, 1) := by decide +kernel
theorem dL_law_451 : decode cL_law 451 = .ok (.iconst 2, 1) := by decide +kernel
theorem dL_law_452 : decode cL_law 452 = .ok (.iadd, 1) := by decide +kernel
theorem dL_law_453 : decode cL_law 453 = .ok (.iaload, 1) := by decide +kernel
theorem dL_law_454 : decode cL_law 454 = .ok (.invokevirtual 57, 3) := by decide +kernel
theorem dL_law_457 : decode cL_law 457 = .ok (.if_icmp .eq 403, 3) := by decide +kernel
theorem dL_law_460 : decode cL_law 460 = .ok (.iconst 0, 1) := by decide +kernel
theorem dL_law_461 : decode cL_law 461 = .ok (.ireturn, 1) := by decide +kernel
theorem dL_law_462 : decode cL_law 462 = .ok (.aload_n 1, 1) := by decide +kernel
theorem dL_law_463 : decode cL_law 463 = .ok (.aload_n 0, 1) := by decide +kernel
theorem dL_law_464 : decode cL_law 464 = .ok (.iload_n 3, 1) := by decide +kernel
theorem dL_law_465 : decode cL_law 465 = .ok (.iconst 1, 1) := by decide +kernel
theorem dL_law_466 : decode cL_law 466 = .ok (.iadd, 1) := by decide +kernel
theorem dL_law_467 : decode cL_law 467 = .ok (.iaload, 1) := by decide +kernel
theorem dL_law_468 : decode cL_law 468 = .ok (.aload_n 0, 1) := by decide +kernel
theorem dL_law_469 : decode cL_law 469 = .ok (.iload_n 3, 1) := by decide +kernel
theorem dL_law_470 : decode cL_law 470 = .ok (.iconst 2, 1) := by decide +kernel
theorem dL_law_471 : decode cL_law 471 = .ok (.iadd, 1) := by decide +kernel
theorem dL_law_472 : decode cL_law 472 = .ok (.iaload, 1) := by decide +kernel
theorem dL_law_473 : decode cL_law 473 = .ok (.invokevirtual 58, 3) := by decide +kernel
theorem dL_law_476 : decode cL_law 476 = .ok (.aload_n 2, 1) := by decide +kernel
theorem dL_law_477 : decode cL_law 477 = .ok (.aload_n 0, 1) := by decide +kernel
theorem dL_law_478 : decode cL_law 478 = .ok (.iload_n 3, 1) := by decide +kernel
theorem dL_law_479 : decode cL_law 479 = .ok (.iconst 1, 1) := by decide +kernel
theorem dL_law_480 : decode cL_law 480 = .ok (.iadd, 1) := by decide +kernel
theorem dL_law_481 : decode cL_law 481 = .ok (.iaload, 1) := by decide +kernel
theorem dL_law_482 : decode cL_law 482 = .ok (.aload_n 0, 1) := by decide +kernel
theorem dL_law_483 : decode cL_law 483 = .ok (.iload_n 3, 1) := by decide +kernel
theorem dL_law_484 : decode cL_law 484 = .ok (.iconst 2, 1) := by decide +kernel
theorem dL_law_485 : decode cL_law 485 = .ok (.iadd, 1) := by decide +kernel
theorem dL_law_486 : decode cL_law 486 = .ok (.iaload, 1) := by decide +kernel
theorem dL_law_487 : decode cL_law 487 = .ok (.invokevirtual 61, 3) := by decide +kernel
theorem dL_law_490 : decode cL_law 490 = .ok (.if_icmp .eq 370, 3) := by decide +kernel
theorem dL_law_493 : decode cL_law 493 = .ok (.iconst 0, 1) := by decide +kernel
theorem dL_law_494 : decode cL_law 494 = .ok (.ireturn, 1) := by decide +kernel
theorem dL_law_495 : decode cL_law 495 = .ok (.aload_n 1, 1) := by decide +kernel
theorem dL_law_496 : decode cL_law 496 = .ok (.aload_n 0, 1) := by decide +kernel
theorem dL_law_497 : decode cL_law 497 = .ok (.iload_n 3, 1) := by decide +kernel
theorem dL_law_498 : decode cL_law 498 = .ok (.iconst 1, 1) := by decide +kernel
theorem dL_law_499 : decode cL_law 499 = .ok (.iadd, 1) := by decide +kernel
theorem dL_law_500 : decode cL_law 500 = .ok (.iaload, 1) := by decide +kernel
theorem dL_law_501 : decode cL_law 501 = .ok (.invokevirtual 62, 3) := by decide +kernel
theorem dL_law_504 : decode cL_law 504 = .ok (.aload_n 2, 1) := by decide +kernel
theorem dL_law_505 : decode cL_law 505 = .ok (.aload_n 0, 1) := by decide +kernel
theorem dL_law_506 : decode cL_law 506 = .ok (.iload_n 3, 1) := by decide +kernel
theorem dL_law_507 : decode cL_law 507 = .ok (.iconst 1, 1) := by decide +kernel
theorem dL_law_508 : decode cL_law 508 = .ok (.iadd, 1) := by decide +kernel
theorem dL_law_509 : decode cL_law 509 = .ok (.iaload, 1) := by decide +kernel
theorem dL_law_510 : decode cL_law 510 = .ok (.invokevirtual 65, 3) := by decide +kernel
theorem dL_law_513 : decode cL_law 513 = .ok (.if_icmp .eq 347, 3) := by decide +kernel
theorem dL_law_516 : decode cL_law 516 = .ok (.iconst 0, 1) := by decide +kernel
theorem dL_law_517 : decode cL_law 517 = .ok (.ireturn, 1) := by decide +kernel
theorem dL_law_518 : decode cL_law 518 = .ok (.aload_n 1, 1) := by decide +kernel
theorem dL_law_519 : decode cL_law 519 = .ok (.aload_n 0, 1) := by decide +kernel
theorem dL_law_520 : decode cL_law 520 = .ok (.iload_n 3, 1) := by decide +kernel
theorem dL_law_521 : decode cL_law 521 = .ok (.iconst 1, 1) := by decide +kernel
theorem dL_law_522 : decode cL_law 522 = .ok (.iadd, 1) := by decide +kernel
theorem dL_law_523 : decode cL_law 523 = .ok (.iaload, 1) := by decide +kernel
theorem dL_law_524 : decode cL_law 524 = .ok (.aload_n 0, 1) := by decide +kernel
theorem dL_law_525 : decode cL_law 525 = .ok (.iload_n 3, 1) := by decide +kernel
theorem dL_law_526 : decode cL_law 526 = .ok (.iconst 2, 1) := by decide +kernel
theorem dL_law_527 : decode cL_law 527 = .ok (.iadd, 1) := by decide +kernel
theorem dL_law_528 : decode cL_law 528 = .ok (.iaload, 1) := by decide +kernel
theorem dL_law_529 : decode cL_law 529 = .ok (.invokevirtual 66, 3) := by decide +kernel
theorem dL_law_532 : decode cL_law 532 = .ok (.aload_n 2, 1) := by decide +kernel
theorem dL_law_533 : decode cL_law 533 = .ok (.aload_n 0, 1) := by decide +kernel
theorem dL_law_534 : decode cL_law 534 = .ok (.iload_n 3, 1) := by decide +kernel
theorem dL_law_535 : decode cL_law 535 = .ok (.iconst 1, 1) := by decide +kernel
theorem dL_law_536 : decode cL_law 536 = .ok (.iadd, 1) := by decide +kernel
theorem dL_law_537 : decode cL_law 537 = .ok (.iaload, 1) := by decide +kernel
theorem dL_law_538 : decode cL_law 538 = .ok (.aload_n 0, 1) := by decide +kernel
theorem dL_law_539 : decode cL_law 539 = .ok (.iload_n 3, 1) := by decide +kernel
theorem dL_law_540 : decode cL_law 540 = .ok (.iconst 2, 1) := by decide +kernel
theorem dL_law_541 : decode cL_law 541 = .ok (.iadd, 1) := by decide +kernel
theorem dL_law_542 : decode cL_law 542 = .ok (.iaload, 1) := by decide +kernel
theorem dL_law_543 : decode cL_law 543 = .ok (.invokevirtual 69, 3) := by decide +kernel
theorem dL_law_546 : decode cL_law 546 = .ok (.if_icmp .eq 314, 3) := by decide +kernel
theorem dL_law_549 : decode cL_law 549 = .ok (.iconst 0, 1) := by decide +kernel
theorem dL_law_550 : decode cL_law 550 = .ok (.ireturn, 1) := by decide +kernel
theorem dL_law_551 : decode cL_law 551 = .ok (.aload_n 1, 1) := by decide +kernel
theorem dL_law_552 : decode cL_law 552 = .ok (.aload_n 0, 1) := by decide +kernel
theorem dL_law_553 : decode cL_law 553 = .ok (.iload_n 3, 1) := by decide +kernel
theorem dL_law_554 : decode cL_law 554 = .ok (.iconst 1, 1) := by decide +kernel
theorem dL_law_555 : decode cL_law 555 = .ok (.iadd, 1) := by decide +kernel
theorem dL_law_556 : decode cL_law 556 = .ok (.iaload, 1) := by decide +kernel
theorem dL_law_557 : decode cL_law 557 = .ok (.invokevirtual 70, 3) := by decide +kernel
theorem dL_law_560 : decode cL_law 560 = .ok (.aload_n 2, 1) := by decide +kernel
theorem dL_law_561 : decode cL_law 561 = .ok (.aload_n 0, 1) := by decide +kernel
theorem dL_law_562 : decode cL_law 562 = .ok (.iload_n 3, 1) := by decide +kernel
theorem dL_law_563 : decode cL_law 563 = .ok (.iconst 1, 1) := by decide +kernel
theorem dL_law_564 : decode cL_law 564 = .ok (.iadd, 1) := by decide +kernel
theorem dL_law_565 : decode cL_law 565 = .ok (.iaload, 1) := by decide +kernel
theorem dL_law_566 : decode cL_law 566 = .ok (.invokevirtual 73, 3) := by decide +kernel
theorem dL_law_569 : decode cL_law 569 = .ok (.if_icmp .eq 291, 3) := by decide +kernel
theorem dL_law_572 : decode cL_law 572 = .ok (.iconst 0, 1) := by decide +kernel
theorem dL_law_573 : decode cL_law 573 = .ok (.ireturn, 1) := by decide +kernel
theorem dL_law_574 : decode cL_law 574 = .ok (.aload_n 1, 1) := by decide +kernel
theorem dL_law_575 : decode cL_law 575 = .ok (.aload_n 0, 1) := by decide +kernel
theorem dL_law_576 : decode cL_law 576 = .ok (.iload_n 3, 1) := by decide +kernel
theorem dL_law_577 : decode cL_law 577 = .ok (.iconst 1, 1) := by decide +kernel
theorem dL_law_578 : decode cL_law 578 = .ok (.iadd, 1) := by decide +kernel
theorem dL_law_579 : decode cL_law 579 = .ok (.iaload, 1) := by decide +kernel
theorem dL_law_580 : decode cL_law 580 = .ok (.aload_n 0, 1) := by decide +kernel
theorem dL_law_581 : decode cL_law 581 = .ok (.iload_n 3, 1) := by decide +kernel
theorem dL_law_582 : decode cL_law 582 = .ok (.iconst 2, 1) := by decide +kernel
theorem dL_law_583 : decode cL_law 583 = .ok (.iadd, 1) := by decide +kernel
theorem dL_law_584 : decode cL_law 584 = .ok (.iaload, 1) := by decide +kernel
theorem dL_law_585 : decode cL_law 585 = .ok (.aload_n 0, 1) := by decide +kernel
theorem dL_law_586 : decode cL_law 586 = .ok (.iload_n 3, 1) := by decide +kernel
theorem dL_law_587 : decode cL_law 587 = .ok (.iconst 3, 1) := by decide +kernel
theorem dL_law_588 : decode cL_law 588 = .ok (.iadd, 1) := by decide +kernel
theorem dL_law_589 : decode cL_law 589 = .ok (.iaload, 1) := by decide +kernel
theorem dL_law_590 : decode cL_law 590 = .ok (.invokevirtual 74, 3) := by decide +kernel
theorem dL_law_593 : decode cL_law 593 = .ok (.aload_n 2, 1) := by decide +kernel
theorem dL_law_594 : decode cL_law 594 = .ok (.aload_n 0, 1) := by decide +kernel
theorem dL_law_595 : decode cL_law 595 = .ok (.iload_n 3, 1) := by decide +kernel
theorem dL_law_596 : decode cL_law 596 = .ok (.iconst 1, 1) := by decide +kernel
theorem dL_law_597 : decode cL_law 597 = .ok (.iadd, 1) := by decide +kernel
theorem dL_law_598 : decode cL_law 598 = .ok (.iaload, 1) := by decide +kernel
theorem dL_law_599 : decode cL_law 599 = .ok (.aload_n 0, 1) := by decide +kernel
theorem dL_law_600 : decode cL_law 600 = .ok (.iload_n 3, 1) := by decide +kernel
theorem dL_law_601 : decode cL_law 601 = .ok (.iconst 2, 1) := by decide +kernel
theorem dL_law_602 : decode cL_law 602 = .ok (.iadd, 1) := by decide +kernel
theorem dL_law_603 : decode cL_law 603 = .ok (.iaload, 1) := by decide +kernel
theorem dL_law_604 : decode cL_law 604 = .ok (.aload_n 0, 1) := by decide +kernel
theorem dL_law_605 : decode cL_law 605 = .ok (.iload_n 3, 1) := by decide +kernel
theorem dL_law_606 : decode cL_law 606 = .ok (.iconst 3, 1) := by decide +kernel
theorem dL_law_607 : decode cL_law 607 = .ok (.iadd, 1) := by decide +kernel
theorem dL_law_608 : decode cL_law 608 = .ok (.iaload, 1) := by decide +kernel
theorem dL_law_609 : decode cL_law 609 = .ok (.invokevirtual 77, 3) := by decide +kernel
theorem dL_law_612 : decode cL_law 612 = .ok (.if_icmp .eq 248, 3) := by decide +kernel
theorem dL_law_615 : decode cL_law 615 = .ok (.iconst 0, 1) := by decide +kernel
theorem dL_law_616 : decode cL_law 616 = .ok (.ireturn, 1) := by decide +kernel
theorem dL_law_617 : decode cL_law 617 = .ok (.aload_n 1, 1) := by decide +kernel
theorem dL_law_618 : decode cL_law 618 = .ok (.aload_n 0, 1) := by decide +kernel
theorem dL_law_619 : decode cL_law 619 = .ok (.iload_n 3, 1) := by decide +kernel
theorem dL_law_620 : decode cL_law 620 = .ok (.iconst 1, 1) := by decide +kernel
theorem dL_law_621 : decode cL_law 621 = .ok (.iadd, 1) := by decide +kernel
theorem dL_law_622 : decode cL_law 622 = .ok (.iaload, 1) := by decide +kernel
theorem dL_law_623 : decode cL_law 623 = .ok (.aload_n 0, 1) := by decide +kernel
theorem dL_law_624 : decode cL_law 624 = .ok (.iload_n 3, 1) := by decide +kernel
theorem dL_law_625 : decode cL_law 625 = .ok (.iconst 2, 1) := by decide +kernel
theorem dL_law_626 : decode cL_law 626 = .ok (.iadd, 1) := by decide +kernel
theorem dL_law_627 : decode cL_law 627 = .ok (.iaload, 1) := by decide +kernel
theorem dL_law_628 : decode cL_law 628 = .ok (.invokevirtual 78, 3) := by decide +kernel
theorem dL_law_631 : decode cL_law 631 = .ok (.aload_n 2, 1) := by decide +kernel
theorem dL_law_632 : decode cL_law 632 = .ok (.aload_n 0, 1) := by decide +kernel
theorem dL_law_633 : decode cL_law 633 = .ok (.iload_n 3, 1) := by decide +kernel
theorem dL_law_634 : decode cL_law 634 = .ok (.iconst 1, 1) := by decide +kernel
theorem dL_law_635 : decode cL_law 635 = .ok (.iadd, 1) := by decide +kernel
theorem dL_law_636 : decode cL_law 636 = .ok (.iaload, 1) := by decide +kernel
theorem dL_law_637 : decode cL_law 637 = .ok (.aload_n 0, 1) := by decide +kernel
theorem dL_law_638 : decode cL_law 638 = .ok (.iload_n 3, 1) := by decide +kernel
theorem dL_law_639 : decode cL_law 639 = .ok (.iconst 2, 1) := by decide +kernel
theorem dL_law_640 : decode cL_law 640 = .ok (.iadd, 1) := by decide +kernel
theorem dL_law_641 : decode cL_law 641 = .ok (.iaload, 1) := by decide +kernel
theorem dL_law_642 : decode cL_law 642 = .ok (.invokevirtual 81, 3) := by decide +kernel
theorem dL_law_645 : decode cL_law 645 = .ok (.if_icmp .eq 215, 3) := by decide +kernel
theorem dL_law_648 : decode cL_law 648 = .ok (.iconst 0, 1) := by decide +kernel
theorem dL_law_649 : decode cL_law 649 = .ok (.ireturn, 1) := by decide +kernel
theorem dL_law_650 : decode cL_law 650 = .ok (.aload_n 1, 1) := by decide +kernel
theorem dL_law_651 : decode cL_law 651 = .ok (.aload_n 0, 1) := by decide +kernel
theorem dL_law_652 : decode cL_law 652 = .ok (.iload_n 3, 1) := by decide +kernel
theorem dL_law_653 : decode cL_law 653 = .ok (.iconst 1, 1) := by decide +kernel
theorem dL_law_654 : decode cL_law 654 = .ok (.iadd, 1) := by decide +kernel
theorem dL_law_655 : decode cL_law 655 = .ok (.iaload, 1) := by decide +kernel
theorem dL_law_656 : decode cL_law 656 = .ok (.invokevirtual 82, 3) := by decide +kernel
theorem dL_law_659 : decode cL_law 659 = .ok (.aload_n 2, 1) := by decide +kernel
theorem dL_law_660 : decode cL_law 660 = .ok (.aload_n 0, 1) := by decide +kernel
theorem dL_law_661 : decode cL_law 661 = .ok (.iload_n 3, 1) := by decide +kernel
theorem dL_law_662 : decode cL_law 662 = .ok (.iconst 1, 1) := by decide +kernel
theorem dL_law_663 : decode cL_law 663 = .ok (.iadd, 1) := by decide +kernel
theorem dL_law_664 : decode cL_law 664 = .ok (.iaload, 1) := by decide +kernel
theorem dL_law_665 : decode cL_law 665 = .ok (.invokevirtual 85, 3) := by decide +kernel
theorem dL_law_668 : decode cL_law 668 = .ok (.if_icmp .eq 192, 3) := by decide +kernel
theorem dL_law_671 : decode cL_law 671 = .ok (.iconst 0, 1) := by decide +kernel
theorem dL_law_672 : decode cL_law 672 = .ok (.ireturn, 1) := by decide +kernel
theorem dL_law_673 : decode cL_law 673 = .ok (.aload_n 1, 1) := by decide +kernel
theorem dL_law_674 : decode cL_law 674 = .ok (.aload_n 0, 1) := by decide +kernel
theorem dL_law_675 : decode cL_law 675 = .ok (.iload_n 3, 1) := by decide +kernel
theorem dL_law_676 : decode cL_law 676 = .ok (.iconst 1, 1) := by decide +kernel
theorem dL_law_677 : decode cL_law 677 = .ok (.iadd, 1) := by decide +kernel
theorem dL_law_678 : decode cL_law 678 = .ok (.iaload, 1) := by decide +kernel
theorem dL_law_679 : decode cL_law 679 = .ok (.invokevirtual 86, 3) := by decide +kernel
theorem dL_law_682 : decode cL_law 682 = .ok (.aload_n 2, 1) := by decide +kernel
theorem dL_law_683 : decode cL_law 683 = .ok (.aload_n 0, 1) := by decide +kernel
theorem dL_law_684 : decode cL_law 684 = .ok (.iload_n 3, 1) := by decide +kernel
theorem dL_law_685 : decode cL_law 685 = .ok (.iconst 1, 1) := by decide +kernel
theorem dL_law_686 : decode cL_law 686 = .ok (.iadd, 1) := by decide +kernel
theorem dL_law_687 : decode cL_law 687 = .ok (.iaload, 1) := by decide +kernel
theorem dL_law_688 : decode cL_law 688 = .ok (.invokevirtual 89, 3) := by decide +kernel
theorem dL_law_691 : decode cL_law 691 = .ok (.if_icmp .eq 169, 3) := by decide +kernel
theorem dL_law_694 : decode cL_law 694 = .ok (.iconst 0, 1) := by decide +kernel
theorem dL_law_695 : decode cL_law 695 = .ok (.ireturn, 1) := by decide +kernel
theorem dL_law_696 : decode cL_law 696 = .ok (.aload_n 1, 1) := by decide +kernel
theorem dL_law_697 : decode cL_law 697 = .ok (.invokevirtual 90, 3) := by decide +kernel
theorem dL_law_700 : decode cL_law 700 = .ok (.aload_n 2, 1) := by decide +kernel
theorem dL_law_701 : decode cL_law 701 = .ok (.invokevirtual 93, 3) := by decide +kernel
theorem dL_law_704 : decode cL_law 704 = .ok (.if_icmp .eq 156, 3) := by decide +kernel
theorem dL_law_707 : decode cL_law 707 = .ok (.iconst 0, 1) := by decide +kernel
theorem dL_law_708 : decode cL_law 708 = .ok (.ireturn, 1) := by decide +kernel
theorem dL_law_709 : decode cL_law 709 = .ok (.aload_n 1, 1) := by decide +kernel
theorem dL_law_710 : decode cL_law 710 = .ok (.aload_n 0, 1) := by decide +kernel
theorem dL_law_711 : decode cL_law 711 = .ok (.iload_n 3, 1) := by decide +kernel
theorem dL_law_712 : decode cL_law 712 = .ok (.iconst 1, 1) := by decide +kernel
theorem dL_law_713 : decode cL_law 713 = .ok (.iadd, 1) := by decide +kernel
theorem dL_law_714 : decode cL_law 714 = .ok (.iaload, 1) := by decide +kernel
theorem dL_law_715 : decode cL_law 715 = .ok (.i2l, 1) := by decide +kernel
theorem dL_law_716 : decode cL_law 716 = .ok (.bipush 32, 2) := by decide +kernel
theorem dL_law_718 : decode cL_law 718 = .ok (.lshl, 1) := by decide +kernel
theorem dL_law_719 : decode cL_law 719 = .ok (.aload_n 0, 1) := by decide +kernel
theorem dL_law_720 : decode cL_law 720 = .ok (.iload_n 3, 1) := by decide +kernel
theorem dL_law_721 : decode cL_law 721 = .ok (.iconst 2, 1) := by decide +kernel
theorem dL_law_722 : decode cL_law 722 = .ok (.iadd, 1) := by decide +kernel
theorem dL_law_723 : decode cL_law 723 = .ok (.iaload, 1) := by decide +kernel
theorem dL_law_724 : decode cL_law 724 = .ok (.i2l, 1) := by decide +kernel
theorem dL_law_725 : decode cL_law 725 = .ok (.ldc2_w 94, 3) := by decide +kernel
theorem dL_law_728 : decode cL_law 728 = .ok (.land, 1) := by decide +kernel
theorem dL_law_729 : decode cL_law 729 = .ok (.lor, 1) := by decide +kernel
theorem dL_law_730 : decode cL_law 730 = .ok (.invokevirtual 96, 3) := by decide +kernel
theorem dL_law_733 : decode cL_law 733 = .ok (.aload_n 2, 1) := by decide +kernel
theorem dL_law_734 : decode cL_law 734 = .ok (.aload_n 0, 1) := by decide +kernel
theorem dL_law_735 : decode cL_law 735 = .ok (.iload_n 3, 1) := by decide +kernel
theorem dL_law_736 : decode cL_law 736 = .ok (.iconst 1, 1) := by decide +kernel
theorem dL_law_737 : decode cL_law 737 = .ok (.iadd, 1) := by decide +kernel
theorem dL_law_738 : decode cL_law 738 = .ok (.iaload, 1) := by decide +kernel
theorem dL_law_739 : decode cL_law 739 = .ok (.i2l, 1) := by decide +kernel
theorem dL_law_740 : decode cL_law 740 = .ok (.bipush 32, 2) := by decide +kernel
theorem dL_law_742 : decode cL_law 742 = .ok (.lshl, 1) := by decide +kernel
theorem dL_law_743 : decode cL_law 743 = .ok (.aload_n 0, 1) := by decide +kernel
theorem dL_law_744 : decode cL_law 744 = .ok (.iload_n 3, 1) := by decide +kernel
theorem dL_law_745 : decode cL_law 745 = .ok (.iconst 2, 1) := by decide +kernel
theorem dL_law_746 : decode cL_law 746 = .ok (.iadd, 1) := by decide +kernel
theorem dL_law_747 : decode cL_law 747 = .ok (.iaload, 1) := by decide +kernel
theorem dL_law_748 : decode cL_law 748 = .ok (.i2l, 1) := by decide +kernel
theorem dL_law_749 : decode cL_law 749 = .ok (.ldc2_w 94, 3) := by decide +kernel
theorem dL_law_752 : decode cL_law 752 = .ok (.land, 1) := by decide +kernel
theorem dL_law_753 : decode cL_law 753 = .ok (.lor, 1) := by decide +kernel
theorem dL_law_754 : decode cL_law 754 = .ok (.invokevirtual 100, 3) := by decide +kernel
theorem dL_law_757 : decode cL_law 757 = .ok (.if_icmp .eq 103, 3) := by decide +kernel
theorem dL_law_760 : decode cL_law 760 = .ok (.iconst 0, 1) := by decide +kernel
theorem dL_law_761 : decode cL_law 761 = .ok (.ireturn, 1) := by decide +kernel
theorem dL_law_762 : decode cL_law 762 = .ok (.aload_n 1, 1) := by decide +kernel
theorem dL_law_763 : decode cL_law 763 = .ok (.invokevirtual 101, 3) := by decide +kernel
theorem dL_law_766 : decode cL_law 766 = .ok (.aload_n 2, 1) := by decide +kernel
theorem dL_law_767 : decode cL_law 767 = .ok (.invokevirtual 104, 3) := by decide +kernel
theorem dL_law_770 : decode cL_law 770 = .ok (.if_icmp .eq 90, 3) := by decide +kernel
theorem dL_law_773 : decode cL_law 773 = .ok (.iconst 0, 1) := by decide +kernel
theorem dL_law_774 : decode cL_law 774 = .ok (.ireturn, 1) := by decide +kernel
theorem dL_law_775 : decode cL_law 775 = .ok (.aload_n 1, 1) := by decide +kernel
theorem dL_law_776 : decode cL_law 776 = .ok (.invokevirtual 105, 3) := by decide +kernel
theorem dL_law_779 : decode cL_law 779 = .ok (.aload_n 2, 1) := by decide +kernel
theorem dL_law_780 : decode cL_law 780 = .ok (.invokevirtual 108, 3) := by decide +kernel
theorem dL_law_783 : decode cL_law 783 = .ok (.if_icmp .eq 77, 3) := by decide +kernel
theorem dL_law_786 : decode cL_law 786 = .ok (.iconst 0, 1) := by decide +kernel
theorem dL_law_787 : decode cL_law 787 = .ok (.ireturn, 1) := by decide +kernel
theorem dL_law_788 : decode cL_law 788 = .ok (.aload_n 1, 1) := by decide +kernel
theorem dL_law_789 : decode cL_law 789 = .ok (.invokevirtual 109, 3) := by decide +kernel
theorem dL_law_792 : decode cL_law 792 = .ok (.aload_n 2, 1) := by decide +kernel
theorem dL_law_793 : decode cL_law 793 = .ok (.invokevirtual 112, 3) := by decide +kernel
theorem dL_law_796 : decode cL_law 796 = .ok (.if_icmp .eq 64, 3) := by decide +kernel
theorem dL_law_799 : decode cL_law 799 = .ok (.iconst 0, 1) := by decide +kernel
theorem dL_law_800 : decode cL_law 800 = .ok (.ireturn, 1) := by decide +kernel
theorem dL_law_801 : decode cL_law 801 = .ok (.aload_n 1, 1) := by decide +kernel
theorem dL_law_802 : decode cL_law 802 = .ok (.invokevirtual 113, 3) := by decide +kernel
theorem dL_law_805 : decode cL_law 805 = .ok (.aload_n 2, 1) := by decide +kernel
theorem dL_law_806 : decode cL_law 806 = .ok (.invokevirtual 116, 3) := by decide +kernel
theorem dL_law_809 : decode cL_law 809 = .ok (.if_icmp .eq 51, 3) := by decide +kernel
theorem dL_law_812 : decode cL_law 812 = .ok (.iconst 0, 1) := by decide +kernel
theorem dL_law_813 : decode cL_law 813 = .ok (.ireturn, 1) := by decide +kernel
theorem dL_law_814 : decode cL_law 814 = .ok (.aload_n 1, 1) := by decide +kernel
theorem dL_law_815 : decode cL_law 815 = .ok (.aload_n 0, 1) := by decide +kernel
theorem dL_law_816 : decode cL_law 816 = .ok (.iload_n 3, 1) := by decide +kernel
theorem dL_law_817 : decode cL_law 817 = .ok (.iconst 1, 1) := by decide +kernel
theorem dL_law_818 : decode cL_law 818 = .ok (.iadd, 1) := by decide +kernel
theorem dL_law_819 : decode cL_law 819 = .ok (.iaload, 1) := by decide +kernel
theorem dL_law_820 : decode cL_law 820 = .ok (.invokevirtual 117, 3) := by decide +kernel
theorem dL_law_823 : decode cL_law 823 = .ok (.aload_n 2, 1) := by decide +kernel
theorem dL_law_824 : decode cL_law 824 = .ok (.aload_n 0, 1) := by decide +kernel
theorem dL_law_825 : decode cL_law 825 = .ok (.iload_n 3, 1) := by decide +kernel
theorem dL_law_826 : decode cL_law 826 = .ok (.iconst 1, 1) := by decide +kernel
theorem dL_law_827 : decode cL_law 827 = .ok (.iadd, 1) := by decide +kernel
theorem dL_law_828 : decode cL_law 828 = .ok (.iaload, 1) := by decide +kernel
theorem dL_law_829 : decode cL_law 829 = .ok (.invokevirtual 120, 3) := by decide +kernel
theorem dL_law_832 : decode cL_law 832 = .ok (.if_icmp .eq 28, 3) := by decide +kernel
theorem dL_law_835 : decode cL_law 835 = .ok (.iconst 0, 1) := by decide +kernel
theorem dL_law_836 : decode cL_law 836 = .ok (.ireturn, 1) := by decide +kernel
theorem dL_law_837 : decode cL_law 837 = .ok (.aload_n 1, 1) := by decide +kernel
theorem dL_law_838 : decode cL_law 838 = .ok (.aload_n 0, 1) := by decide +kernel
theorem dL_law_839 : decode cL_law 839 = .ok (.iload_n 3, 1) := by decide +kernel
theorem dL_law_840 : decode cL_law 840 = .ok (.iconst 1, 1) := by decide +kernel
theorem dL_law_841 : decode cL_law 841 = .ok (.iadd, 1) := by decide +kernel
theorem dL_law_842 : decode cL_law 842 = .ok (.iaload, 1) := by decide +kernel
theorem dL_law_843 : decode cL_law 843 = .ok (.invokevirtual 121, 3) := by decide +kernel
theorem dL_law_846 : decode cL_law 846 = .ok (.aload_n 2, 1) := by decide +kernel
theorem dL_law_847 : decode cL_law 847 = .ok (.aload_n 0, 1) := by decide +kernel
theorem dL_law_848 : decode cL_law 848 = .ok (.iload_n 3, 1) := by decide +kernel
theorem dL_law_849 : decode cL_law 849 = .ok (.iconst 1, 1) := by decide +kernel
theorem dL_law_850 : decode cL_law 850 = .ok (.iadd, 1) := by decide +kernel
theorem dL_law_851 : decode cL_law 851 = .ok (.iaload, 1) := by decide +kernel
theorem dL_law_852 : decode cL_law 852 = .ok (.invokevirtual 124, 3) := by decide +kernel
theorem dL_law_855 : decode cL_law 855 = .ok (.if_icmp .eq 5, 3) := by decide +kernel
theorem dL_law_858 : decode cL_law 858 = .ok (.iconst 0, 1) := by decide +kernel
theorem dL_law_859 : decode cL_law 859 = .ok (.ireturn, 1) := by decide +kernel
theorem dL_law_860 : decode cL_law 860 = .ok (.iinc 3 6, 3) := by decide +kernel
theorem dL_law_863 : decode cL_law 863 = .ok (.goto (-845), 3) := by decide +kernel
theorem dL_law_866 : decode cL_law 866 = .ok (.iconst 1, 1) := by decide +kernel
theorem dL_law_867 : decode cL_law 867 = .ok (.ireturn, 1) := by decide +kernel
end
section
/-! the world: relative addresses, numbers apart from references; the judgement rn ("runs to an end in Q"), a row an instruction -/
abbrev vV : Type := Int32 ⊕ (Int64 ⊕ Nat)
abbrev hP : Type := Nat × (Nat → Nat × Nat) × (Nat → Nat → Nat) × (Nat → Nat → Int32)
abbrev eE : Type := Nat × Heap × (Nat → Nat) × va_G × (Nat → ClassId)
def allw : List Cond := lw_tbl.filter goodWord
theorem aw {w : Cond} (h : w ∈ lw_tbl) (g : goodWord w = true) : w ∈ allw := List.mem_filter.mpr ⟨h, g⟩
theorem allw_good {cc : Cond} (hc : cc ∈ allw) : GoodIn allw (cc :: allw) := by
  intro w hw
  have : w ∈ allw := by
    rcases List.mem_cons.mp hw with h | h
    · rw [h]; exact hc
    · exact h
  exact ⟨this, good_of_word (List.mem_filter.mp this).2⟩
/-- the own classes -/
def clC (ci : Nat) : String := match ci with | 0 => RX0 | 1 => RX1 | 2 => RX2 | 3 => RX3 | 4 => RX4 | 5 => RX5 | _ => RX6
def clT (ci : Nat) : u_T := match ci with | 0 => TX0 | 1 => TX1 | 2 => TX2 | 3 => TX3 | 4 => TX4 | 5 => TX5 | _ => TX6
def clN (ci : Nat) : Nat := match ci with | 0 => 10 | 1 => 3 | 2 => 12 | 3 => 8 | 4 => 5 | 5 => 6 | _ => 13
def clY (ci : Nat) : Nat → FieldType := match ci with | 0 => tyX0 | 1 => tyX1 | 2 => tyX2 | 3 => tyX3 | 4 => tyX4 | 5 => tyX5 | _ => tyX6
/-- which fields hold references -/
def fT (ci k : Nat) : Bool := match ci with
  | 0 => decide (k < 5)
  | 1 => decide (k < 1)
  | 2 => false
  | 3 => decide (k < 2)
  | 4 => false
  | 5 => true
  | _ => (k == 1 || k == 2 || k == 3 || k == 5 || k == 6 || k == 7 || k == 11)
/-- the arrays' kinds: 10 int[], 11 boolean[], 12 Person[], 13 Job[], 14 Firm[] -/
def aTy (k : Nat) : FieldType := match k with
  | 10 => .int
  | 11 => .boolean
  | 12 => .object RX4
  | 13 => .object RX2
  | _ => .object RX0
/-- the constants' places: 1 to 3 the tables, 4 to 9 the texts, 10 to 15 their bytes -/
def sLen (k : Nat) : Nat := match k with | 1 => 4 | 2 => 4 | _ => 3
def sDat (k j : Nat) : Int32 := match k with
  | 1 => [0, 1, 0, 1].getD j 0
  | 2 => [50, 20, 20, 6].getD j 0
  | _ => [5, 10, 20].getD j 0
def sNam (k : Nat) : String := match k with | 1 => "LOWEST_SETTING" | 2 => "HIGHEST_SETTING" | _ => "LIGHTER_BY"
def tLen : List Nat := [7, 0, 3, 2, 9, 1]
def tByt : List (List Int32) := [[119, 106, 103, 100, 120, 97, 110], [], [78, 43, 78], [78, 58], [78, 44, 68, 44, 68, 44, 68, 44, 78], [78]]
def nestW : List Cond := [.methodLinkNest RX0 33 yX4_init RX5, .methodLinkNest RX0 34 yX2_init RX5, .methodLinkNest RX5 36 yX3_init RX5, .methodLinkNest RX0 64 yX5_isWithin RX5, .fieldLinkNest RX0 68 "PianoCrews" "LOWEST_SETTING" "[I" RX5, .fieldLinkNest RX0 71 "PianoCrews" "HIGHEST_SETTING" "[I" RX5, .methodLinkNest RX0 78 yX5_isKind RX5, .methodLinkNest RX0 117 yX5_isKindOrNone RX5, .methodLinkNest RX0 101 yX5_isIn RX5, .fieldLinkNest RX0 91 "PianoCrews" "LIGHTER_BY" "[I" RX5, .methodLinkNest RX3 30 yX5_isWithin RX5]
def ad (E : eE) (o : Nat) : Nat := E.1 + (o - 17)
def eA (E : eE) (k : Nat) : Option Nat := if k = 0 then none else if k < 17 then some (E.2.2.1 k) else some (ad E k)
def eR (E : eE) (k : Nat) : Value := va_rf (eA E k)
def eV (E : eE) (v : vV) : Value := match v with
  | .inl i => .int i
  | .inr (.inl x) => .long x
  | .inr (.inr k) => eR E k
def eL (E : eE) (ls : List (Nat × vV)) : List (Nat × Value) := ls.map (fun q => (q.1, eV E q.2))
def rS (E : eE) (r : Option vV) : List Value := match r with
  | none => []
  | some v => [eV E v]
/-- one cell of the world -/
def cAt (E : eE) (o : Nat) (kl : Nat × Nat) (r : Nat → Nat) (dd : Nat → Int32) (H : Heap) : Prop :=
  if kl.1 < 7 then t_OB (ad E o) (E.2.2.2.1.1 kl.1) (clN kl.1) (E.2.2.2.1.2 kl.1) H (fun k => if fT kl.1 k = true then eR E (r k) else .int (dd k))
  else H[ad E o]? = some (arrV (E.2.2.2.2 kl.1) kl.2 (fun j => if kl.1 < 12 then .int (dd j) else eR E (r j)))
def wd (E : eE) (h : hP) (H : Heap) : Prop :=
  H.size = E.1 + h.1 ∧ (∀ q : Nat, q < E.1 → H[q]? = E.2.1[q]?) ∧ ∀ o : Nat, 17 ≤ o → o < 17 + h.1 → cAt E o (h.2.1 o) (h.2.2.1 o) (h.2.2.2 o) H
/-- what of the machine's tables is used: the same all along -/
def bA (E : eE) : Nat → Prop := fun q => E.1 ≤ q
def St (E : eE) (s : State) : Prop :=
  E.2.1.size = E.1 ∧ (∀ ci, ci < 7 → u_Kn s (clC ci) (clT ci) (clN ci) (E.2.2.2.1.1 ci) (E.2.2.2.1.2 ci)) ∧
  (∀ k, 10 ≤ k → k < 15 → ArrOfT s (E.2.2.2.2 k) (aTy k) ∧ va_RA s (E.2.2.2.2 k) (aTy k)) ∧
  (∀ w ∈ nestW, va_Nw w s) ∧ (va_AO RX4 s ∧ va_AO RX2 s ∧ va_AO RX0 s) ∧
  (∀ k, 1 ≤ k → k < 4 → va_Z "PianoCrews" (sNam k) "[I" (.ref (E.2.2.1 k)) (bA E) s E.2.1 ∧ va_T .int (E.2.2.1 k) (sLen k) (fun j => .int (sDat k j)) (bA E) s E.2.1) ∧
  va_Z "java/lang/String" "COMPACT_STRINGS" "Z" (.int 1) (bA E) s E.2.1 ∧
  vk_S 6 tLen tByt (fun i => E.2.2.1 (4 + i)) (fun i => E.2.2.1 (10 + i)) (bA E) s E.2.1 ∧
  (vk_R RX3 64 "wjgdxan" (E.2.2.1 4) s ∧ vk_R RX3 83 "" (E.2.2.1 5) s ∧ vk_R RX3 85 "N+N" (E.2.2.1 6) s ∧ vk_R RX3 87 "N:" (E.2.2.1 7) s ∧ vk_R RX3 89 "N,D,D,D,N" (E.2.2.1 8) s ∧ vk_R RX3 91 "N" (E.2.2.1 9) s) ∧
  (va_Z "jdk/internal/util/Preconditions" "SIOOBE_FORMATTER" "Ljava/util/function/BiFunction;" .null (bA E) s E.2.1 ∨ va_Z "jdk/internal/util/Preconditions" "SIOOBE_FORMATTER" "Ljava/util/function/BiFunction;" (.ref (E.2.2.1 16)) (bA E) s E.2.1)
theorem nest_cases {P : Cond → Prop} (h1 : ∀ a i x b, P (.methodLinkNest a i x b)) (h2 : ∀ a i b n d h, P (.fieldLinkNest a i b n d h)) : ∀ w ∈ nestW, P w := by
  intro w hw
  simp only [nestW, List.mem_cons, List.not_mem_nil, or_false] at hw
  rcases hw with rfl | rfl | rfl | rfl | rfl | rfl | rfl | rfl | rfl | rfl | rfl <;> first | exact h1 _ _ _ _ | exact h2 _ _ _ _ _ _
theorem St.warm {E : eE} {s U : State} (hW : s.WarmedH U.vm) (h : St E s) : St E U := by
  obtain ⟨h0, h1, h2, h3, h4, h5, h6, h7, ⟨g1, g2, g3, g4, g5, g6⟩, g7⟩ := h
  have hv := hW.alike
  refine ⟨h0, fun ci hc => u_Kn_moved hv (h1 ci hc), fun k a b => ⟨arrOfT_moved hv (h2 k a b).1, (h2 k a b).2.moved hv⟩, ?_, ⟨h4.1.moved hv, h4.2.1.moved hv, h4.2.2.moved hv⟩, fun k a b => ⟨(h5 k a b).1.moved hv, (h5 k a b).2.moved hv⟩, h6.moved hv, h7.moved hv, ⟨g1.warm hW, g2.warm hW, g3.warm hW, g4.warm hW, g5.warm hW, g6.warm hW⟩, g7.imp (va_Z.moved hv) (va_Z.moved hv)⟩
  exact fun w hw => nest_cases (P := fun w => va_Nw w s → va_Nw w U) (fun a i x b h => h.warmM hW) (fun a i b n d h9 h => h.warmF hW) w hw (h3 w hw)
theorem St.same {E : eE} {u U : State} (hv : u.vm = U.vm) (h : St E u) : St E U := by
  obtain ⟨h0, h1, h2, h3, h4, h5, h6, h7, ⟨g1, g2, g3, g4, g5, g6⟩, g7⟩ := h
  have ha : u.vm.Alike U.vm := by rw [hv]; exact Vm.Alike.refl _
  refine ⟨h0, fun ci hc => u_Kn_moved ha (h1 ci hc), fun k a b => ⟨arrOfT_moved ha (h2 k a b).1, (h2 k a b).2.moved ha⟩, ?_, ⟨h4.1.moved ha, h4.2.1.moved ha, h4.2.2.moved ha⟩, fun k a b => ⟨(h5 k a b).1.moved ha, (h5 k a b).2.moved ha⟩, h6.moved ha, h7.moved ha, ⟨g1.same hv.symm, g2.same hv.symm, g3.same hv.symm, g4.same hv.symm, g5.same hv.symm, g6.same hv.symm⟩, g7.imp (va_Z.moved ha) (va_Z.moved ha)⟩
  exact fun w hw => nest_cases (P := fun w => va_Nw w u → va_Nw w U) (fun a i x b h => h.same rfl hv) (fun a i b n d h9 h => h.same rfl hv) w hw (h3 w hw)
/-- a return instruction with its value -/
def rAt (cc : ByteArray) (ret : Option FieldType) (pc : Nat) (r : Option vV) : Prop :=
  (r = none ∧ ret = none ∧ decode cc pc = .ok (.return_, 1)) ∨ (∃ v ty, r = some (.inl v) ∧ ret = some ty ∧ narrow ty (.int v) = .int v ∧ decode cc pc = .ok (.ireturn, 1)) ∨
  (∃ k n, r = some (.inr (.inr k)) ∧ ret = some (.object n) ∧ decode cc pc = .ok (.areturn, 1))
def cx (l : Launch) (E : eE) (d : Nat) (y : MethodName) (cc : ByteArray) (nL : Nat) (ret : Option FieldType) (Q : Option vV → hP → Prop) (p : Program) (e : Env) (R : Room) (s : State) (m : MethodId) (args : Array Value) (below : List Frame) (meth : Method) (c : Code) (mc ms : Nat) (Z : State → Prop) : Prop :=
  p.tables.exec = Jvm.exec ∧ c.code = cc ∧ c.maxLocals = nL ∧ s.vm.findClass y.cls = some m.cls ∧ (∀ w ∈ allw, w.before args s = true) ∧ meth.locks = false ∧ meth.name = y.name ∧ St E s ∧ d ≤ R.frames ∧ 37 * d ≤ R.locals ∧ R.cells = mc ∧ R.slots = ms ∧
  (∀ (r : Option vV) (h' : hP) (pc' : Nat) (arr' : Array Slot) (H' : Heap) (locs' : List Loc) (cells' slots' : Nat), Q r h' → rAt cc ret pc' r → wd E h' H' → (∀ q ∈ locs', E.1 ≤ q.base) → cells' ≤ mc → slots' ≤ ms → W p l e R s m args below meth c H' locs' cells' slots' Z (F0 m pc' arr' (rS E r)))
def rn (l : Launch) (E : eE) (d a b : Nat) (y : MethodName) (cc : ByteArray) (nL : Nat) (ret : Option FieldType) (pc : Nat) (ls : List (Nat × vV)) (st : List vV) (h : hP) (Q : Option vV → hP → Prop) : Prop :=
  ∀ (p : Program) (e : Env) (R : Room) (s : State) (m : MethodId) (args : Array Value) (below : List Frame) (meth : Method) (c : Code) (mc ms : Nat) (Z : State → Prop), cx l E d y cc nL ret Q p e R s m args below meth c mc ms Z →
  ∀ (H : Heap) (locs : List Loc) (cells slots : Nat) (arr : Array Slot), wd E h H → (∀ q ∈ locs, E.1 ≤ q.base) → cells + a ≤ mc → slots + b ≤ ms → lv_has arr nL (eL E ls) → W p l e R s m args below meth c H locs cells slots Z (F0 m pc arr (st.map (eV E)))
/-- the contract of a method at given arguments and world -/
def ct (l : Launch) (E : eE) (d a b : Nat) (y : MethodName) (cc : ByteArray) (nL : Nat) (ret : Option FieldType) (as : List vV) (h : hP) (Q : Option vV → hP → Prop) : Prop :=
  Met l y (.code y cc nL ret :: allw) { frames := d, cells := a, slots := b, locals := 37 * d } (fun v U => v = (as.map (eV E)).toArray ∧ wd E h U.heap ∧ St E U)
    (fun _ _ o t => ∃ r h', Q r h' ∧ o = .returned (r.map (eV E)) ∧ wd E h' t.heap) a b (bA E)
def aL : Nat → List vV → List (Nat × vV)
  | _, [] => []
  | i, v :: vs => (i, v) :: aL (match v with | .inr (.inl _) => i + 2 | _ => i + 1) vs
theorem eR_cat (E : eE) (k : Nat) : (eR E k).category = 1 := by
  unfold eR
  cases eA E k <;> rfl
theorem aL_args (E : eE) (vs : List vV) : ∀ i, eL E (aL i vs) = lv_args i (vs.map (eV E)) := by
  induction vs with
  | nil => intro i; rfl
  | cons v vs ih =>
    intro i
    show (i, eV E v) :: eL E (aL _ vs) = (i, eV E v) :: lv_args _ (vs.map (eV E))
    rw [ih]
    congr 2
    rcases v with x | x | k
    · rfl
    · rfl
    · show i + 1 = if (eR E k).category = 2 then i + 2 else i + 1
      rw [eR_cat]; rfl
end
section
section RN
variable {l : Launch} {E : eE} {d a b : Nat} {y : MethodName} {cc : ByteArray} {nL : Nat} {ret : Option FieldType} {pc : Nat} {ls : List (Nat × vV)} {st : List vV} {h : hP} {Q : Option vV → hP → Prop}
theorem rS_map (r : Option vV) (st : List vV) : (r.map (eV E)).toList ++ st.map (eV E) = (r.toList ++ st).map (eV E) := by cases r <;> rfl
theorem lg_len (vs : List vV) (n : Nat) (h : (vs.map (fun v => match v with | .inr (.inl _) => 2 | _ => 1)).sum ≤ n) : (lg_sl (vs.map (eV E))).length ≤ n := by
  suffices hh : (lg_sl (vs.map (eV E))).length = (vs.map (fun v => match v with | .inr (.inl _) => 2 | _ => 1)).sum by omega
  clear h
  induction vs with
  | nil => rfl
  | cons v vs ih =>
    have e : lg_sl ((v :: vs).map (eV E)) = (if (eV E v).category = 2 then [Slot.val (eV E v), .second] else [.val (eV E v)]) ++ lg_sl (vs.map (eV E)) := by
      simp [lg_sl]
    rw [e, List.length_append, ih, List.map_cons, List.sum_cons]
    congr 1
    rcases v with x | x | k
    · rfl
    · rfl
    · show (if (eR E k).category = 2 then _ else _ : List Slot).length = 1
      rw [if_neg (by rw [eR_cat]; decide)]; rfl
theorem ct_of_rn {as : List vV} (hy : plainName y.cls = true) (hn : (as.map (fun v => match v with | .inr (.inl _) => 2 | _ => 1)).sum ≤ nL) (k : rn l E d a b y cc nL ret 0 (aL 0 as) [] h Q) : ct l E d a b y cc nL ret as h Q := by
  refine Met.ofW (cc := cc) (maxL := nL) (ret := ret) hy rfl ?_
  intro p e s m args below meth c s₁ B hml hv
  obtain ⟨rfl, hw, hSt⟩ := hv
  have hts := atoms_spec (ws := .code y cc nL ret :: allw) B.pre
  have hown : s.vm.findClass y.cls = some m.cls := findClass_of_methodNamed B.named
  have hlocks := B.notSynchronized
  have hl := lv_entry (as.map (eV E)) (n := nL) (lg_len as nL hn)
  rw [← aL_args] at hl
  rw [lg_entry_eq]
  refine k p e _ s m _ below meth c a b _ ⟨B.exec, B.bytes, hml, hown, fun w hw => hts w (List.mem_cons_of_mem _ hw), hlocks, (name_of_methodNamed B.named B.method).1, hSt, Nat.le_refl _, Nat.le_refl _, rfl, rfl, ?_⟩ s.heap [] 0 0 _ hw (fun _ h => by cases h) (by omega) (by omega) hl
  intro r h' pc' arr' H' locs' cells' slots' hq hr hw' hlo hc hs
  refine W.widen hc hs ?_
  have hrt := B.returns
  rcases hr with ⟨rfl, rfl, hd⟩ | ⟨v, ty, rfl, rfl, hn, hd⟩ | ⟨k0, n, rfl, rfl, hd⟩
  · exact W.vret B.exec B.bytes hrt (fun t ht _ => ⟨none, h', hq, rfl, by rw [ht]; exact hw'⟩) hlo hd
  · exact W.zret B.exec B.bytes hrt hn (fun t ht _ => ⟨some (.inl v), h', hq, rfl, by rw [ht]; exact hw'⟩) hlo hd
  · refine W.aret (v := eR E k0) B.exec B.bytes hrt (Or.inl ⟨n, rfl⟩) ?_ (fun t ht _ => ⟨some (.inr (.inr k0)), h', hq, rfl, by rw [ht]; exact hw'⟩) hlo hd
    unfold eR
    cases eA E k0 with
    | none => exact Or.inl rfl
    | some q => exact Or.inr ⟨q, rfl⟩
theorem rn_weaken {Q' : Option vV → hP → Prop} (hQ : ∀ r h', Q' r h' → Q r h') (k : rn l E d a b y cc nL ret pc ls st h Q') : rn l E d a b y cc nL ret pc ls st h Q := by
  intro p e R s m args below meth c mc ms Z C H locs cells slots arr hw hlo hc hs hl
  obtain ⟨c1, c2, c3, c4, c5, c6, c7, c8, c9, c10, c11, c12, hZ⟩ := C
  exact k p e R s m args below meth c mc ms Z ⟨c1, c2, c3, c4, c5, c6, c7, c8, c9, c10, c11, c12, fun r h' pc' arr' H' locs' cells' slots' q => hZ r h' pc' arr' H' locs' cells' slots' (hQ r h' q)⟩ H locs cells slots arr hw hlo hc hs hl
theorem rn_ret {v : Int32} (hq : Q (some (.inl v)) h) (ty : FieldType) (hr : ret = some ty) (hn : narrow ty (.int v) = .int v) (hd : decode cc pc = .ok (.ireturn, 1)) : rn l E d a b y cc nL ret pc ls [.inl v] h Q := by
  intro p e R s m args below meth c mc ms Z C H locs cells slots arr hw hlo hc hs hl
  exact C.2.2.2.2.2.2.2.2.2.2.2.2 (some (.inl v)) h pc arr H locs cells slots hq (Or.inr (Or.inl ⟨v, ty, rfl, hr, hn, hd⟩)) hw hlo (by omega) (by omega)
theorem rn_retv (hq : Q none h) (hr : ret = none) (hd : decode cc pc = .ok (.return_, 1)) : rn l E d a b y cc nL ret pc ls [] h Q := by
  intro p e R s m args below meth c mc ms Z C H locs cells slots arr hw hlo hc hs hl
  exact C.2.2.2.2.2.2.2.2.2.2.2.2 none h pc arr H locs cells slots hq (Or.inl ⟨rfl, hr, hd⟩) hw hlo (by omega) (by omega)
theorem rn_retr {k : Nat} (hq : Q (some (.inr (.inr k))) h) (n : String) (hr : ret = some (.object n)) (hd : decode cc pc = .ok (.areturn, 1)) : rn l E d a b y cc nL ret pc ls [.inr (.inr k)] h Q := by
  intro p e R s m args below meth c mc ms Z C H locs cells slots arr hw hlo hc hs hl
  exact C.2.2.2.2.2.2.2.2.2.2.2.2 (some (.inr (.inr k))) h pc arr H locs cells slots hq (Or.inr (Or.inr ⟨k, n, rfl, hr, hd⟩)) hw hlo (by omega) (by omega)
/-- fewer locals, in another order -/
theorem rn_sub {ls' : List (Nat × vV)} (ks : List Nat) (hk : ks.filterMap (fun k => ls[k]?) = ls') (k : rn l E d a b y cc nL ret pc ls' st h Q) : rn l E d a b y cc nL ret pc ls st h Q := by
  intro p e R s m args below meth c mc ms Z C H locs cells slots arr hw hlo hc hs hl
  refine k p e R s m args below meth c mc ms Z C H locs cells slots arr hw hlo hc hs (lv_sub hl ks ?_)
  rw [← hk]
  unfold lv_pick eL
  rw [List.map_filterMap]
  congr 1
  funext i
  rw [List.getElem?_map]
theorem eL_get {i : Nat} {v : vV} (k : Nat) (hk : ls[k]? = some (i, v)) : (eL E ls)[k]? = some (i, eV E v) := by
  unfold eL
  rw [List.getElem?_map, hk]; rfl

theorem rn_iconst {n : Int} {v : Int32} (hv : Int32.ofInt n = v) (hd : decode cc pc = .ok (.iconst n, 1)) (k : rn l E d a b y cc nL ret (pc + 1) ls (.inl v :: st) h Q) : rn l E d a b y cc nL ret pc ls (st) h Q := by
  intro p e R s m args below meth c mc ms Z C H locs cells slots arr hw hlo hc hs hl
  exact lv_iconst C.1 C.2.1 hd hv (k p e R s m args below meth c mc ms Z C H locs cells slots arr hw hlo hc hs hl)

theorem rn_bipush {n : Int} {v : Int32} (hv : (Int8.ofInt n).toInt32 = v) (hd : decode cc pc = .ok (.bipush n, 2)) (k : rn l E d a b y cc nL ret (pc + 2) ls (.inl v :: st) h Q) : rn l E d a b y cc nL ret pc ls (st) h Q := by
  intro p e R s m args below meth c mc ms Z C H locs cells slots arr hw hlo hc hs hl
  exact lv_bipush C.1 C.2.1 hd hv (k p e R s m args below meth c mc ms Z C H locs cells slots arr hw hlo hc hs hl)

theorem rn_sipush {n : Int} {v : Int32} (hv : (Int16.ofInt n).toInt32 = v) (hd : decode cc pc = .ok (.sipush n, 3)) (k : rn l E d a b y cc nL ret (pc + 3) ls (.inl v :: st) h Q) : rn l E d a b y cc nL ret pc ls (st) h Q := by
  intro p e R s m args below meth c mc ms Z C H locs cells slots arr hw hlo hc hs hl
  exact lv_sipush C.1 C.2.1 hd hv (k p e R s m args below meth c mc ms Z C H locs cells slots arr hw hlo hc hs hl)

theorem rn_lconst {n : Fin 2} {v : Int64} (hv : Int64.ofNat (n : Nat) = v) (hd : decode cc pc = .ok (.lconst n, 1)) (k : rn l E d a b y cc nL ret (pc + 1) ls (.inr (.inl v) :: st) h Q) : rn l E d a b y cc nL ret pc ls (st) h Q := by
  intro p e R s m args below meth c mc ms Z C H locs cells slots arr hw hlo hc hs hl
  exact lv_lconst C.1 C.2.1 hd hv (k p e R s m args below meth c mc ms Z C H locs cells slots arr hw hlo hc hs hl)

theorem rn_iload_n {i : Fin 4} {j : Nat} {x : Int32} (w : Nat) (hi : (i : Nat) = j) (hk : ls[w]? = some (j, .inl x)) (hd : decode cc pc = .ok (.iload_n i, 1)) (k : rn l E d a b y cc nL ret (pc + 1) ls (.inl x :: st) h Q) : rn l E d a b y cc nL ret pc ls (st) h Q := by
  intro p e R s m args below meth c mc ms Z C H locs cells slots arr hw hlo hc hs hl
  exact lv_iload_n C.1 C.2.1 hd hi (lv_at hl w (eL_get w hk)) (k p e R s m args below meth c mc ms Z C H locs cells slots arr hw hlo hc hs hl)

theorem rn_iload {j : Nat} {x : Int32} (w : Nat) (hk : ls[w]? = some (j, .inl x)) (hd : decode cc pc = .ok (.iload j, 2)) (k : rn l E d a b y cc nL ret (pc + 2) ls (.inl x :: st) h Q) : rn l E d a b y cc nL ret pc ls (st) h Q := by
  intro p e R s m args below meth c mc ms Z C H locs cells slots arr hw hlo hc hs hl
  exact lv_iload C.1 C.2.1 hd (lv_at hl w (eL_get w hk)) (k p e R s m args below meth c mc ms Z C H locs cells slots arr hw hlo hc hs hl)

theorem rn_lload_n {i : Fin 4} {j : Nat} {x : Int64} (w : Nat) (hi : (i : Nat) = j) (hk : ls[w]? = some (j, .inr (.inl x))) (hd : decode cc pc = .ok (.lload_n i, 1)) (k : rn l E d a b y cc nL ret (pc + 1) ls (.inr (.inl x) :: st) h Q) : rn l E d a b y cc nL ret pc ls (st) h Q := by
  intro p e R s m args below meth c mc ms Z C H locs cells slots arr hw hlo hc hs hl
  exact lv_lload_n C.1 C.2.1 hd hi (lv_at hl w (eL_get w hk)) (k p e R s m args below meth c mc ms Z C H locs cells slots arr hw hlo hc hs hl)

theorem rn_lload {j : Nat} {x : Int64} (w : Nat) (hk : ls[w]? = some (j, .inr (.inl x))) (hd : decode cc pc = .ok (.lload j, 2)) (k : rn l E d a b y cc nL ret (pc + 2) ls (.inr (.inl x) :: st) h Q) : rn l E d a b y cc nL ret pc ls (st) h Q := by
  intro p e R s m args below meth c mc ms Z C H locs cells slots arr hw hlo hc hs hl
  exact lv_lload C.1 C.2.1 hd (lv_at hl w (eL_get w hk)) (k p e R s m args below meth c mc ms Z C H locs cells slots arr hw hlo hc hs hl)

theorem eR_at (E : eE) {k : Nat} (hk : k ≠ 0) : ∃ q, eR E k = .ref q := by
  unfold eR eA
  rw [if_neg hk]
  split <;> exact ⟨_, rfl⟩
theorem rn_aload_n {i : Fin 4} {j q : Nat} (w : Nat) (hi : (i : Nat) = j) (hk : ls[w]? = some (j, .inr (.inr q))) (hq : q ≠ 0) (hd : decode cc pc = .ok (.aload_n i, 1)) (k : rn l E d a b y cc nL ret (pc + 1) ls (.inr (.inr q) :: st) h Q) : rn l E d a b y cc nL ret pc ls st h Q := by
  intro p e R s m args below meth c mc ms Z C H locs cells slots arr hw hlo hc hs hl
  have k1 := k p e R s m args below meth c mc ms Z C H locs cells slots arr hw hlo hc hs hl
  have e1 := lv_at hl w (eL_get w hk)
  obtain ⟨z, hz⟩ := eR_at E hq
  have e0 : (Sum.inr (Sum.inr q) :: st : List vV).map (eV E) = .ref z :: st.map (eV E) := by rw [← hz]; rfl
  rw [e0] at k1
  rw [show eV E (.inr (.inr q)) = .ref z from hz] at e1
  exact lv_aload_n C.1 C.2.1 hd hi e1 k1
theorem rn_aload {j q : Nat} (w : Nat) (hk : ls[w]? = some (j, .inr (.inr q))) (hq : q ≠ 0) (hd : decode cc pc = .ok (.aload j, 2)) (k : rn l E d a b y cc nL ret (pc + 2) ls (.inr (.inr q) :: st) h Q) : rn l E d a b y cc nL ret pc ls st h Q := by
  intro p e R s m args below meth c mc ms Z C H locs cells slots arr hw hlo hc hs hl
  have k1 := k p e R s m args below meth c mc ms Z C H locs cells slots arr hw hlo hc hs hl
  have e1 := lv_at hl w (eL_get w hk)
  obtain ⟨z, hz⟩ := eR_at E hq
  have e0 : (Sum.inr (Sum.inr q) :: st : List vV).map (eV E) = .ref z :: st.map (eV E) := by rw [← hz]; rfl
  rw [e0] at k1
  rw [show eV E (.inr (.inr q)) = .ref z from hz] at e1
  exact lv_aload C.1 C.2.1 hd e1 k1
def lF1 (i : Nat) (ls : List (Nat × vV)) : List (Nat × vV) := ls.filter (fun q => !(q.1 == i) && !(q.1 + 1 == i && (match q.2 with | .inr (.inl _) => true | _ => false)))
def lF2 (i : Nat) (ls : List (Nat × vV)) : List (Nat × vV) := ls.filter (fun q => !(q.1 == i) && (!(q.1 == i + 1) && !(q.1 + 1 == i && (match q.2 with | .inr (.inl _) => true | _ => false))))
theorem cat_b (E : eE) (v : vV) : ((eV E v).category == 2) = (match v with | .inr (.inl _) => true | _ => false) := by
  rcases v with x | x | k
  · rfl
  · rfl
  · show ((eR E k).category == 2) = false
    rw [eR_cat]; rfl
theorem lF1_e (i : Nat) (v : vV) : (i, eV E v) :: (eL E ls).filter (fun q => !(q.1 == i) && !(q.1 + 1 == i && q.2.category == 2)) = eL E ((i, v) :: lF1 i ls) := by
  unfold eL lF1
  rw [List.map_cons, List.filter_map]
  congr 2
  apply List.filter_congr
  intro q _
  simp only [Function.comp_apply, cat_b]
theorem lF2_e (i : Nat) (v : vV) : (i, eV E v) :: (eL E ls).filter (fun q => !(q.1 == i) && (!(q.1 == i + 1) && !(q.1 + 1 == i && q.2.category == 2))) = eL E ((i, v) :: lF2 i ls) := by
  unfold eL lF2
  rw [List.map_cons, List.filter_map]
  congr 2
  apply List.filter_congr
  intro q _
  simp only [Function.comp_apply, cat_b]

theorem rn_istore_n {i : Fin 4} {j : Nat} {x : Int32} {ls' : List (Nat × vV)} (hi : (i : Nat) = j) (hn : j < nL) (hl' : (j, .inl x) :: lF1 j ls = ls') (hd : decode cc pc = .ok (.istore_n i, 1)) (k : rn l E d a b y cc nL ret (pc + 1) ls' st h Q) : rn l E d a b y cc nL ret pc ls (.inl x :: st) h Q := by
  intro p e R s m args below meth c mc ms Z C H locs cells slots arr hw hlo hc hs hl
  exact lv_istore_n C.1 C.2.1 hd hi hl hn ((lF1_e j (.inl x)).trans (by rw [hl'])) (fun arr hl => (k p e R s m args below meth c mc ms Z C H locs cells slots arr hw hlo hc hs hl))

theorem rn_istore {j : Nat} {x : Int32} {ls' : List (Nat × vV)} (hn : j < nL) (hl' : (j, .inl x) :: lF1 j ls = ls') (hd : decode cc pc = .ok (.istore j, 2)) (k : rn l E d a b y cc nL ret (pc + 2) ls' st h Q) : rn l E d a b y cc nL ret pc ls (.inl x :: st) h Q := by
  intro p e R s m args below meth c mc ms Z C H locs cells slots arr hw hlo hc hs hl
  exact lv_istore C.1 C.2.1 hd hl hn ((lF1_e j (.inl x)).trans (by rw [hl'])) (fun arr hl => (k p e R s m args below meth c mc ms Z C H locs cells slots arr hw hlo hc hs hl))

theorem rn_lstore_n {i : Fin 4} {j : Nat} {x : Int64} {ls' : List (Nat × vV)} (hi : (i : Nat) = j) (hn : j + 1 < nL) (hl' : (j, .inr (.inl x)) :: lF2 j ls = ls') (hd : decode cc pc = .ok (.lstore_n i, 1)) (k : rn l E d a b y cc nL ret (pc + 1) ls' st h Q) : rn l E d a b y cc nL ret pc ls (.inr (.inl x) :: st) h Q := by
  intro p e R s m args below meth c mc ms Z C H locs cells slots arr hw hlo hc hs hl
  exact lv_lstore_n C.1 C.2.1 hd hi hl hn ((lF2_e j (.inr (.inl x))).trans (by rw [hl'])) (fun arr hl => (k p e R s m args below meth c mc ms Z C H locs cells slots arr hw hlo hc hs hl))

theorem rn_lstore {j : Nat} {x : Int64} {ls' : List (Nat × vV)} (hn : j + 1 < nL) (hl' : (j, .inr (.inl x)) :: lF2 j ls = ls') (hd : decode cc pc = .ok (.lstore j, 2)) (k : rn l E d a b y cc nL ret (pc + 2) ls' st h Q) : rn l E d a b y cc nL ret pc ls (.inr (.inl x) :: st) h Q := by
  intro p e R s m args below meth c mc ms Z C H locs cells slots arr hw hlo hc hs hl
  exact lv_lstore C.1 C.2.1 hd hl hn ((lF2_e j (.inr (.inl x))).trans (by rw [hl'])) (fun arr hl => (k p e R s m args below meth c mc ms Z C H locs cells slots arr hw hlo hc hs hl))

theorem rn_astore_n {i : Fin 4} {j q : Nat} {ls' : List (Nat × vV)} (hi : (i : Nat) = j) (hn : j < nL) (hq : q ≠ 0) (hl' : (j, .inr (.inr q)) :: lF1 j ls = ls') (hd : decode cc pc = .ok (.astore_n i, 1)) (k : rn l E d a b y cc nL ret (pc + 1) ls' st h Q) : rn l E d a b y cc nL ret pc ls (.inr (.inr q) :: st) h Q := by
  intro p e R s m args below meth c mc ms Z C H locs cells slots arr hw hlo hc hs hl
  obtain ⟨z, hz⟩ := eR_at E hq
  have e0 : (Sum.inr (Sum.inr q) :: st : List vV).map (eV E) = .ref z :: st.map (eV E) := by rw [← hz]; rfl
  rw [e0]
  have e1 := lF1_e (E := E) (ls := ls) j (.inr (.inr q))
  rw [hl', show eV E (.inr (.inr q)) = .ref z from hz] at e1
  exact lv_astore_n C.1 C.2.1 hd hi hl hn e1 (fun arr hl => k p e R s m args below meth c mc ms Z C H locs cells slots arr hw hlo hc hs hl)
theorem rn_astore {j q : Nat} {ls' : List (Nat × vV)} (hn : j < nL) (hq : q ≠ 0) (hl' : (j, .inr (.inr q)) :: lF1 j ls = ls') (hd : decode cc pc = .ok (.astore j, 2)) (k : rn l E d a b y cc nL ret (pc + 2) ls' st h Q) : rn l E d a b y cc nL ret pc ls (.inr (.inr q) :: st) h Q := by
  intro p e R s m args below meth c mc ms Z C H locs cells slots arr hw hlo hc hs hl
  obtain ⟨z, hz⟩ := eR_at E hq
  have e0 : (Sum.inr (Sum.inr q) :: st : List vV).map (eV E) = .ref z :: st.map (eV E) := by rw [← hz]; rfl
  rw [e0]
  have e1 := lF1_e (E := E) (ls := ls) j (.inr (.inr q))
  rw [hl', show eV E (.inr (.inr q)) = .ref z from hz] at e1
  exact lv_astore C.1 C.2.1 hd hl hn e1 (fun arr hl => k p e R s m args below meth c mc ms Z C H locs cells slots arr hw hlo hc hs hl)
theorem rn_iinc {i : Nat} {n : Int} {x v : Int32} {ls' : List (Nat × vV)} (w : Nat) (hk : ls[w]? = some (i, .inl x)) (hv : x + Int32.ofInt n = v) (hn : i < nL) (hl' : (i, .inl v) :: lF1 i ls = ls') (hd : decode cc pc = .ok (.iinc i n, 3)) (k : rn l E d a b y cc nL ret (pc + 3) ls' st h Q) : rn l E d a b y cc nL ret pc ls st h Q := by
  intro p e R s m args below meth c mc ms Z C H locs cells slots arr hw hlo hc hs hl
  exact lv_iinc (v := v) C.1 C.2.1 hd hl (k := w) (eL_get w hk) hv hn ((lF1_e (E := E) (ls := ls) i (.inl v)).trans (by rw [hl'])) (fun arr hl => k p e R s m args below meth c mc ms Z C H locs cells slots arr hw hlo hc hs hl)

theorem rn_iadd {x1 x2 : Int32} (hd : decode cc pc = .ok (.iadd, 1)) (k : rn l E d a b y cc nL ret (pc + 1) ls (.inl (x1 + x2) :: st) h Q) : rn l E d a b y cc nL ret pc ls (.inl x2 :: .inl x1 :: st) h Q := by
  intro p e R s m args below meth c mc ms Z C H locs cells slots arr hw hlo hc hs hl
  exact lv_iadd C.1 C.2.1 hd (k p e R s m args below meth c mc ms Z C H locs cells slots arr hw hlo hc hs hl)

theorem rn_isub {x1 x2 : Int32} (hd : decode cc pc = .ok (.isub, 1)) (k : rn l E d a b y cc nL ret (pc + 1) ls (.inl (x1 - x2) :: st) h Q) : rn l E d a b y cc nL ret pc ls (.inl x2 :: .inl x1 :: st) h Q := by
  intro p e R s m args below meth c mc ms Z C H locs cells slots arr hw hlo hc hs hl
  exact lv_isub C.1 C.2.1 hd (k p e R s m args below meth c mc ms Z C H locs cells slots arr hw hlo hc hs hl)

theorem rn_imul {x1 x2 : Int32} (hd : decode cc pc = .ok (.imul, 1)) (k : rn l E d a b y cc nL ret (pc + 1) ls (.inl (x1 * x2) :: st) h Q) : rn l E d a b y cc nL ret pc ls (.inl x2 :: .inl x1 :: st) h Q := by
  intro p e R s m args below meth c mc ms Z C H locs cells slots arr hw hlo hc hs hl
  exact lv_imul C.1 C.2.1 hd (k p e R s m args below meth c mc ms Z C H locs cells slots arr hw hlo hc hs hl)

theorem rn_iand {x1 x2 : Int32} (hd : decode cc pc = .ok (.iand, 1)) (k : rn l E d a b y cc nL ret (pc + 1) ls (.inl (x1 &&& x2) :: st) h Q) : rn l E d a b y cc nL ret pc ls (.inl x2 :: .inl x1 :: st) h Q := by
  intro p e R s m args below meth c mc ms Z C H locs cells slots arr hw hlo hc hs hl
  exact lv_iand C.1 C.2.1 hd (k p e R s m args below meth c mc ms Z C H locs cells slots arr hw hlo hc hs hl)

theorem rn_ior {x1 x2 : Int32} (hd : decode cc pc = .ok (.ior, 1)) (k : rn l E d a b y cc nL ret (pc + 1) ls (.inl (x1 ||| x2) :: st) h Q) : rn l E d a b y cc nL ret pc ls (.inl x2 :: .inl x1 :: st) h Q := by
  intro p e R s m args below meth c mc ms Z C H locs cells slots arr hw hlo hc hs hl
  exact lv_ior C.1 C.2.1 hd (k p e R s m args below meth c mc ms Z C H locs cells slots arr hw hlo hc hs hl)

theorem rn_ixor {x1 x2 : Int32} (hd : decode cc pc = .ok (.ixor, 1)) (k : rn l E d a b y cc nL ret (pc + 1) ls (.inl (x1 ^^^ x2) :: st) h Q) : rn l E d a b y cc nL ret pc ls (.inl x2 :: .inl x1 :: st) h Q := by
  intro p e R s m args below meth c mc ms Z C H locs cells slots arr hw hlo hc hs hl
  exact lv_ixor C.1 C.2.1 hd (k p e R s m args below meth c mc ms Z C H locs cells slots arr hw hlo hc hs hl)

theorem rn_idiv {x1 x2 : Int32} (hne : ¬ x2 = 0) (hd : decode cc pc = .ok (.idiv, 1)) (k : rn l E d a b y cc nL ret (pc + 1) ls (.inl (x1 / x2) :: st) h Q) : rn l E d a b y cc nL ret pc ls (.inl x2 :: .inl x1 :: st) h Q := by
  intro p e R s m args below meth c mc ms Z C H locs cells slots arr hw hlo hc hs hl
  exact lv_idiv C.1 C.2.1 hd hne (k p e R s m args below meth c mc ms Z C H locs cells slots arr hw hlo hc hs hl)

theorem rn_irem {x1 x2 : Int32} (hne : ¬ x2 = 0) (hd : decode cc pc = .ok (.irem, 1)) (k : rn l E d a b y cc nL ret (pc + 1) ls (.inl (x1 - x1 / x2 * x2) :: st) h Q) : rn l E d a b y cc nL ret pc ls (.inl x2 :: .inl x1 :: st) h Q := by
  intro p e R s m args below meth c mc ms Z C H locs cells slots arr hw hlo hc hs hl
  exact lv_irem C.1 C.2.1 hd hne (k p e R s m args below meth c mc ms Z C H locs cells slots arr hw hlo hc hs hl)

theorem rn_ishl {x1 x2 : Int32} (hd : decode cc pc = .ok (.ishl, 1)) (k : rn l E d a b y cc nL ret (pc + 1) ls (.inl (x1 <<< (x2 &&& 31)) :: st) h Q) : rn l E d a b y cc nL ret pc ls (.inl x2 :: .inl x1 :: st) h Q := by
  intro p e R s m args below meth c mc ms Z C H locs cells slots arr hw hlo hc hs hl
  exact lv_ishl C.1 C.2.1 hd (k p e R s m args below meth c mc ms Z C H locs cells slots arr hw hlo hc hs hl)

theorem rn_ishr {x1 x2 : Int32} (hd : decode cc pc = .ok (.ishr, 1)) (k : rn l E d a b y cc nL ret (pc + 1) ls (.inl (x1 >>> (x2 &&& 31)) :: st) h Q) : rn l E d a b y cc nL ret pc ls (.inl x2 :: .inl x1 :: st) h Q := by
  intro p e R s m args below meth c mc ms Z C H locs cells slots arr hw hlo hc hs hl
  exact lv_ishr C.1 C.2.1 hd (k p e R s m args below meth c mc ms Z C H locs cells slots arr hw hlo hc hs hl)

theorem rn_iushr {x1 x2 v : Int32} (hv : (x1.toUInt32 >>> (x2.toUInt32 &&& Int32.toUInt32 31)).toInt32 = v) (hd : decode cc pc = .ok (.iushr, 1)) (k : rn l E d a b y cc nL ret (pc + 1) ls (.inl v :: st) h Q) : rn l E d a b y cc nL ret pc ls (.inl x2 :: .inl x1 :: st) h Q := by
  intro p e R s m args below meth c mc ms Z C H locs cells slots arr hw hlo hc hs hl
  exact lv_iushr C.1 C.2.1 hd hv (k p e R s m args below meth c mc ms Z C H locs cells slots arr hw hlo hc hs hl)

theorem rn_i2l {x : Int32} {v : Int64} (hv : x.toInt64 = v) (hd : decode cc pc = .ok (.i2l, 1)) (k : rn l E d a b y cc nL ret (pc + 1) ls (.inr (.inl v) :: st) h Q) : rn l E d a b y cc nL ret pc ls (.inl x :: st) h Q := by
  intro p e R s m args below meth c mc ms Z C H locs cells slots arr hw hlo hc hs hl
  exact lv_i2l C.1 C.2.1 hd hv (k p e R s m args below meth c mc ms Z C H locs cells slots arr hw hlo hc hs hl)

theorem rn_l2i {x : Int64} {v : Int32} (hv : x.toInt32 = v) (hd : decode cc pc = .ok (.l2i, 1)) (k : rn l E d a b y cc nL ret (pc + 1) ls (.inl v :: st) h Q) : rn l E d a b y cc nL ret pc ls (.inr (.inl x) :: st) h Q := by
  intro p e R s m args below meth c mc ms Z C H locs cells slots arr hw hlo hc hs hl
  exact lv_l2i C.1 C.2.1 hd hv (k p e R s m args below meth c mc ms Z C H locs cells slots arr hw hlo hc hs hl)

theorem rn_i2b {x v : Int32} (hv : x.toInt8.toInt32 = v) (hd : decode cc pc = .ok (.i2b, 1)) (k : rn l E d a b y cc nL ret (pc + 1) ls (.inl v :: st) h Q) : rn l E d a b y cc nL ret pc ls (.inl x :: st) h Q := by
  intro p e R s m args below meth c mc ms Z C H locs cells slots arr hw hlo hc hs hl
  exact lv_i2b C.1 C.2.1 hd hv (k p e R s m args below meth c mc ms Z C H locs cells slots arr hw hlo hc hs hl)

theorem rn_i2c {x v : Int32} (hv : (x.toUInt32 % 65536).toInt32 = v) (hd : decode cc pc = .ok (.i2c, 1)) (k : rn l E d a b y cc nL ret (pc + 1) ls (.inl v :: st) h Q) : rn l E d a b y cc nL ret pc ls (.inl x :: st) h Q := by
  intro p e R s m args below meth c mc ms Z C H locs cells slots arr hw hlo hc hs hl
  exact lv_i2c C.1 C.2.1 hd hv (k p e R s m args below meth c mc ms Z C H locs cells slots arr hw hlo hc hs hl)

theorem rn_land {x1 x2 : Int64} (hd : decode cc pc = .ok (.land, 1)) (k : rn l E d a b y cc nL ret (pc + 1) ls (.inr (.inl (x1 &&& x2)) :: st) h Q) : rn l E d a b y cc nL ret pc ls (.inr (.inl x2) :: .inr (.inl x1) :: st) h Q := by
  intro p e R s m args below meth c mc ms Z C H locs cells slots arr hw hlo hc hs hl
  exact lv_land C.1 C.2.1 hd (k p e R s m args below meth c mc ms Z C H locs cells slots arr hw hlo hc hs hl)

theorem rn_lor {x1 x2 : Int64} (hd : decode cc pc = .ok (.lor, 1)) (k : rn l E d a b y cc nL ret (pc + 1) ls (.inr (.inl (x1 ||| x2)) :: st) h Q) : rn l E d a b y cc nL ret pc ls (.inr (.inl x2) :: .inr (.inl x1) :: st) h Q := by
  intro p e R s m args below meth c mc ms Z C H locs cells slots arr hw hlo hc hs hl
  exact lv_lor C.1 C.2.1 hd (k p e R s m args below meth c mc ms Z C H locs cells slots arr hw hlo hc hs hl)

theorem rn_lushr {x v : Int64} {w : Int32} (hv : (x.toUInt64 >>> (w.toInt64.toUInt64 &&& Int64.toUInt64 63)).toInt64 = v) (hd : decode cc pc = .ok (.lushr, 1)) (k : rn l E d a b y cc nL ret (pc + 1) ls (.inr (.inl v) :: st) h Q) : rn l E d a b y cc nL ret pc ls (.inl w :: .inr (.inl x) :: st) h Q := by
  intro p e R s m args below meth c mc ms Z C H locs cells slots arr hw hlo hc hs hl
  exact lv_lushr C.1 C.2.1 hd hv (k p e R s m args below meth c mc ms Z C H locs cells slots arr hw hlo hc hs hl)

theorem rn_lshl {x v : Int64} {w : Int32} (hv : x <<< (w.toInt64 &&& 63) = v) (hd : decode cc pc = .ok (.lshl, 1)) (k : rn l E d a b y cc nL ret (pc + 1) ls (.inr (.inl v) :: st) h Q) : rn l E d a b y cc nL ret pc ls (.inl w :: .inr (.inl x) :: st) h Q := by
  intro p e R s m args below meth c mc ms Z C H locs cells slots arr hw hlo hc hs hl
  exact lv_lshl C.1 C.2.1 hd hv (k p e R s m args below meth c mc ms Z C H locs cells slots arr hw hlo hc hs hl)

theorem eV_c1 (E : eE) (v : vV) (hv : (match v with | .inr (.inl _) => true | _ => false) = false) : (eV E v).category = 1 := by
  rcases v with x | x | k
  · rfl
  · cases hv
  · exact eR_cat E k

theorem rn_dup {v : vV} (hv : (match v with | .inr (.inl _) => true | _ => false) = false) (hd : decode cc pc = .ok (.dup, 1)) (k : rn l E d a b y cc nL ret (pc + 1) ls (v :: v :: st) h Q) : rn l E d a b y cc nL ret pc ls (v :: st) h Q := by
  intro p e R s m args below meth c mc ms Z C H locs cells slots arr hw hlo hc hs hl
  exact lv_dup C.1 C.2.1 hd (eV_c1 E v hv) (k p e R s m args below meth c mc ms Z C H locs cells slots arr hw hlo hc hs hl)

theorem rn_pop {v : vV} (hv : (match v with | .inr (.inl _) => true | _ => false) = false) (hd : decode cc pc = .ok (.pop, 1)) (k : rn l E d a b y cc nL ret (pc + 1) ls (st) h Q) : rn l E d a b y cc nL ret pc ls (v :: st) h Q := by
  intro p e R s m args below meth c mc ms Z C H locs cells slots arr hw hlo hc hs hl
  exact lv_pop C.1 C.2.1 hd (eV_c1 E v hv) (k p e R s m args below meth c mc ms Z C H locs cells slots arr hw hlo hc hs hl)

theorem rn_dup_x1 {v w : vV} (hv : (match v with | .inr (.inl _) => true | _ => false) = false) (hw : (match w with | .inr (.inl _) => true | _ => false) = false) (hd : decode cc pc = .ok (.dup_x1, 1)) (k : rn l E d a b y cc nL ret (pc + 1) ls (v :: w :: v :: st) h Q) : rn l E d a b y cc nL ret pc ls (v :: w :: st) h Q := by
  intro p e R s m args below meth c mc ms Z C H locs cells slots arr hw hlo hc hs hl
  exact lv_dup_x1 C.1 C.2.1 hd (eV_c1 E v hv) (eV_c1 E w (by assumption)) (k p e R s m args below meth c mc ms Z C H locs cells slots arr hw hlo hc hs hl)

theorem rn_dup2 {v w : vV} (hv : (match v with | .inr (.inl _) => true | _ => false) = false) (hw2 : (match w with | .inr (.inl _) => true | _ => false) = false) (hd : decode cc pc = .ok (.dup2, 1)) (k : rn l E d a b y cc nL ret (pc + 1) ls (v :: w :: v :: w :: st) h Q) : rn l E d a b y cc nL ret pc ls (v :: w :: st) h Q := by
  intro p e R s m args below meth c mc ms Z C H locs cells slots arr hw hlo hc hs hl
  exact lv_dup2_11 C.1 C.2.1 hd (eV_c1 E v hv) (eV_c1 E w hw2) (k p e R s m args below meth c mc ms Z C H locs cells slots arr hw hlo hc hs hl)

theorem rn_if_eq {x : Int32} {off : Int} {tgt : Nat} (hd : decode cc pc = .ok (.ifCond .eq off, 3)) (ht : (pc : Int) + off = (tgt : Int)) (kt : x = 0 → rn l E d a b y cc nL ret tgt ls st h Q) (kf : ¬ (x = 0) → rn l E d a b y cc nL ret (pc + 3) ls st h Q) : rn l E d a b y cc nL ret pc ls (.inl x :: st) h Q := by
  intro p e R s m args below meth c mc ms Z C H locs cells slots arr hw hlo hc hs hl
  exact lv_if_eq C.1 C.2.1 hd ht (fun z => kt z p e R s m args below meth c mc ms Z C H locs cells slots arr hw hlo hc hs hl) (fun z => kf z p e R s m args below meth c mc ms Z C H locs cells slots arr hw hlo hc hs hl)
theorem rn_icmp_eq {x1 x2 : Int32} {off : Int} {tgt : Nat} (hd : decode cc pc = .ok (.if_icmp .eq off, 3)) (ht : (pc : Int) + off = (tgt : Int)) (kt : x1 = x2 → rn l E d a b y cc nL ret tgt ls st h Q) (kf : ¬ (x1 = x2) → rn l E d a b y cc nL ret (pc + 3) ls st h Q) : rn l E d a b y cc nL ret pc ls (.inl x2 :: .inl x1 :: st) h Q := by
  intro p e R s m args below meth c mc ms Z C H locs cells slots arr hw hlo hc hs hl
  exact lv_icmp_eq C.1 C.2.1 hd ht (fun z => kt z p e R s m args below meth c mc ms Z C H locs cells slots arr hw hlo hc hs hl) (fun z => kf z p e R s m args below meth c mc ms Z C H locs cells slots arr hw hlo hc hs hl)

theorem rn_if_ne {x : Int32} {off : Int} {tgt : Nat} (hd : decode cc pc = .ok (.ifCond .ne off, 3)) (ht : (pc : Int) + off = (tgt : Int)) (kt : x = 0 → rn l E d a b y cc nL ret (pc + 3) ls st h Q) (kf : ¬ x = 0 → rn l E d a b y cc nL ret tgt ls st h Q) : rn l E d a b y cc nL ret pc ls (.inl x :: st) h Q := by
  intro p e R s m args below meth c mc ms Z C H locs cells slots arr hw hlo hc hs hl
  exact lv_if_ne C.1 C.2.1 hd ht (fun z => kf z p e R s m args below meth c mc ms Z C H locs cells slots arr hw hlo hc hs hl) (fun z => kt z p e R s m args below meth c mc ms Z C H locs cells slots arr hw hlo hc hs hl)
theorem rn_icmp_ne {x1 x2 : Int32} {off : Int} {tgt : Nat} (hd : decode cc pc = .ok (.if_icmp .ne off, 3)) (ht : (pc : Int) + off = (tgt : Int)) (kt : x1 = x2 → rn l E d a b y cc nL ret (pc + 3) ls st h Q) (kf : ¬ x1 = x2 → rn l E d a b y cc nL ret tgt ls st h Q) : rn l E d a b y cc nL ret pc ls (.inl x2 :: .inl x1 :: st) h Q := by
  intro p e R s m args below meth c mc ms Z C H locs cells slots arr hw hlo hc hs hl
  exact lv_icmp_ne C.1 C.2.1 hd ht (fun z => kf z p e R s m args below meth c mc ms Z C H locs cells slots arr hw hlo hc hs hl) (fun z => kt z p e R s m args below meth c mc ms Z C H locs cells slots arr hw hlo hc hs hl)

theorem rn_if_lt {x : Int32} {off : Int} {tgt : Nat} (hd : decode cc pc = .ok (.ifCond .lt off, 3)) (ht : (pc : Int) + off = (tgt : Int)) (kt : x < 0 → rn l E d a b y cc nL ret tgt ls st h Q) (kf : ¬ (x < 0) → rn l E d a b y cc nL ret (pc + 3) ls st h Q) : rn l E d a b y cc nL ret pc ls (.inl x :: st) h Q := by
  intro p e R s m args below meth c mc ms Z C H locs cells slots arr hw hlo hc hs hl
  exact lv_if_lt C.1 C.2.1 hd ht (fun z => kt z p e R s m args below meth c mc ms Z C H locs cells slots arr hw hlo hc hs hl) (fun z => kf z p e R s m args below meth c mc ms Z C H locs cells slots arr hw hlo hc hs hl)
theorem rn_icmp_lt {x1 x2 : Int32} {off : Int} {tgt : Nat} (hd : decode cc pc = .ok (.if_icmp .lt off, 3)) (ht : (pc : Int) + off = (tgt : Int)) (kt : x1 < x2 → rn l E d a b y cc nL ret tgt ls st h Q) (kf : ¬ (x1 < x2) → rn l E d a b y cc nL ret (pc + 3) ls st h Q) : rn l E d a b y cc nL ret pc ls (.inl x2 :: .inl x1 :: st) h Q := by
  intro p e R s m args below meth c mc ms Z C H locs cells slots arr hw hlo hc hs hl
  exact lv_icmp_lt C.1 C.2.1 hd ht (fun z => kt z p e R s m args below meth c mc ms Z C H locs cells slots arr hw hlo hc hs hl) (fun z => kf z p e R s m args below meth c mc ms Z C H locs cells slots arr hw hlo hc hs hl)

theorem rn_if_ge {x : Int32} {off : Int} {tgt : Nat} (hd : decode cc pc = .ok (.ifCond .ge off, 3)) (ht : (pc : Int) + off = (tgt : Int)) (kt : 0 ≤ x → rn l E d a b y cc nL ret tgt ls st h Q) (kf : ¬ (0 ≤ x) → rn l E d a b y cc nL ret (pc + 3) ls st h Q) : rn l E d a b y cc nL ret pc ls (.inl x :: st) h Q := by
  intro p e R s m args below meth c mc ms Z C H locs cells slots arr hw hlo hc hs hl
  exact lv_if_ge C.1 C.2.1 hd ht (fun z => kt z p e R s m args below meth c mc ms Z C H locs cells slots arr hw hlo hc hs hl) (fun z => kf z p e R s m args below meth c mc ms Z C H locs cells slots arr hw hlo hc hs hl)
theorem rn_icmp_ge {x1 x2 : Int32} {off : Int} {tgt : Nat} (hd : decode cc pc = .ok (.if_icmp .ge off, 3)) (ht : (pc : Int) + off = (tgt : Int)) (kt : x2 ≤ x1 → rn l E d a b y cc nL ret tgt ls st h Q) (kf : ¬ (x2 ≤ x1) → rn l E d a b y cc nL ret (pc + 3) ls st h Q) : rn l E d a b y cc nL ret pc ls (.inl x2 :: .inl x1 :: st) h Q := by
  intro p e R s m args below meth c mc ms Z C H locs cells slots arr hw hlo hc hs hl
  exact lv_icmp_ge C.1 C.2.1 hd ht (fun z => kt z p e R s m args below meth c mc ms Z C H locs cells slots arr hw hlo hc hs hl) (fun z => kf z p e R s m args below meth c mc ms Z C H locs cells slots arr hw hlo hc hs hl)

theorem rn_if_gt {x : Int32} {off : Int} {tgt : Nat} (hd : decode cc pc = .ok (.ifCond .gt off, 3)) (ht : (pc : Int) + off = (tgt : Int)) (kt : 0 < x → rn l E d a b y cc nL ret tgt ls st h Q) (kf : ¬ (0 < x) → rn l E d a b y cc nL ret (pc + 3) ls st h Q) : rn l E d a b y cc nL ret pc ls (.inl x :: st) h Q := by
  intro p e R s m args below meth c mc ms Z C H locs cells slots arr hw hlo hc hs hl
  exact lv_if_gt C.1 C.2.1 hd ht (fun z => kt z p e R s m args below meth c mc ms Z C H locs cells slots arr hw hlo hc hs hl) (fun z => kf z p e R s m args below meth c mc ms Z C H locs cells slots arr hw hlo hc hs hl)
theorem rn_icmp_gt {x1 x2 : Int32} {off : Int} {tgt : Nat} (hd : decode cc pc = .ok (.if_icmp .gt off, 3)) (ht : (pc : Int) + off = (tgt : Int)) (kt : x2 < x1 → rn l E d a b y cc nL ret tgt ls st h Q) (kf : ¬ (x2 < x1) → rn l E d a b y cc nL ret (pc + 3) ls st h Q) : rn l E d a b y cc nL ret pc ls (.inl x2 :: .inl x1 :: st) h Q := by
  intro p e R s m args below meth c mc ms Z C H locs cells slots arr hw hlo hc hs hl
  exact lv_icmp_gt C.1 C.2.1 hd ht (fun z => kt z p e R s m args below meth c mc ms Z C H locs cells slots arr hw hlo hc hs hl) (fun z => kf z p e R s m args below meth c mc ms Z C H locs cells slots arr hw hlo hc hs hl)

theorem rn_if_le {x : Int32} {off : Int} {tgt : Nat} (hd : decode cc pc = .ok (.ifCond .le off, 3)) (ht : (pc : Int) + off = (tgt : Int)) (kt : x ≤ 0 → rn l E d a b y cc nL ret tgt ls st h Q) (kf : ¬ (x ≤ 0) → rn l E d a b y cc nL ret (pc + 3) ls st h Q) : rn l E d a b y cc nL ret pc ls (.inl x :: st) h Q := by
  intro p e R s m args below meth c mc ms Z C H locs cells slots arr hw hlo hc hs hl
  exact lv_if_le C.1 C.2.1 hd ht (fun z => kt z p e R s m args below meth c mc ms Z C H locs cells slots arr hw hlo hc hs hl) (fun z => kf z p e R s m args below meth c mc ms Z C H locs cells slots arr hw hlo hc hs hl)
theorem rn_icmp_le {x1 x2 : Int32} {off : Int} {tgt : Nat} (hd : decode cc pc = .ok (.if_icmp .le off, 3)) (ht : (pc : Int) + off = (tgt : Int)) (kt : x1 ≤ x2 → rn l E d a b y cc nL ret tgt ls st h Q) (kf : ¬ (x1 ≤ x2) → rn l E d a b y cc nL ret (pc + 3) ls st h Q) : rn l E d a b y cc nL ret pc ls (.inl x2 :: .inl x1 :: st) h Q := by
  intro p e R s m args below meth c mc ms Z C H locs cells slots arr hw hlo hc hs hl
  exact lv_icmp_le C.1 C.2.1 hd ht (fun z => kt z p e R s m args below meth c mc ms Z C H locs cells slots arr hw hlo hc hs hl) (fun z => kf z p e R s m args below meth c mc ms Z C H locs cells slots arr hw hlo hc hs hl)

theorem rn_goto {off : Int} {tgt : Nat} (hd : decode cc pc = .ok (.goto off, 3)) (ht : (pc : Int) + off = (tgt : Int)) (k : rn l E d a b y cc nL ret tgt ls st h Q) : rn l E d a b y cc nL ret pc ls st h Q := by
  intro p e R s m args below meth c mc ms Z C H locs cells slots arr hw hlo hc hs hl
  exact lv_goto C.1 C.2.1 hd ht (k p e R s m args below meth c mc ms Z C H locs cells slots arr hw hlo hc hs hl)
theorem rn_lsw {dflt : Int} {ps : Array (Int × Int)} {len : Nat} {x : Int32} {off : Int} {tgt : Nat} (hd : decode cc pc = .ok (.lookupswitch dflt ps, len)) (hp : (ps.toList.zip (ps.toList.drop 1)).all (fun (a, next) => a.1 < next.1) = true) (ho : Op.lookupswitch.offset ps.toList dflt x.toInt = off) (ht : (pc : Int) + off = (tgt : Int)) (k : rn l E d a b y cc nL ret tgt ls st h Q) : rn l E d a b y cc nL ret pc ls (.inl x :: st) h Q := by
  intro p e R s m args below meth c mc ms Z C H locs cells slots arr hw hlo hc hs hl
  exact lv_lookup C.1 C.2.1 hd hp ho ht (k p e R s m args below meth c mc ms Z C H locs cells slots arr hw hlo hc hs hl)
theorem rn_tswO {dflt lo hi : Int} {offs : Array Int} {len : Nat} {x : Int32} {tgt : Nat} (hd : decode cc pc = .ok (.tableswitch dflt lo hi offs, len)) (hx : x.toInt < lo ∨ hi < x.toInt) (ht : (pc : Int) + dflt = (tgt : Int)) (k : rn l E d a b y cc nL ret tgt ls st h Q) : rn l E d a b y cc nL ret pc ls (.inl x :: st) h Q := by
  intro p e R s m args below meth c mc ms Z C H locs cells slots arr hw hlo hc hs hl
  exact lv_tableOut C.1 C.2.1 hd hx ht (k p e R s m args below meth c mc ms Z C H locs cells slots arr hw hlo hc hs hl)
theorem rn_tswI {dflt lo hi : Int} {offs : Array Int} {len : Nat} {x : Int32} {off : Int} {tgt : Nat} (hd : decode cc pc = .ok (.tableswitch dflt lo hi offs, len)) (h1 : ¬ x.toInt < lo) (h2 : ¬ hi < x.toInt) (ho : offs[(x.toInt - lo).toNat]? = some off) (ht : (pc : Int) + off = (tgt : Int)) (k : rn l E d a b y cc nL ret tgt ls st h Q) : rn l E d a b y cc nL ret pc ls (.inl x :: st) h Q := by
  intro p e R s m args below meth c mc ms Z C H locs cells slots arr hw hlo hc hs hl
  exact lv_tableIn C.1 C.2.1 hd h1 h2 ho ht (k p e R s m args below meth c mc ms Z C H locs cells slots arr hw hlo hc hs hl)
theorem rn_lcmp {x1 x2 : Int64} {v : Int32} (hv : lg_cmp x1 x2 = v) (hd : decode cc pc = .ok (.lcmp, 1)) (k : rn l E d a b y cc nL ret (pc + 1) ls (.inl v :: st) h Q) : rn l E d a b y cc nL ret pc ls (.inr (.inl x2) :: .inr (.inl x1) :: st) h Q := by
  intro p e R s m args below meth c mc ms Z C H locs cells slots arr hw hlo hc hs hl
  subst hv
  exact W.lcmp C.1 C.2.1 hd (k p e R s m args below meth c mc ms Z C H locs cells slots arr hw hlo hc hs hl)
theorem rn_ldc2 {index : Nat} {v : Int64} (hw2 : Cond.constantLong y.cls index v ∈ allw) (hd : decode cc pc = .ok (.ldc2_w index, 3)) (k : rn l E d a b y cc nL ret (pc + 3) ls (.inr (.inl v) :: st) h Q) : rn l E d a b y cc nL ret pc ls st h Q := by
  intro p e R s m args below meth c mc ms Z C H locs cells slots arr hw hlo hc hs hl
  exact lv_ldc2 C.1 C.2.1 C.2.2.2.1 (C.2.2.2.2.1 _ hw2) hd (k p e R s m args below meth c mc ms Z C H locs cells slots arr hw hlo hc hs hl)
theorem rn_ldc {index : Nat} {v : Int32} (hw2 : Cond.constant y.cls index v ∈ allw) (hd : decode cc pc = .ok (.ldc index, 2)) (k : rn l E d a b y cc nL ret (pc + 2) ls (.inl v :: st) h Q) : rn l E d a b y cc nL ret pc ls st h Q := by
  intro p e R s m args below meth c mc ms Z C H locs cells slots arr hw hlo hc hs hl
  exact lv_ldc C.1 C.2.1 C.2.2.2.1 (C.2.2.2.2.1 _ hw2) hd (k p e R s m args below meth c mc ms Z C H locs cells slots arr hw hlo hc hs hl)

theorem rn_ldcw {index : Nat} {v : Int32} (hw2 : Cond.constant y.cls index v ∈ allw) (hd : decode cc pc = .ok (.ldc_w index, 3)) (k : rn l E d a b y cc nL ret (pc + 3) ls (.inl v :: st) h Q) : rn l E d a b y cc nL ret pc ls st h Q := by
  intro p e R s m args below meth c mc ms Z C H locs cells slots arr hw hlo hc hs hl
  exact lv_ldcw C.1 C.2.1 C.2.2.2.1 (C.2.2.2.2.1 _ hw2) hd (k p e R s m args below meth c mc ms Z C H locs cells slots arr hw hlo hc hs hl)

end RN
end
section
theorem cl_in0 : ∀ w ∈ u_ws RX0 TX0 10, w ∈ lw_tbl := by decide +kernel
theorem cl_in1 : ∀ w ∈ u_ws RX1 TX1 3, w ∈ lw_tbl := by decide +kernel
theorem cl_in2 : ∀ w ∈ u_ws RX2 TX2 12, w ∈ lw_tbl := by decide +kernel
theorem cl_in3 : ∀ w ∈ u_ws RX3 TX3 8, w ∈ lw_tbl := by decide +kernel
theorem cl_in4 : ∀ w ∈ u_ws RX4 TX4 5, w ∈ lw_tbl := by decide +kernel
theorem cl_in5 : ∀ w ∈ u_ws RX5 TX5 6, w ∈ lw_tbl := by decide +kernel
theorem cl_in6 : ∀ w ∈ u_ws RX6 TX6 13, w ∈ lw_tbl := by decide +kernel
theorem u_good (C : String) (T : u_T) (N : Nat) : ∀ w ∈ u_ws C T N, goodWord w = true := by
  intro w hw
  obtain ⟨k, -, rfl⟩ := List.mem_map.mp hw
  unfold u_lay
  split <;> rfl
theorem cl_in {ci : Nat} (h : ci < 7) : ∀ w ∈ u_ws (clC ci) (clT ci) (clN ci), w ∈ allw := by
  intro w hw
  refine aw ?_ (u_good _ _ _ w hw)
  match ci, h with
  | 0, _ => exact cl_in0 w hw
  | 1, _ => exact cl_in1 w hw
  | 2, _ => exact cl_in2 w hw
  | 3, _ => exact cl_in3 w hw
  | 4, _ => exact cl_in4 w hw
  | 5, _ => exact cl_in5 w hw
  | 6, _ => exact cl_in6 w hw
theorem cl_ty {ci : Nat} (h : ci < 7) : ∀ k, k < clN ci → parseFieldDescriptor (clT ci k).2.2.1 = some (clY ci k) := by
  match ci, h with
  | 0, _ => exact tyX0_ok
  | 1, _ => exact tyX1_ok
  | 2, _ => exact tyX2_ok
  | 3, _ => exact tyX3_ok
  | 4, _ => exact tyX4_ok
  | 5, _ => exact tyX5_ok
  | 6, _ => exact tyX6_ok
theorem cl_nm {ci : Nat} (h : ci < 7) : ∀ a, a < clN ci → ∀ b, b < clN ci → a ≠ b → (clT ci a).2.1 ≠ (clT ci b).2.1 := by
  match ci, h with
  | 0, _ => exact nmX0
  | 1, _ => exact nmX1
  | 2, _ => exact nmX2
  | 3, _ => exact nmX3
  | 4, _ => exact nmX4
  | 5, _ => exact nmX5
  | 6, _ => exact nmX6
def lk (own : String) (idx ci k : Nat) : Prop := ci < 7 ∧ k < clN ci ∧ Cond.fieldLink own idx (clT ci k).1 (clT ci k).2.1 (clT ci k).2.2.1 ∈ allw
def up2 {α : Type} (D : Nat → Nat → α) (o k : Nat) (v : α) : Nat → Nat → α := fun i j => if i = o ∧ j = k then v else D i j
theorem up2_self {α : Type} (D : Nat → Nat → α) (o k : Nat) (v : α) : up2 D o k v o k = v := if_pos ⟨rfl, rfl⟩
theorem up2_ne {α : Type} (D : Nat → Nat → α) {o k i j : Nat} (v : α) (h : ¬ (i = o ∧ j = k)) : up2 D o k v i j = D i j := if_neg h
theorem up2_o {α : Type} (D : Nat → Nat → α) {o i : Nat} (k : Nat) (v : α) (h : i ≠ o) : up2 D o k v i = D i := by
  funext j
  exact up2_ne D v (fun z => h z.1)
theorem eR_o (E : eE) {o : Nat} (h : 17 ≤ o) : eR E o = .ref (ad E o) := by
  unfold eR eA
  rw [if_neg (by omega), if_neg (by omega)]; rfl
theorem ad_inj (E : eE) {x z : Nat} (hx : 17 ≤ x) (hz : 17 ≤ z) (h : ad E x = ad E z) : x = z := by
  unfold ad at h
  omega
theorem cAt.kept {E : eE} {o : Nat} {kl : Nat × Nat} {r : Nat → Nat} {dd : Nat → Int32} {H H' : Heap} (h : cAt E o kl r dd H) (hq : H'[ad E o]? = H[ad E o]?) : cAt E o kl r dd H' := by
  unfold cAt at h ⊢
  split
  · next hk =>
    rw [if_pos hk] at h
    exact h.kept hq
  · next hk =>
    rw [if_neg hk] at h
    rw [hq]; exact h
theorem cAt.lt {E : eE} {o : Nat} {kl : Nat × Nat} {r : Nat → Nat} {dd : Nat → Int32} {H : Heap} (h : cAt E o kl r dd H) : ad E o < H.size := by
  unfold cAt at h
  split at h
  · obtain ⟨cell, h, -⟩ := h
    exact (Array.getElem?_eq_some_iff.mp h).1
  · exact (Array.getElem?_eq_some_iff.mp h).1
theorem wd_set {E : eE} {n : Nat} {S : Nat → Nat × Nat} {Rr Rr' : Nat → Nat → Nat} {D D' : Nat → Nat → Int32} {o : Nat} {H H' : Heap} (hw : wd E (n, S, Rr, D) H) (h16 : 17 ≤ o) (z : H'.size = H.size) (oq : ∀ q : Nat, q ≠ ad E o → H'[q]? = H[q]?)
    (hc : cAt E o (S o) (Rr' o) (D' o) H') (hR : ∀ o', o' ≠ o → Rr' o' = Rr o') (hD : ∀ o', o' ≠ o → D' o' = D o') : wd E (n, S, Rr', D') H' := by
  obtain ⟨h1, h2, h3⟩ := hw
  refine ⟨by rw [z]; exact h1, fun q hq => ?_, fun o' ho hn => ?_⟩
  · rw [oq q (by unfold ad; omega)]
    exact h2 q hq
  · by_cases e : o' = o
    · subst e; exact hc
    · show cAt E o' (S o') (Rr' o') (D' o') H'
      rw [hR o' e, hD o' e]
      exact (h3 o' ho hn).kept (oq _ (fun e2 => e (ad_inj E ho h16 e2)))
section RH

variable {l : Launch} {E : eE} {d a b : Nat} {y : MethodName} {cc : ByteArray} {nL : Nat} {ret : Option FieldType} {pc : Nat} {ls : List (Nat × vV)} {st : List vV} {h : hP} {Q : Option vV → hP → Prop}
variable {n : Nat} {S : Nat → Nat × Nat} {Rr : Nat → Nat → Nat} {D : Nat → Nat → Int32}
theorem obj_at {ci o : Nat} {H : Heap} (hw : wd E (n, S, Rr, D) H) (h16 : 17 ≤ o) (hn : o < 17 + n) (hc : ci < 7) (hS : (S o).1 = ci) : t_OB (ad E o) (E.2.2.2.1.1 ci) (clN ci) (E.2.2.2.1.2 ci) H (fun k => if fT ci k = true then eR E (Rr o k) else .int (D o k)) := by
  have h := hw.2.2 o h16 hn
  unfold cAt at h
  rw [if_pos (by show (S o).1 < 7; rw [hS]; exact hc)] at h
  have h : t_OB (ad E o) (E.2.2.2.1.1 (S o).1) (clN (S o).1) (E.2.2.2.1.2 (S o).1) H (fun k => if fT (S o).1 k = true then eR E (Rr o k) else .int (D o k)) := h
  rw [hS] at h
  exact h
theorem arr_at {kd N o : Nat} {H : Heap} (hw : wd E (n, S, Rr, D) H) (h16 : 17 ≤ o) (hn : o < 17 + n) (hc : 10 ≤ kd) (hS : S o = (kd, N)) : H[ad E o]? = some (arrV (E.2.2.2.2 kd) N (fun j => if kd < 12 then .int (D o j) else eR E (Rr o j))) := by
  have h := hw.2.2 o h16 hn
  unfold cAt at h
  rw [if_neg (by show ¬ (S o).1 < 7; rw [hS]; show ¬ kd < 7; omega)] at h
  have h : H[ad E o]? = some (arrV (E.2.2.2.2 (S o).1) (S o).2 (fun j => if (S o).1 < 12 then .int (D o j) else eR E (Rr o j))) := h
  rw [hS] at h
  exact h
theorem rn_getf {idx ci k o : Nat} (hk : lk y.cls idx ci k) (h16 : 17 ≤ o) (hn : o < 17 + n) (hS : (S o).1 = ci) (hd : decode cc pc = .ok (.getfield idx, 3)) {v : vV} (hv : (if fT ci k = true then .inr (.inr (Rr o k)) else .inl (D o k)) = v)
    (kk : rn l E d a b y cc nL ret (pc + 3) ls (v :: st) (n, S, Rr, D) Q) : rn l E d a b y cc nL ret pc ls (.inr (.inr o) :: st) (n, S, Rr, D) Q := by
  intro p e R s m args below meth c mc ms Z C H locs cells slots arr hw hlo hc hs hl
  obtain ⟨hx, hb, hml, hown, hts, hlk, hnm, hSt, hdf, hdl, hrc, hrs, hZ⟩ := id C
  obtain ⟨hk1, hk2, hk3⟩ := hk
  obtain ⟨cell, q1, q2, q3, q4⟩ := obj_at hw h16 hn hk1 hS
  obtain ⟨hSl, hfc, kC, hkC, hkind⟩ := hSt.2.1 ci hk1
  obtain ⟨cf, kf, fi, f, hi, hsl⟩ := hSl k hk2
  have e0 : (Sum.inr (Sum.inr o) :: st : List vV).map (eV E) = .ref (ad E o) :: st.map (eV E) := by rw [← eR_o E h16]; rfl
  rw [e0]
  refine W.getf hx hb hown (hts _ hk3) hi (u_facts hfc hkC (u_lays hts (cl_in hk1) hk2) hi).1 q1 (by rw [q3]; exact fun h => by cases h) (v := eV E v) ?_ rfl rfl hd (kk p e R s m args below meth c mc ms Z C H locs cells slots arr hw hlo hc hs hl)
  rw [hsl, q4 k hk2, ← hv]
  show some (if fT ci k = true then eR E (Rr o k) else .int (D o k)) = _
  split <;> rfl
/-- an int field -/
theorem rn_geti {idx ci k o : Nat} (hk : lk y.cls idx ci k) (h16 : 17 ≤ o) (hn : o < 17 + n) (hS : (S o).1 = ci) (hf : fT ci k = false) (hd : decode cc pc = .ok (.getfield idx, 3))
    (kk : rn l E d a b y cc nL ret (pc + 3) ls (.inl (D o k) :: st) (n, S, Rr, D) Q) : rn l E d a b y cc nL ret pc ls (.inr (.inr o) :: st) (n, S, Rr, D) Q := rn_getf hk h16 hn hS hd (by rw [hf]; rfl) kk
/-- a field that holds a reference -/
theorem rn_getr {idx ci k o q : Nat} (hk : lk y.cls idx ci k) (h16 : 17 ≤ o) (hn : o < 17 + n) (hS : (S o).1 = ci) (hf : fT ci k = true) (hq : Rr o k = q) (hd : decode cc pc = .ok (.getfield idx, 3))
    (kk : rn l E d a b y cc nL ret (pc + 3) ls (.inr (.inr q) :: st) (n, S, Rr, D) Q) : rn l E d a b y cc nL ret pc ls (.inr (.inr o) :: st) (n, S, Rr, D) Q := rn_getf hk h16 hn hS hd (by rw [hf, hq]; rfl) kk
theorem cl_apart {s : State} {args : Array Value} (hts : ∀ w ∈ allw, w.before args s = true) (hSt : St E s) {ci : Nat} (hc : ci < 7) : ∀ x y, x < clN ci → y < clN ci → x ≠ y → (E.2.2.2.1.2 ci) x ≠ (E.2.2.2.1.2 ci) y := by
  intro x y hx hy hne
  obtain ⟨hS, -⟩ := hSt.2.1 ci hc
  obtain ⟨_, _, _, fa, hia, ea⟩ := hS x hx
  obtain ⟨_, _, _, fb, hib, eb⟩ := hS y hy
  rw [← ea, ← eb]
  refine u_apart (u_lays hts (cl_in hc) hx) (u_lays hts (cl_in hc) hy) hia hib ?_
  rw [(State.fieldFound?_type hia (cl_ty hc x hx)).1, (State.fieldFound?_type hib (cl_ty hc y hy)).1]
  exact cl_nm hc x hx y hy hne
theorem rn_puti {idx ci k o : Nat} {v : Int32} (hk : lk y.cls idx ci k) (h16 : 17 ≤ o) (hn : o < 17 + n) (hS : (S o).1 = ci) (hf : fT ci k = false) (hfin : (clT ci k).2.2.2 = false) (hnr : narrow (clY ci k) (.int v) = .int v) (hft : fits (clY ci k) (.int v) = true) (hd : decode cc pc = .ok (.putfield idx, 3))
    (kk : rn l E d a b y cc nL ret (pc + 3) ls st (n, S, Rr, up2 D o k v) Q) : rn l E d a b y cc nL ret pc ls (.inl v :: .inr (.inr o) :: st) (n, S, Rr, D) Q := by
  intro p e R s m args below meth c mc ms Z C H locs cells slots arr hw hlo hc hs hl
  obtain ⟨hx, hb, hml, hown, hts, hlk, hnm, hSt, hdf, hdl, hrc, hrs, hZ⟩ := id C
  obtain ⟨hk1, hk2, hk3⟩ := hk
  have hap := cl_apart hts hSt hk1
  obtain ⟨cell, q1, q2, q3, q4⟩ := obj_at hw h16 hn hk1 hS
  obtain ⟨hSl, hfc, kC, hkC, hkind⟩ := hSt.2.1 ci hk1
  obtain ⟨cf, kf, fi, f, hi, hsl⟩ := hSl k hk2
  have hlay := hts _ (cl_in hk1 _ (u_in_lay hk2))
  unfold u_lay at hlay
  rw [if_neg (by rw [hfin]; decide)] at hlay
  have hst := (u_facts hfc hkC (u_lays hts (cl_in hk1) hk2) hi).1
  have h6 := u_store hfc hkC hkind hlay hi (cl_ty hk1 k hk2) hnr hft
  have e0 : (Sum.inl v :: Sum.inr (Sum.inr o) :: st : List vV).map (eV E) = .int v :: .ref (ad E o) :: st.map (eV E) := by rw [← eR_o E h16]; rfl
  rw [e0]
  refine W.putK hx hb (f := f) ⟨hown, hts _ hk3, ⟨_, _, _, hi⟩, hst⟩ (by rw [q2]; exact h6) q1 q3 (by rw [hsl]; exact k2_hasslot (q4 k hk2)) rfl rfl hd fun H' e1 e2 e3 => ?_
  rw [hsl] at e1 ⊢
  refine kk p e R s m args below meth c mc ms Z C H' _ cells slots arr (wd_set hw h16 e2 e3 ?_ (fun _ _ => rfl) (fun o' h9 => up2_o D k v h9)) ?_ hc hs hl
  · unfold cAt
    rw [if_pos (by rw [hS]; exact hk1)]
    rw [hS]
    refine t_OB.to (V := updV (fun k => if fT ci k = true then eR E (Rr o k) else .int (D o k)) k (.int v)) ⟨_, e1, q2, q3, t_set q4 hap hk2 _⟩ (fun j _ => ?_)
    unfold updV
    by_cases hj : j = k
    · subst hj
      rw [if_pos rfl, if_neg (by rw [hf]; decide), up2_self]
    · rw [if_neg hj, up2_ne D v (fun z => hj z.2)]
  · intro q hq
    rcases List.mem_append.mp hq with h9 | h9
    · exact hlo q h9
    · rw [List.mem_singleton.mp h9]; show E.1 ≤ ad E o; unfold ad; omega
/-- a final field that holds a reference, in the constructor -/
theorem rn_putr {idx ci k o q : Nat} (hk : lk y.cls idx ci k) (h16 : 17 ≤ o) (hn : o < 17 + n) (hS : (S o).1 = ci) (hf : fT ci k = true) (hq : q ≠ 0) (hfin : (clT ci k).2.2.2 = true) (hin2 : y.name = "<init>") (hdecl : (clT ci k).1 = y.cls) (hnr : ∀ z, narrow (clY ci k) (.ref z) = .ref z) (hft : ∀ z, fits (clY ci k) (.ref z) = true) (hd : decode cc pc = .ok (.putfield idx, 3))
    (kk : rn l E d a b y cc nL ret (pc + 3) ls st (n, S, up2 Rr o k q, D) Q) : rn l E d a b y cc nL ret pc ls (.inr (.inr q) :: .inr (.inr o) :: st) (n, S, Rr, D) Q := by
  intro p e R s m args below meth c mc ms Z C H locs cells slots arr hw hlo hc hs hl
  obtain ⟨hx, hb, hml, hown, hts, hlk, hnm, hSt, hdf, hdl, hrc, hrs, hZ⟩ := id C
  obtain ⟨hk1, hk2, hk3⟩ := hk
  have hap := cl_apart hts hSt hk1
  obtain ⟨cell, q1, q2, q3, q4⟩ := obj_at hw h16 hn hk1 hS
  obtain ⟨hSl, hfc, kC, hkC, hkind⟩ := hSt.2.1 ci hk1
  obtain ⟨cf, kf, fi, f, hi, hsl⟩ := hSl k hk2
  have hlay := hts _ (cl_in hk1 _ (u_in_lay hk2))
  unfold u_lay at hlay
  rw [if_pos hfin] at hlay
  have hst := (u_facts hfc hkC (u_lays hts (cl_in hk1) hk2) hi).1
  obtain ⟨zr, hzr⟩ := eR_at E hq
  have hcf : m.cls = cf := by
    obtain ⟨_, _, c', _, _, _, -, -, hf', -, -, -, hown2, -⟩ := Cond.laysFinal_spec hlay
    have e1 : c' = cf := by have := hi.symm.trans hf'; simp at this; exact this.1.symm
    rw [hdecl] at hown2
    rw [← e1]; exact Option.some.inj (hown.symm.trans hown2)
  have h6 := u_fits hfc hkC hkind (Or.inr hlay) hi (cl_ty hk1 k hk2) (hnr zr) (hft zr)
  have e0 : (Sum.inr (Sum.inr q) :: Sum.inr (Sum.inr o) :: st : List vV).map (eV E) = .ref zr :: .ref (ad E o) :: st.map (eV E) := by rw [← eR_o E h16, ← hzr]; rfl
  rw [e0]
  refine W.putFinK hx hb hown (hts _ hk3) hi hst hcf (hnm.trans hin2) (by rw [q2]; exact h6) q1 q3 (by rw [hsl]; exact k2_hasslot (q4 k hk2)) rfl rfl hd fun H' e1 e2 e3 => ?_
  rw [hsl] at e1 ⊢
  refine kk p e R s m args below meth c mc ms Z C H' _ cells slots arr (wd_set hw h16 e2 e3 ?_ (fun o' h9 => up2_o Rr k q h9) (fun _ _ => rfl)) ?_ hc hs hl
  · unfold cAt
    rw [if_pos (by rw [hS]; exact hk1)]
    rw [hS]
    refine t_OB.to (V := updV (fun k => if fT ci k = true then eR E (Rr o k) else .int (D o k)) k (.ref zr)) ⟨_, e1, q2, q3, t_set q4 hap hk2 _⟩ (fun j _ => ?_)
    unfold updV
    by_cases hj : j = k
    · subst hj
      rw [if_pos rfl, if_pos hf, up2_self, hzr]
    · rw [if_neg hj, up2_ne Rr q (fun z => hj z.2)]
  · intro q hq
    rcases List.mem_append.mp hq with h9 | h9
    · exact hlo q h9
    · rw [List.mem_singleton.mp h9]; show E.1 ≤ ad E o; unfold ad; omega
theorem rn_iald {N o : Nat} {i : Int32} (h16 : 17 ≤ o) (hn : o < 17 + n) (hS : S o = (10, N)) (hi : vp_in i N) (hd : decode cc pc = .ok (.iaload, 1))
    (kk : rn l E d a b y cc nL ret (pc + 1) ls (.inl (D o i.toNatClampNeg) :: st) (n, S, Rr, D) Q) : rn l E d a b y cc nL ret pc ls (.inl i :: .inr (.inr o) :: st) (n, S, Rr, D) Q := by
  intro p e R s m args below meth c mc ms Z C H locs cells slots arr hw hlo hc hs hl
  obtain ⟨hx, hb, hml, hown, hts, hlk, hnm, hSt, hdf, hdl, hrc, hrs, hZ⟩ := id C
  have hA := arr_at hw h16 hn (by omega) hS
  have hlt : i.toNatClampNeg < N := Nat.not_le.mp fun q => hi (Or.inr q)
  have e0 : (Sum.inl i :: Sum.inr (Sum.inr o) :: st : List vV).map (eV E) = .int i :: .ref (ad E o) :: st.map (eV E) := by rw [← eR_o E h16]; rfl
  rw [e0]
  exact W.iald (v := .int (D o i.toNatClampNeg)) hx hb hA ((hSt.2.2.1 10 (by omega) (by omega)).1 N _) (fun q => by cases q) (by rw [arrV_size]; exact hi) (by rw [arrV_read _ _ hlt]; rfl) rfl rfl hd (kk p e R s m args below meth c mc ms Z C H locs cells slots arr hw hlo hc hs hl)
theorem rn_zald {N o : Nat} {i : Int32} (h16 : 17 ≤ o) (hn : o < 17 + n) (hS : S o = (11, N)) (hi : vp_in i N) (hd : decode cc pc = .ok (.baload, 1))
    (kk : rn l E d a b y cc nL ret (pc + 1) ls (.inl (D o i.toNatClampNeg) :: st) (n, S, Rr, D) Q) : rn l E d a b y cc nL ret pc ls (.inl i :: .inr (.inr o) :: st) (n, S, Rr, D) Q := by
  intro p e R s m args below meth c mc ms Z C H locs cells slots arr hw hlo hc hs hl
  obtain ⟨hx, hb, hml, hown, hts, hlk, hnm, hSt, hdf, hdl, hrc, hrs, hZ⟩ := id C
  have hA := arr_at hw h16 hn (by omega) hS
  have hlt : i.toNatClampNeg < N := Nat.not_le.mp fun q => hi (Or.inr q)
  have e0 : (Sum.inl i :: Sum.inr (Sum.inr o) :: st : List vV).map (eV E) = .int i :: .ref (ad E o) :: st.map (eV E) := by rw [← eR_o E h16]; rfl
  rw [e0]
  exact W.zald (v := .int (D o i.toNatClampNeg)) hx hb hA ((hSt.2.2.1 11 (by omega) (by omega)).1 N _) (fun q => by cases q) (by rw [arrV_size]; exact hi) (by rw [arrV_read _ _ hlt]; rfl) rfl rfl hd (kk p e R s m args below meth c mc ms Z C H locs cells slots arr hw hlo hc hs hl)
theorem rn_aald {kd N o q : Nat} {i : Int32} (h16 : 17 ≤ o) (hn : o < 17 + n) (hk1 : 12 ≤ kd) (hk2 : kd < 15) (hS : S o = (kd, N)) (hi : vp_in i N) (hq : Rr o i.toNatClampNeg = q) (hd : decode cc pc = .ok (.aaload, 1))
    (kk : rn l E d a b y cc nL ret (pc + 1) ls (.inr (.inr q) :: st) (n, S, Rr, D) Q) : rn l E d a b y cc nL ret pc ls (.inl i :: .inr (.inr o) :: st) (n, S, Rr, D) Q := by
  intro p e R s m args below meth c mc ms Z C H locs cells slots arr hw hlo hc hs hl
  obtain ⟨hx, hb, hml, hown, hts, hlk, hnm, hSt, hdf, hdl, hrc, hrs, hZ⟩ := id C
  have hA := arr_at hw h16 hn (by omega) hS
  have hlt : i.toNatClampNeg < N := Nat.not_le.mp fun q => hi (Or.inr q)
  have e0 : (Sum.inl i :: Sum.inr (Sum.inr o) :: st : List vV).map (eV E) = .int i :: .ref (ad E o) :: st.map (eV E) := by rw [← eR_o E h16]; rfl
  rw [e0]
  subst hq
  have hty : (aTy kd).isReference = true := by
    rcases (show kd = 12 ∨ kd = 13 ∨ kd = 14 by omega) with rfl | rfl | rfl <;> rfl
  exact W.aald (v := eR E (Rr o i.toNatClampNeg)) hx hb hA ((hSt.2.2.1 kd (by omega) (by omega)).1 N _) hty (fun q => by cases q) (by rw [arrV_size]; exact hi) (by rw [arrV_read _ _ hlt, if_neg (by omega)]) rfl rfl hd (kk p e R s m args below meth c mc ms Z C H locs cells slots arr hw hlo hc hs hl)
theorem rn_alen {kd N o : Nat} {v : Int32} (h16 : 17 ≤ o) (hn : o < 17 + n) (hk1 : 10 ≤ kd) (hk2 : kd < 15) (hS : S o = (kd, N)) (hv : Int32.ofNat N = v) (hd : decode cc pc = .ok (.arraylength, 1))
    (kk : rn l E d a b y cc nL ret (pc + 1) ls (.inl v :: st) (n, S, Rr, D) Q) : rn l E d a b y cc nL ret pc ls (.inr (.inr o) :: st) (n, S, Rr, D) Q := by
  intro p e R s m args below meth c mc ms Z C H locs cells slots arr hw hlo hc hs hl
  obtain ⟨hx, hb, hml, hown, hts, hlk, hnm, hSt, hdf, hdl, hrc, hrs, hZ⟩ := id C
  have hA := arr_at hw h16 hn (by omega) hS
  have e0 : (Sum.inr (Sum.inr o) :: st : List vV).map (eV E) = .ref (ad E o) :: st.map (eV E) := by rw [← eR_o E h16]; rfl
  rw [e0]
  exact W.alen (n := v) hx hb hA ((hSt.2.2.1 kd (by omega) (by omega)).1 N _) (by rw [arrV_size, ← hv] <;> rfl) rfl rfl hd (kk p e R s m args below meth c mc ms Z C H locs cells slots arr hw hlo hc hs hl)
theorem arr_put {kd N o j : Nat} {H' : Heap} {Rr' : Nat → Nat → Nat} {D' : Nat → Nat → Int32} {w : Value} (hc : 10 ≤ kd) (hS : S o = (kd, N)) (e : H'[ad E o]? = some ((arrV (E.2.2.2.2 kd) N (fun j => if kd < 12 then .int (D o j) else eR E (Rr o j))).setSlot j w))
    (he : updV (fun j => if kd < 12 then .int (D o j) else eR E (Rr o j)) j w = fun j => if kd < 12 then .int (D' o j) else eR E (Rr' o j)) : cAt E o (S o) (Rr' o) (D' o) H' := by
  unfold cAt
  rw [if_neg (by rw [hS]; show ¬ kd < 7; omega), e, arrV_store, he, hS]
theorem locs_add {locs : List Loc} {o k : Nat} (hlo : ∀ q ∈ locs, E.1 ≤ q.base) : ∀ q ∈ locs ++ [⟨ad E o, k⟩], E.1 ≤ q.base := by
  intro q hq
  rcases List.mem_append.mp hq with h9 | h9
  · exact hlo q h9
  · rw [List.mem_singleton.mp h9]; show E.1 ≤ ad E o; unfold ad; omega
theorem rn_iast {N o : Nat} {i v : Int32} (h16 : 17 ≤ o) (hn : o < 17 + n) (hS : S o = (10, N)) (hi : vp_in i N) (hd : decode cc pc = .ok (.iastore, 1))
    (kk : rn l E d a b y cc nL ret (pc + 1) ls st (n, S, Rr, up2 D o i.toNatClampNeg v) Q) : rn l E d a b y cc nL ret pc ls (.inl v :: .inl i :: .inr (.inr o) :: st) (n, S, Rr, D) Q := by
  intro p e R s m args below meth c mc ms Z C H locs cells slots arr hw hlo hc hs hl
  obtain ⟨hx, hb, hml, hown, hts, hlk, hnm, hSt, hdf, hdl, hrc, hrs, hZ⟩ := id C
  have hA := arr_at hw h16 hn (by omega) hS
  have e0 : (Sum.inl v :: Sum.inl i :: Sum.inr (Sum.inr o) :: st : List vV).map (eV E) = .int v :: .int i :: .ref (ad E o) :: st.map (eV E) := by rw [← eR_o E h16]; rfl
  rw [e0]
  refine W.iast hx hb hA ((hSt.2.2.1 10 (by omega) (by omega)).1 N _) (fun q => by cases q) (by rw [arrV_size]; exact hi) rfl rfl hd fun H' e1 e2 e3 => ?_
  refine kk p e R s m args below meth c mc ms Z C H' _ cells slots arr (wd_set hw h16 e2 e3 (arr_put (by omega) hS e1 ?_) (fun _ _ => rfl) (fun o' h9 => up2_o D _ v h9)) (locs_add hlo) hc hs hl
  funext j
  unfold updV
  by_cases hj : j = i.toNatClampNeg
  · rw [if_pos hj, hj]; simp [up2_self]
  · rw [if_neg hj, up2_ne D v (fun z => hj z.2)]
theorem rn_zast {N o : Nat} {i v : Int32} (h16 : 17 ≤ o) (hn : o < 17 + n) (hS : S o = (11, N)) (hi : vp_in i N) (hv : narrow .boolean (.int v) = .int v) (hd : decode cc pc = .ok (.bastore, 1))
    (kk : rn l E d a b y cc nL ret (pc + 1) ls st (n, S, Rr, up2 D o i.toNatClampNeg v) Q) : rn l E d a b y cc nL ret pc ls (.inl v :: .inl i :: .inr (.inr o) :: st) (n, S, Rr, D) Q := by
  intro p e R s m args below meth c mc ms Z C H locs cells slots arr hw hlo hc hs hl
  obtain ⟨hx, hb, hml, hown, hts, hlk, hnm, hSt, hdf, hdl, hrc, hrs, hZ⟩ := id C
  have hA := arr_at hw h16 hn (by omega) hS
  have e0 : (Sum.inl v :: Sum.inl i :: Sum.inr (Sum.inr o) :: st : List vV).map (eV E) = .int v :: .int i :: .ref (ad E o) :: st.map (eV E) := by rw [← eR_o E h16]; rfl
  rw [e0]
  refine W.zast hx hb hA ((hSt.2.2.1 11 (by omega) (by omega)).1 N _) (fun q => by cases q) (by rw [arrV_size]; exact hi) rfl rfl hd fun H' e1 e2 e3 => ?_
  rw [hv] at e1
  refine kk p e R s m args below meth c mc ms Z C H' _ cells slots arr (wd_set hw h16 e2 e3 (arr_put (by omega) hS e1 ?_) (fun _ _ => rfl) (fun o' h9 => up2_o D _ v h9)) (locs_add hlo) hc hs hl
  funext j
  unfold updV
  by_cases hj : j = i.toNatClampNeg
  · rw [if_pos hj, hj]; simp [up2_self]
  · rw [if_neg hj, up2_ne D v (fun z => hj z.2)]
def aCl (kd : Nat) : Nat := match kd with | 12 => 4 | 13 => 2 | _ => 0
theorem rn_aast {kd N o q : Nat} {i : Int32} (h16 : 17 ≤ o) (hn : o < 17 + n) (hk1 : 12 ≤ kd) (hk2 : kd < 15) (hS : S o = (kd, N)) (hi : vp_in i N) (hq1 : 17 ≤ q) (hq2 : q < 17 + n) (hq3 : (S q).1 = aCl kd) (hd : decode cc pc = .ok (.aastore, 1))
    (kk : rn l E d a b y cc nL ret (pc + 1) ls st (n, S, up2 Rr o i.toNatClampNeg q, D) Q) : rn l E d a b y cc nL ret pc ls (.inr (.inr q) :: .inl i :: .inr (.inr o) :: st) (n, S, Rr, D) Q := by
  intro p e R s m args below meth c mc ms Z C H locs cells slots arr hw hlo hc hs hl
  obtain ⟨hx, hb, hml, hown, hts, hlk, hnm, hSt, hdf, hdl, hrc, hrs, hZ⟩ := id C
  have hA := arr_at hw h16 hn (by omega) hS
  have e0 : (Sum.inr (Sum.inr q) :: Sum.inl i :: Sum.inr (Sum.inr o) :: st : List vV).map (eV E) = .ref (ad E q) :: .int i :: .ref (ad E o) :: st.map (eV E) := by rw [← eR_o E h16, ← eR_o E hq1]; rfl
  rw [e0]
  have hc7 : aCl kd < 7 := by
    rcases (show kd = 12 ∨ kd = 13 ∨ kd = 14 by omega) with rfl | rfl | rfl <;> decide
  have haty : aTy kd = .object (clC (aCl kd)) := by
    rcases (show kd = 12 ∨ kd = 13 ∨ kd = 14 by omega) with rfl | rfl | rfl <;> rfl
  obtain ⟨cellV, g1, g2, g3, -⟩ := obj_at hw hq1 hq2 hc7 hq3
  have hcls := (hSt.2.1 _ hc7).2
  have hRA := (hSt.2.2.1 kd (by omega) (by omega)).2
  rw [haty] at hRA
  obtain ⟨kA, comp, k1, k2, k3, -⟩ := hRA
  have hcomp : comp = E.2.2.2.1.1 (aCl kd) := Option.some.inj (k3.symm.trans hcls.1)
  subst hcomp
  obtain ⟨kC, hkC, -⟩ := id hcls.2
  refine W.aast hx hb hA (fun q h => by cases h) (fun h => by cases h) k1 k2 rfl hkC ⟨fun z => hi (Or.inl z), by rw [arrV_size]; exact Nat.not_le.mp fun z => hi (Or.inr z)⟩ g1 (fun q h => by rw [g3] at h; cases h) (by rw [g2]; exact hkC) (by rw [g2]; exact va_assign hcls) rfl rfl hd fun H' e1 e2 e3 => ?_
  refine kk p e R s m args below meth c mc ms Z C H' _ cells slots arr (wd_set hw h16 e2 e3 (arr_put (by omega) hS e1 ?_) (fun o' h9 => up2_o Rr _ q h9) (fun _ _ => rfl)) (locs_add hlo) hc hs hl
  funext j
  unfold updV
  by_cases hj : j = i.toNatClampNeg
  · rw [if_pos hj, hj, if_neg (by omega), up2_self, eR_o E hq1]
  · rw [if_neg hj, up2_ne Rr q (fun z => hj z.2)]

end RH
end
section
/-! calls, makings, constants -/
def vcat (v : vV) : Nat := match v with | .inr (.inl _) => 2 | _ => 1
theorem cat_sum (E : eE) (rest : List vV) : ((rest.map (eV E)).map fun v => v.category).sum = (rest.map vcat).sum := by
  induction rest with
  | nil => rfl
  | cons v vs ih =>
    simp only [List.map_cons, List.sum_cons, ih]
    congr 1
    rcases v with x | x | k
    · rfl
    · rfl
    · exact eR_cat E k
def lkM (y' : MethodName) (cc' : ByteArray) (nL' : Nat) (ret' : Option FieldType) (k : Nat) : Prop :=
  Cond.initialized y'.cls ∈ allw ∧ Cond.code y' cc' nL' ret' ∈ allw ∧ (y'.cls ≠ "java/lang/invoke/MethodHandle" ∧ y'.cls ≠ "java/lang/invoke/VarHandle" ∧ (parseMethodDescriptor y'.desc).map (fun d => d.parameters.length) = some k) ∧ nL' ≤ 18
def lkV (own : String) (idx : Nat) (y' : MethodName) (cc' : ByteArray) (nL' : Nat) (ret' : Option FieldType) (k : Nat) : Prop :=
  lkM y' cc' nL' ret' k ∧ Cond.methodLink own idx y' ∈ allw ∧ Cond.instanceMethod y' ∈ allw ∧ Cond.selects y'.cls y' y' ∈ allw
def lkS (own : String) (idx : Nat) (y' : MethodName) (cc' : ByteArray) (nL' : Nat) (ret' : Option FieldType) (k : Nat) : Prop :=
  lkM y' cc' nL' ret' k ∧ Cond.methodLink own idx y' ∈ allw ∧ Cond.static y' ∈ allw
def lkSN (own : String) (idx : Nat) (y' : MethodName) (cc' : ByteArray) (nL' : Nat) (ret' : Option FieldType) (k : Nat) : Prop :=
  lkM y' cc' nL' ret' k ∧ Cond.methodLinkNest own idx y' RX5 ∈ nestW ∧ Cond.static y' ∈ allw
def lkI (own : String) (idx : Nat) (y' : MethodName) (cc' : ByteArray) (nL' : Nat) (k : Nat) : Prop :=
  lkM y' cc' nL' none k ∧ Cond.methodLink own idx y' ∈ allw ∧ Cond.instanceMethod y' ∈ allw ∧ y'.name = "<init>"
def lkIN (own : String) (idx : Nat) (y' : MethodName) (cc' : ByteArray) (nL' : Nat) (k : Nat) : Prop :=
  lkM y' cc' nL' none k ∧ Cond.methodLinkNest own idx y' RX5 ∈ nestW ∧ Cond.instanceMethod y' ∈ allw ∧ y'.name = "<init>"
def rcv (E : eE) (h : hP) (o : Nat) (Cn : String) : Prop := ∀ (s : State) (H : Heap), St E s → wd E h H → ∃ (q : Nat) (cellB : Cell), eR E o = .ref q ∧ H[q]? = some cellB ∧ cellB.vm.isStatics = false ∧ s.vm.findClass Cn = some cellB.cls
section RC

variable {l : Launch} {E : eE} {d a b : Nat} {y : MethodName} {cc : ByteArray} {nL : Nat} {ret : Option FieldType} {pc : Nat} {ls : List (Nat × vV)} {st : List vV} {h : hP} {Q : Option vV → hP → Prop}
variable {n : Nat} {S : Nat → Nat × Nat} {Rr : Nat → Nat → Nat} {D : Nat → Nat → Int32}
theorem rcv_own {ci o : Nat} (h16 : 17 ≤ o) (hn : o < 17 + n) (hc : ci < 7) (hS : (S o).1 = ci) : rcv E (n, S, Rr, D) o (clC ci) := by
  intro s H hSt hw
  obtain ⟨cell, q1, q2, q3, -⟩ := obj_at hw h16 hn hc hS
  exact ⟨ad E o, cell, eR_o E h16, q1, by rw [q3]; rfl, by rw [q2]; exact (hSt.2.1 ci hc).2.1⟩
theorem rcv_str {o : Nat} (h4 : 4 ≤ o) (h10 : o < 10) : rcv E h o "java/lang/String" := by
  intro s H hSt hw
  obtain ⟨h0, -, -, -, -, -, -, h7, -⟩ := hSt
  obtain ⟨cell, q1, q2, q3, q4⟩ := (h7.1 (o - 4) (by omega)).1
  have e : 4 + (o - 4) = o := by omega
  dsimp only at q1 q4
  rw [e] at q1 q4
  refine ⟨E.2.2.1 o, cell, ?_, ?_, q2, q3⟩
  · unfold eR eA
    rw [if_neg (by omega), if_pos (by omega)]; rfl
  · have hz : E.2.2.1 o < E.1 := Nat.not_le.mp q4
    rw [hw.2.1 _ hz]; exact q1
def Pc9 (E : eE) (as : List vV) (h : hP) : Array Value → State → Prop := fun v U => v = (as.map (eV E)).toArray ∧ wd E h U.heap ∧ St E U
theorem Pc9_blind (as : List vV) (h : hP) : FrameBlind (Pc9 E as h) := fun v U g mk q => ⟨q.1, q.2.1, St.same (u := U) (U := U.calling g mk v) rfl q.2.2⟩
theorem call_fin {p : Program} {e : Env} {R : Room} {s : State} {m : MethodId} {args : Array Value} {below : List Frame} {meth : Method} {c : Code} {mc ms : Nat} {Z : State → Prop} {H : Heap} {locs : List Loc} {cells slots a1 b1 : Nat} {arr : Array Slot} {st0 : List Value} {rest : List vV} {Q1 : Option vV → hP → Prop}
    (C : cx l E d y cc nL ret Q p e R s m args below meth c mc ms Z)
    (hr : va_Run p l e R s m args below meth c H locs cells slots a1 b1 (F0 m pc arr st0) (rest.map (eV E)) (fun _ o t => ∃ r h', Q1 r h' ∧ o = .returned (r.map (eV E)) ∧ wd E h' t.heap) (bA E))
    (k : ∀ r h1, Q1 r h1 → rn l E d a b y cc nL ret (pc + 3) ls (r.toList ++ rest) h1 Q) (hlo : ∀ q ∈ locs, E.1 ≤ q.base) (hc : cells + (a1 + a) ≤ mc) (hs : slots + (b1 + b) ≤ ms) (hl : lv_has arr nL (eL E ls)) : W p l e R s m args below meth c H locs cells slots Z (F0 m pc arr st0) := by
  intro T hT X
  obtain ⟨v, st₀, t, T', L, h0, X', hL, e1, e2, ⟨r, h1, hq, ho, hw1⟩, st⟩ := hr T hT X
  injection ho with hv
  subst hv
  have k1 := k r h1 hq p e R s m args below meth c mc ms Z C T'.heap (locs ++ L) (cells + a1) (slots + b1) arr (by rw [e1]; exact hw1) (fun q hq => (List.mem_append.mp hq).elim (hlo q) (fun h => hL q h)) (by omega) (by omega) hl
  rw [← rS_map] at k1
  obtain ⟨t2, q1, q2⟩ := k1 T' rfl X'
  exact ⟨t2, st t2 q1, q2⟩
theorem callB9 {s : State} {args : Array Value} {R : Room} {own : String} {idx d' a1 b1 k : Nat} {y' : MethodName} {cc' : ByteArray} {nL' : Nat} {ret' : Option FieldType} (hts : ∀ w ∈ allw, w.before args s = true) (hM : lkM y' cc' nL' ret' k) (hl : Cond.methodLink own idx y' ∈ allw) (hdf : d' + 1 ≤ R.frames) (hdl : 37 * (d' + 1) ≤ R.locals) :
    CallB R s args own idx y' cc' nL' ret' (.code y' cc' nL' ret' :: allw) { frames := d', cells := a1, slots := b1, locals := 37 * d' } a1 b1 k := by
  obtain ⟨h1, h2, h3, h4⟩ := hM
  exact callB_of k hts (allw_good h2) rfl rfl rfl (hts _ h1) (hts _ hl) h3 ⟨hdf, by show 8 + (nL' + 11) + 37 * d' ≤ R.locals; omega⟩
theorem rn_callV {idx a1 b1 o k : Nat} {y' : MethodName} {cc' : ByteArray} {nL' : Nat} {ret' : Option FieldType} {as rest st0 : List vV} {Q1 : Option vV → hP → Prop} (hk : lkV y.cls idx y' cc' nL' ret' k) (hd : decode cc pc = .ok (.invokevirtual idx, 3)) (hrc' : rcv E h o y'.cls) (hst : st0 = as.reverse ++ .inr (.inr o) :: rest) (hn : as.length = k) (hW : (rest.map vcat).sum ≤ 8)
    (hM : ct l E d a1 b1 y' cc' nL' ret' (.inr (.inr o) :: as) h Q1) (k : ∀ r h1, Q1 r h1 → rn l E (d + 1) a b y cc nL ret (pc + 3) ls (r.toList ++ rest) h1 Q) : rn l E (d + 1) (a1 + a) (b1 + b) y cc nL ret pc ls st0 h Q := by
  intro p e R s m args below meth c mc ms Z C H locs cells slots arr hw hlo hc hs hl
  obtain ⟨hx, hb, hml, hown, hts, hlk, hnm, hSt, hdf, hdl, hrc, hrs, hZ⟩ := id C
  obtain ⟨hk1, hk2, hk3, hk4⟩ := hk
  obtain ⟨q, cellB, g1, g2, g3, g4⟩ := hrc' s H hSt hw
  subst hst
  refine call_fin C (va_runV (C := y'.cls) (b := q) (As := as.map (eV E)) (rest := rest.map (eV E)) (g := F0 m pc arr _) ⟨hx, hb, hml, hown, hts⟩ hM ⟨callB9 hts hk1 hk2 hdf hdl, hts _ hk3, hts _ hk4⟩ ⟨Pc9_blind (.inr (.inr o) :: as) h, ⟨cellB, g2, g3, g4⟩, fun U hU hW' => ⟨?_, by rw [hU]; exact hw, hSt.warm hW'⟩⟩ rfl (by rw [List.length_map]; exact hn) hl.1 ?_ (lv_room (by rw [cat_sum]; exact hW)) hd ⟨by omega, by omega⟩) k hlo hc hs hl
  · show (Value.ref q :: as.map (eV E)).toArray = ((eR E o) :: as.map (eV E)).toArray
    rw [g1]
  · show List.map (eV E) _ = _
    rw [List.map_append, List.map_reverse, List.map_cons, show eV E (.inr (.inr o)) = .ref q from g1]
theorem rn_callS {idx a1 b1 k : Nat} {y' : MethodName} {cc' : ByteArray} {nL' : Nat} {ret' : Option FieldType} {as rest st0 : List vV} {Q1 : Option vV → hP → Prop} (hk : lkS y.cls idx y' cc' nL' ret' k) (hd : decode cc pc = .ok (.invokestatic idx, 3)) (hst : st0 = as.reverse ++ rest) (hn : as.length = k) (hW : (rest.map vcat).sum ≤ 8)
    (hM : ct l E d a1 b1 y' cc' nL' ret' as h Q1) (k : ∀ r h1, Q1 r h1 → rn l E (d + 1) a b y cc nL ret (pc + 3) ls (r.toList ++ rest) h1 Q) : rn l E (d + 1) (a1 + a) (b1 + b) y cc nL ret pc ls st0 h Q := by
  intro p e R s m args below meth c mc ms Z C H locs cells slots arr hw hlo hc hs hl
  obtain ⟨hx, hb, hml, hown, hts, hlk, hnm, hSt, hdf, hdl, hrc, hrs, hZ⟩ := id C
  obtain ⟨hk1, hk2, hk3⟩ := hk
  subst hst
  refine call_fin C (va_runS (As := as.map (eV E)) (rest := rest.map (eV E)) (g := F0 m pc arr _) ⟨hx, hb, hml, hown, hts⟩ hM ⟨callB9 hts hk1 hk2 hdf hdl, hts _ hk3⟩ ⟨Pc9_blind as h, fun U hU hW' => ⟨rfl, by rw [hU]; exact hw, hSt.warm hW'⟩⟩ rfl (by rw [List.length_map]; exact hn) hl.1 ?_ (lv_room (by rw [cat_sum]; exact hW)) hd ⟨by omega, by omega⟩) k hlo hc hs hl
  show List.map (eV E) _ = _
  rw [List.map_append, List.map_reverse]
theorem rn_callI {idx a1 b1 o k : Nat} {y' : MethodName} {cc' : ByteArray} {nL' : Nat} {as rest st0 : List vV} {Q1 : Option vV → hP → Prop} (hk : lkI y.cls idx y' cc' nL' k) (hd : decode cc pc = .ok (.invokespecial idx, 3)) (ho : o ≠ 0) (hst : st0 = as.reverse ++ .inr (.inr o) :: rest) (hn : as.length = k) (hW : (rest.map vcat).sum ≤ 8)
    (hM : ct l E d a1 b1 y' cc' nL' none (.inr (.inr o) :: as) h Q1) (k : ∀ r h1, Q1 r h1 → rn l E (d + 1) a b y cc nL ret (pc + 3) ls (r.toList ++ rest) h1 Q) : rn l E (d + 1) (a1 + a) (b1 + b) y cc nL ret pc ls st0 h Q := by
  intro p e R s m args below meth c mc ms Z C H locs cells slots arr hw hlo hc hs hl
  obtain ⟨hx, hb, hml, hown, hts, hlk, hnm, hSt, hdf, hdl, hrc, hrs, hZ⟩ := id C
  obtain ⟨hk1, hk2, hk3, hk4⟩ := hk
  obtain ⟨q, g1⟩ := eR_at E ho
  subst hst
  refine call_fin C (va_runI (b := q) (As := as.map (eV E)) (rest := rest.map (eV E)) (g := F0 m pc arr _) ⟨hx, hb, hml, hown, hts⟩ hM ⟨callB9 hts hk1 hk2 hdf hdl, hk4, hts _ hk3⟩ ⟨Pc9_blind (.inr (.inr o) :: as) h, fun U hU hW' => ⟨?_, by rw [hU]; exact hw, hSt.warm hW'⟩⟩ rfl (by rw [List.length_map]; exact hn) hl.1 ?_ (lv_room (by rw [cat_sum]; exact hW)) hd ⟨by omega, by omega⟩) k hlo hc hs hl
  · show (Value.ref q :: as.map (eV E)).toArray = ((eR E o) :: as.map (eV E)).toArray
    rw [g1]
  · show List.map (eV E) _ = _
    rw [List.map_append, List.map_reverse, List.map_cons, show eV E (.inr (.inr o)) = .ref q from g1]
theorem callN9 {s : State} {args : Array Value} {R : Room} {own : String} {idx d' a1 b1 k : Nat} {y' : MethodName} {cc' : ByteArray} {nL' : Nat} {ret' : Option FieldType} (hSt : St E s) (hts : ∀ w ∈ allw, w.before args s = true) (hM : lkM y' cc' nL' ret' k) (hl : Cond.methodLinkNest own idx y' RX5 ∈ nestW) (hdf : d' + 1 ≤ R.frames) (hdl : 37 * (d' + 1) ≤ R.locals) :
    va_CN R s args own idx y' RX5 cc' nL' ret' (.code y' cc' nL' ret' :: allw) { frames := d', cells := a1, slots := b1, locals := 37 * d' } a1 b1 k := by
  obtain ⟨h1, h2, h3, h4⟩ := hM
  exact va_cnB k hts (allw_good h2) rfl rfl rfl (hSt.2.2.2.1 _ hl) (hts _ h1) h3 ⟨hdf, by show 8 + (nL' + 11) + 37 * d' ≤ R.locals; omega⟩
theorem rn_callSN {idx a1 b1 k : Nat} {y' : MethodName} {cc' : ByteArray} {nL' : Nat} {ret' : Option FieldType} {as rest st0 : List vV} {Q1 : Option vV → hP → Prop} (hk : lkSN y.cls idx y' cc' nL' ret' k) (hd : decode cc pc = .ok (.invokestatic idx, 3)) (hst : st0 = as.reverse ++ rest) (hn : as.length = k) (hW : (rest.map vcat).sum ≤ 8)
    (hM : ct l E d a1 b1 y' cc' nL' ret' as h Q1) (k : ∀ r h1, Q1 r h1 → rn l E (d + 1) a b y cc nL ret (pc + 3) ls (r.toList ++ rest) h1 Q) : rn l E (d + 1) (a1 + a) (b1 + b) y cc nL ret pc ls st0 h Q := by
  intro p e R s m args below meth c mc ms Z C H locs cells slots arr hw hlo hc hs hl
  obtain ⟨hx, hb, hml, hown, hts, hlk, hnm, hSt, hdf, hdl, hrc, hrs, hZ⟩ := id C
  obtain ⟨hk1, hk2, hk3⟩ := hk
  subst hst
  refine call_fin C (va_runSN (As := as.map (eV E)) (rest := rest.map (eV E)) (g := F0 m pc arr _) ⟨hx, hb, hml, hown, hts⟩ hM ⟨callN9 hSt hts hk1 hk2 hdf hdl, hts _ hk3, trivial⟩ ⟨Pc9_blind as h, fun U hU hW' => ⟨rfl, by rw [hU]; exact hw, hSt.warm hW'⟩⟩ rfl (by rw [List.length_map]; exact hn) hl.1 ?_ (lv_room (by rw [cat_sum]; exact hW)) hd ⟨by omega, by omega⟩) k hlo hc hs hl
  show List.map (eV E) _ = _
  rw [List.map_append, List.map_reverse]
theorem rn_callIN {idx a1 b1 o k : Nat} {y' : MethodName} {cc' : ByteArray} {nL' : Nat} {as rest st0 : List vV} {Q1 : Option vV → hP → Prop} (hk : lkIN y.cls idx y' cc' nL' k) (hd : decode cc pc = .ok (.invokespecial idx, 3)) (ho : o ≠ 0) (hst : st0 = as.reverse ++ .inr (.inr o) :: rest) (hn : as.length = k) (hW : (rest.map vcat).sum ≤ 8)
    (hM : ct l E d a1 b1 y' cc' nL' none (.inr (.inr o) :: as) h Q1) (k : ∀ r h1, Q1 r h1 → rn l E (d + 1) a b y cc nL ret (pc + 3) ls (r.toList ++ rest) h1 Q) : rn l E (d + 1) (a1 + a) (b1 + b) y cc nL ret pc ls st0 h Q := by
  intro p e R s m args below meth c mc ms Z C H locs cells slots arr hw hlo hc hs hl
  obtain ⟨hx, hb, hml, hown, hts, hlk, hnm, hSt, hdf, hdl, hrc, hrs, hZ⟩ := id C
  obtain ⟨hk1, hk2, hk3, hk4⟩ := hk
  obtain ⟨q, g1⟩ := eR_at E ho
  subst hst
  refine call_fin C (va_runIN (b := q) (As := as.map (eV E)) (rest := rest.map (eV E)) (g := F0 m pc arr _) ⟨hx, hb, hml, hown, hts⟩ hM ⟨callN9 hSt hts hk1 hk2 hdf hdl, hk4, hts _ hk3⟩ ⟨Pc9_blind (.inr (.inr o) :: as) h, fun U hU hW' => ⟨?_, by rw [hU]; exact hw, hSt.warm hW'⟩⟩ rfl (by rw [List.length_map]; exact hn) hl.1 ?_ (lv_room (by rw [cat_sum]; exact hW)) hd ⟨by omega, by omega⟩) k hlo hc hs hl
  · show (Value.ref q :: as.map (eV E)).toArray = ((eR E o) :: as.map (eV E)).toArray
    rw [g1]
  · show List.map (eV E) _ = _
    rw [List.map_append, List.map_reverse, List.map_cons, show eV E (.inr (.inr o)) = .ref q from g1]
theorem rn_objInit {idx o : Nat} (ho : o ≠ 0) (h1 : Cond.methodLink y.cls idx objectInit ∈ allw) (h2 : Cond.instanceMethod objectInit ∈ allw) (h3 : Cond.code objectInit ⟨#[0xb1]⟩ 1 none ∈ allw) (hd : decode cc pc = .ok (.invokespecial idx, 3)) (hW : (st.map vcat).sum ≤ 8)
    (k : rn l E (d + 1) a b y cc nL ret (pc + 3) ls st h Q) : rn l E (d + 1) a b y cc nL ret pc ls (.inr (.inr o) :: st) h Q := by
  intro p e R s m args below meth c mc ms Z C H locs cells slots arr hw hlo hc hs hl
  obtain ⟨hx, hb, hml, hown, hts, hlk, hnm, hSt, hdf, hdl, hrc, hrs, hZ⟩ := id C
  obtain ⟨q, g1⟩ := eR_at E ho
  have e0 : (Sum.inr (Sum.inr o) :: st : List vV).map (eV E) = .ref q :: st.map (eV E) := by rw [← g1]; rfl
  rw [e0]
  refine W.objInit hx hb hown (hts _ h1) (hts _ h2) (hts _ h3) rfl (by rw [hml]; exact hl.1) rfl hd (by omega) ?_ (k p e R s m args below meth c mc ms Z C H locs cells slots arr hw hlo hc hs hl)
  rw [cat_sum]
  show 2 * 0 + _ + 12 ≤ _
  omega
theorem cl_def {ci : Nat} (hc : ci < 7) : ∀ k, k < clN ci → defaultValue (clY ci k) = if fT ci k = true then Value.null else .int 0 := by
  match ci, hc with
  | 0, _ => intro k hk; match k, hk with
    | 0, _ => rfl
    | 1, _ => rfl
    | 2, _ => rfl
    | 3, _ => rfl
    | 4, _ => rfl
    | 5, _ => rfl
    | 6, _ => rfl
    | 7, _ => rfl
    | 8, _ => rfl
    | 9, _ => rfl
  | 1, _ => intro k hk; match k, hk with
    | 0, _ => rfl
    | 1, _ => rfl
    | 2, _ => rfl
  | 2, _ => intro k hk; match k, hk with
    | 0, _ => rfl
    | 1, _ => rfl
    | 2, _ => rfl
    | 3, _ => rfl
    | 4, _ => rfl
    | 5, _ => rfl
    | 6, _ => rfl
    | 7, _ => rfl
    | 8, _ => rfl
    | 9, _ => rfl
    | 10, _ => rfl
    | 11, _ => rfl
  | 3, _ => intro k hk; match k, hk with
    | 0, _ => rfl
    | 1, _ => rfl
    | 2, _ => rfl
    | 3, _ => rfl
    | 4, _ => rfl
    | 5, _ => rfl
    | 6, _ => rfl
    | 7, _ => rfl
  | 4, _ => intro k hk; match k, hk with
    | 0, _ => rfl
    | 1, _ => rfl
    | 2, _ => rfl
    | 3, _ => rfl
    | 4, _ => rfl
  | 5, _ => intro k hk; match k, hk with
    | 0, _ => rfl
    | 1, _ => rfl
    | 2, _ => rfl
    | 3, _ => rfl
    | 4, _ => rfl
    | 5, _ => rfl
  | 6, _ => intro k hk; match k, hk with
    | 0, _ => rfl
    | 1, _ => rfl
    | 2, _ => rfl
    | 3, _ => rfl
    | 4, _ => rfl
    | 5, _ => rfl
    | 6, _ => rfl
    | 7, _ => rfl
    | 8, _ => rfl
    | 9, _ => rfl
    | 10, _ => rfl
    | 11, _ => rfl
    | 12, _ => rfl
theorem up_self {α : Type} (f : Nat → α) (k : Nat) (v : α) : va_up f k v k = v := if_pos rfl
theorem up_ne {α : Type} (f : Nat → α) {k j : Nat} (v : α) (h : j ≠ k) : va_up f k v j = f j := if_neg h
theorem wd_push {kl : Nat × Nat} {H H' : Heap} (hw : wd E (n, S, Rr, D) H) (z : H'.size = H.size + 1) (oq : ∀ q : Nat, q < H.size → H'[q]? = H[q]?) (hc : cAt E (17 + n) kl (fun _ => 0) (fun _ => 0) H') : wd E (n + 1, va_up S (17 + n) kl, va_up Rr (17 + n) (fun _ => 0), va_up D (17 + n) (fun _ => 0)) H' := by
  obtain ⟨h1, h2, h3⟩ := hw
  have h1 : H.size = E.1 + n := h1
  refine ⟨by rw [z, h1]; show _ = E.1 + (n + 1); omega, fun q hq => ?_, fun o ho hn => ?_⟩
  · rw [oq q (by omega)]; exact h2 q hq
  · show cAt E o (va_up S (17 + n) kl o) (va_up Rr (17 + n) (fun _ => 0) o) (va_up D (17 + n) (fun _ => 0) o) H'
    have hn : o < 17 + (n + 1) := hn
    by_cases e : o = 17 + n
    · subst e
      rw [up_self, up_self, up_self]; exact hc
    · rw [up_ne _ _ e, up_ne _ _ e, up_ne _ _ e]
      exact (h3 o ho (by show o < 17 + n; omega)).kept (oq _ (h3 o ho (by show o < 17 + n; omega)).lt)
theorem ad_new {H : Heap} (hw : wd E (n, S, Rr, D) H) : ad E (17 + n) = H.size := by
  rw [hw.1]; unfold ad
  show _ = E.1 + n
  omega
theorem rn_new {idx ci : Nat} (hc7 : ci < 7) (h1 : Cond.classLink y.cls idx (clC ci) ∈ allw) (h2 : Cond.instantiable (clC ci) (clN ci) ∈ allw) (h3 : Cond.initialized (clC ci) ∈ allw) (hd : decode cc pc = .ok (.new idx, 3))
    (k : rn l E d a b y cc nL ret (pc + 3) ls (.inr (.inr (17 + n)) :: st) (n + 1, va_up S (17 + n) (ci, 0), va_up Rr (17 + n) (fun _ => 0), va_up D (17 + n) (fun _ => 0)) Q) : rn l E d (1 + a) (clN ci + b) y cc nL ret pc ls st (n, S, Rr, D) Q := by
  intro p e R s m args below meth c mc ms Z C H locs cells slots arr hw hlo hc hs hl
  obtain ⟨hx, hb, hml, hown, hts, hlk, hnm, hSt, hdf, hdl, hrc, hrs, hZ⟩ := id C
  have hKn := hSt.2.1 ci hc7
  refine W.newcK (h := H.size) hx hb hown (hts _ h1) (hts _ h2) (hts _ h3) rfl hd (by omega) (by omega) hKn.2.1 rfl fun H1 kC hkC e1 z1 o1 => ?_
  have hcell : cAt E (17 + n) (ci, 0) (fun _ => 0) (fun _ => 0) H1 := by
    unfold cAt
    rw [if_pos hc7, ad_new hw]
    refine (u_born (clY ci) hts (cl_in hc7) hKn hkC e1 (cl_ty hc7)).to (fun j hj => ?_)
    rw [cl_def hc7 j hj]; rfl
  have k1 := k p e R s m args below meth c mc ms Z C H1 locs (cells + 1) (slots + clN ci) arr (wd_push hw z1 o1 hcell) hlo (by omega) (by omega) hl
  have e0 : (Sum.inr (Sum.inr (17 + n)) :: st : List vV).map (eV E) = .ref H.size :: st.map (eV E) := by rw [← ad_new hw, ← eR_o E (by omega)]; rfl
  rw [e0] at k1
  exact k1
theorem rn_newi {x : Int32} {N : Nat} (h1 : Cond.arrayClass .int ∈ allw) (hn : ¬ x < 0) (hN : x.toNatClampNeg = N) (hb4 : N * 4 ≤ 536870912) (hd : decode cc pc = .ok (.newarray .int, 2))
    (k : rn l E d a b y cc nL ret (pc + 2) ls (.inr (.inr (17 + n)) :: st) (n + 1, va_up S (17 + n) (10, N), va_up Rr (17 + n) (fun _ => 0), va_up D (17 + n) (fun _ => 0)) Q) : rn l E d (1 + a) (N + b) y cc nL ret pc ls (.inl x :: st) (n, S, Rr, D) Q := by
  intro p e R s m args below meth c mc ms Z C H locs cells slots arr hw hlo hc hs hl
  obtain ⟨hx, hb, hml, hown, hts, hlk, hnm, hSt, hdf, hdl, hrc, hrs, hZ⟩ := id C
  refine va_newaK (atype := .int) (h := H.size) hx hb (hts _ h1) rfl hd rfl hn hN hb4 (by omega) (by omega) rfl fun H1 cA e1 z1 o1 hAr hNm => ?_
  have hcA : cA = E.2.2.2.2 10 := Option.some.inj (hNm.symm.trans (hSt.2.2.1 10 (by omega) (by omega)).2)
  have hcell : cAt E (17 + n) (10, N) (fun _ => 0) (fun _ => 0) H1 := by
    unfold cAt
    rw [if_neg (by show ¬ 10 < 7; omega), ad_new hw, e1, hcA]; rfl
  have k1 := k p e R s m args below meth c mc ms Z C H1 locs (cells + 1) (slots + N) arr (wd_push hw z1 o1 hcell) hlo (by omega) (by omega) hl
  have e0 : (Sum.inr (Sum.inr (17 + n)) :: st : List vV).map (eV E) = .ref H.size :: st.map (eV E) := by rw [← ad_new hw, ← eR_o E (by omega)]; rfl
  rw [e0] at k1
  exact k1
theorem rn_newz {x : Int32} {N : Nat} (h1 : Cond.arrayClass .boolean ∈ allw) (hn : ¬ x < 0) (hN : x.toNatClampNeg = N) (hb4 : N * 1 ≤ 536870912) (hd : decode cc pc = .ok (.newarray .boolean, 2))
    (k : rn l E d a b y cc nL ret (pc + 2) ls (.inr (.inr (17 + n)) :: st) (n + 1, va_up S (17 + n) (11, N), va_up Rr (17 + n) (fun _ => 0), va_up D (17 + n) (fun _ => 0)) Q) : rn l E d (1 + a) (N + b) y cc nL ret pc ls (.inl x :: st) (n, S, Rr, D) Q := by
  intro p e R s m args below meth c mc ms Z C H locs cells slots arr hw hlo hc hs hl
  obtain ⟨hx, hb, hml, hown, hts, hlk, hnm, hSt, hdf, hdl, hrc, hrs, hZ⟩ := id C
  refine va_newaK (atype := .boolean) (h := H.size) hx hb (hts _ h1) rfl hd rfl hn hN hb4 (by omega) (by omega) rfl fun H1 cA e1 z1 o1 hAr hNm => ?_
  have hcA : cA = E.2.2.2.2 11 := Option.some.inj (hNm.symm.trans (hSt.2.2.1 11 (by omega) (by omega)).2)
  have hcell : cAt E (17 + n) (11, N) (fun _ => 0) (fun _ => 0) H1 := by
    unfold cAt
    rw [if_neg (by show ¬ 11 < 7; omega), ad_new hw, e1, hcA]; rfl
  have k1 := k p e R s m args below meth c mc ms Z C H1 locs (cells + 1) (slots + N) arr (wd_push hw z1 o1 hcell) hlo (by omega) (by omega) hl
  have e0 : (Sum.inr (Sum.inr (17 + n)) :: st : List vV).map (eV E) = .ref H.size :: st.map (eV E) := by rw [← ad_new hw, ← eR_o E (by omega)]; rfl
  rw [e0] at k1
  exact k1
theorem rn_newr {idx kd N : Nat} {x : Int32} (hk1 : 12 ≤ kd) (hk2 : kd < 15) (h1 : Cond.classLink y.cls idx (clC (aCl kd)) ∈ allw) (hn : ¬ x < 0) (hN : x.toNatClampNeg = N) (hb4 : N * 4 ≤ 536870912) (hd : decode cc pc = .ok (.anewarray idx, 3))
    (k : rn l E d a b y cc nL ret (pc + 3) ls (.inr (.inr (17 + n)) :: st) (n + 1, va_up S (17 + n) (kd, N), va_up Rr (17 + n) (fun _ => 0), va_up D (17 + n) (fun _ => 0)) Q) : rn l E d (1 + a) (N + b) y cc nL ret pc ls (.inl x :: st) (n, S, Rr, D) Q := by
  intro p e R s m args below meth c mc ms Z C H locs cells slots arr hw hlo hc hs hl
  obtain ⟨hx, hb, hml, hown, hts, hlk, hnm, hSt, hdf, hdl, hrc, hrs, hZ⟩ := id C
  have haty : aTy kd = .object (clC (aCl kd)) := by
    rcases (show kd = 12 ∨ kd = 13 ∨ kd = 14 by omega) with rfl | rfl | rfl <;> rfl
  have hover : va_AO (clC (aCl kd)) s := by
    obtain ⟨z1, z2, z3⟩ := hSt.2.2.2.2.1
    rcases (show kd = 12 ∨ kd = 13 ∨ kd = 14 by omega) with rfl | rfl | rfl
    · exact z1
    · exact z2
    · exact z3
  have hRA := (hSt.2.2.1 kd (by omega) (by omega)).2
  rw [haty] at hRA
  obtain ⟨kA0, comp0, -, -, -, k4⟩ := hRA
  subst hN
  refine W.anew hx hb hown (hts _ h1) (va_AO.use hover) rfl hd rfl hn hb4 (by omega) (by omega) fun cA kA comp f1 f2 f3 f4 => ?_
  have hcA : cA = E.2.2.2.2 kd := Option.some.inj (f1.symm.trans k4)
  generalize hH1 : H.push ({ cls := cA, slots := Array.replicate x.toNatClampNeg .null, vm := .none } : Cell) = H1
  have z1 : H1.size = H.size + 1 := by rw [← hH1, Array.size_push]
  have e1 : H1[H.size]? = some (arrV cA x.toNatClampNeg (fun _ => .null)) := by rw [← hH1, Array.getElem?_push_size, ← arrV_new]
  have o1 : ∀ q : Nat, q < H.size → H1[q]? = H[q]? := fun q hq => by rw [← hH1, Array.getElem?_push, if_neg (Nat.ne_of_lt hq)]
  have hcell : cAt E (17 + n) (kd, x.toNatClampNeg) (fun _ => 0) (fun _ => 0) H1 := by
    unfold cAt
    rw [if_neg (by show ¬ kd < 7; omega), ad_new hw, e1, hcA]
    congr 2
    funext j
    show Value.null = if kd < 12 then _ else _
    rw [if_neg (by omega)]; rfl
  have k1 := k p e R s m args below meth c mc ms Z C H1 locs (cells + 1) (slots + x.toNatClampNeg) arr (wd_push hw z1 o1 hcell) hlo (by omega) (by omega) hl
  have e0 : (Sum.inr (Sum.inr (17 + n)) :: st : List vV).map (eV E) = .ref H.size :: st.map (eV E) := by rw [← ad_new hw, ← eR_o E (by omega)]; rfl
  rw [e0] at k1
  exact k1
theorem eR_s {k : Nat} (h1 : 1 ≤ k) (h2 : k < 17) : eR E k = .ref (E.2.2.1 k) := by
  unfold eR eA
  rw [if_neg (by omega), if_pos h2]; rfl
/-- a table's reference -/
theorem rn_gets {idx k : Nat} (h1 : 1 ≤ k) (h2 : k < 4) (hk : Cond.fieldLinkNest y.cls idx "PianoCrews" (sNam k) "[I" RX5 ∈ nestW) (hd : decode cc pc = .ok (.getstatic idx, 3))
    (kk : rn l E d a b y cc nL ret (pc + 3) ls (.inr (.inr k) :: st) h Q) : rn l E d a b y cc nL ret pc ls st h Q := by
  intro p e R s m args below meth c mc ms Z C H locs cells slots arr hw hlo hc hs hl
  obtain ⟨hx, hb, hml, hown, hts, hlk, hnm, hSt, hdf, hdl, hrc, hrs, hZ⟩ := id C
  obtain ⟨cf, kf, fi, f, q, cell, g1, g2, g3, g4, g5, g6, g7, g8⟩ := (hSt.2.2.2.2.2.1 k h1 h2).1
  have k1 := kk p e R s m args below meth c mc ms Z C H locs cells slots arr hw hlo hc hs hl
  have e0 : (Sum.inr (Sum.inr k) :: st : List vV).map (eV E) = .ref (E.2.2.1 k) :: st.map (eV E) := by rw [← eR_s h1 (by omega)]; rfl
  rw [e0] at k1
  exact va_WgetsN hx hb hown (va_Nw.use rfl (hSt.2.2.2.1 _ hk)) g1 g2 g3 g4 (by rw [hw.2.1 q (Nat.not_le.mp g8)]; exact g5) (fun z => by rw [z] at g6; cases g6) g7 rfl hd k1
theorem rn_siald {k : Nat} {i : Int32} (h1 : 1 ≤ k) (h2 : k < 4) (hi : vp_in i (sLen k)) (hd : decode cc pc = .ok (.iaload, 1))
    (kk : rn l E d a b y cc nL ret (pc + 1) ls (.inl (sDat k i.toNatClampNeg) :: st) h Q) : rn l E d a b y cc nL ret pc ls (.inl i :: .inr (.inr k) :: st) h Q := by
  intro p e R s m args below meth c mc ms Z C H locs cells slots arr hw hlo hc hs hl
  obtain ⟨hx, hb, hml, hown, hts, hlk, hnm, hSt, hdf, hdl, hrc, hrs, hZ⟩ := id C
  obtain ⟨cell, g1, g2, g3, g4, g5, g6, g7⟩ := (hSt.2.2.2.2.2.1 k h1 h2).2
  have hlt : i.toNatClampNeg < sLen k := Nat.not_le.mp fun q => hi (Or.inr q)
  have e0 : (Sum.inl i :: Sum.inr (Sum.inr k) :: st : List vV).map (eV E) = .int i :: .ref (E.2.2.1 k) :: st.map (eV E) := by rw [← eR_s h1 (by omega)]; rfl
  rw [e0]
  exact W.iald (v := .int (sDat k i.toNatClampNeg)) hx hb (by rw [hw.2.1 _ (Nat.not_le.mp g7)]; exact g1) g2 g3 (fun z => z.elim (fun z => hi (Or.inl z)) (fun z => by omega)) (g6 _ hlt) rfl rfl hd (kk p e R s m args below meth c mc ms Z C H locs cells slots arr hw hlo hc hs hl)

end RC
end
section
/-! the shape of the world once all is made (the same for ever), and the judgement ev: a method's end as a pure value -/
abbrev dT : Type := Nat → Nat → Int32
def fS (j : Nat) : Nat × Nat := if j = 0 then (0, 0) else if j = 1 then (10, 4) else if j = 2 then (10, 3) else if j = 3 then (10, 3) else if j = 4 then (12, 10) else if j = 5 then (13, 16) else if j < 16 then (4, 0) else (2, 0)
def n0 : Nat := 368
def S0 (o : Nat) : Nat × Nat :=
  if o = 17 then (5, 0) else if o < 82 then fS ((o - 18) % 32) else if o = 82 then (14, 2) else if o = 83 then (11, 2) else if o = 84 then (1, 0) else if o = 85 then (14, 7) else if o < 310 then fS ((o - 86) % 32) else if o = 310 then (3, 0) else if o = 311 then (10, 80) else if o = 312 then (10, 5) else if o < 377 then fS ((o - 313) % 32) else if o = 377 then (6, 0) else if o = 378 then (10, 244) else if o = 379 then (10, 244) else if o = 380 then (10, 1464) else if o = 381 then (10, 488) else if o = 382 then (11, 2) else if o = 383 then (10, 80) else (10, 252)
/-- the references within a firm that stands at B: of its cell j -/
def fR (B j k : Nat) : Nat := if j = 0 then (if k < 5 then B + 1 + k else 0) else if j = 4 then (if k < 10 then B + 6 + k else 0) else if j = 5 then (if k < 16 then B + 16 + k else 0) else 0
def R0 (o k : Nat) : Nat :=
  if o = 17 then (if k = 0 then 18 else if k = 1 then 50 else if k = 2 then 82 else if k = 3 then 83 else if k = 4 then 84 else if k = 5 then 310 else 0)
  else if o < 82 then fR (o - (o - 18) % 32) ((o - 18) % 32) k
  else if o = 82 then (if k = 0 then 313 else if k = 1 then 345 else 0)
  else if o = 84 then (if k = 0 then 85 else 0)
  else if o = 85 then (if k < 7 then 86 + 32 * k else 0)
  else if o < 86 then 0
  else if o < 310 then fR (o - (o - 86) % 32) ((o - 86) % 32) k
  else if o = 310 then (if k = 0 then 311 else if k = 1 then 312 else 0)
  else if o < 313 then 0
  else if o < 377 then fR (o - (o - 313) % 32) ((o - 313) % 32) k
  else if o = 377 then (if k = 1 then 378 else if k = 2 then 379 else if k = 3 then 380 else if k = 5 then 381 else if k = 6 then 382 else if k = 7 then 383 else if k = 11 then 384 else 0)
  else 0
abbrev hD (D : dT) : hP := (n0, S0, R0, D)
def lim : Nat := 100000
/-- one step, then the next, both pure -/
def bd {β α : Type} (o : Option (β × dT)) (f : β → dT → Option (α × dT)) : Option (α × dT) := match o with
  | none => none
  | some q => f q.1 q.2
theorem bd_some {β α : Type} {r : β} {D : dT} (f : β → dT → Option (α × dT)) : bd (some (r, D)) f = f r D := rfl
def firms : List Nat := [18, 50, 86, 118, 150, 182, 214, 246, 278, 313, 345]
abbrev isF (B : Nat) : Prop := B ∈ firms
def okO (o kd N : Nat) : Prop := 17 ≤ o ∧ o < 17 + n0 ∧ S0 o = (kd, N)
theorem okO_0 {o kd N : Nat} (h : okO o kd N) : o ≠ 0 := by have := h.1; omega
theorem okO_1 {o kd N : Nat} (h : okO o kd N) : (S0 o).1 = kd := by rw [h.2.2]
theorem firm_all {P : Nat → Prop} [DecidablePred P] (h : firms.all (fun B => decide (P B)) = true) {B : Nat} (hB : isF B) : P B := of_decide_eq_true (List.all_eq_true.mp h B hB)
theorem oF {B : Nat} (h : isF B) : okO B 0 0 := firm_all (P := fun B => 17 ≤ B ∧ B < 17 + n0 ∧ S0 B = (0, 0)) (by decide +kernel) h
theorem oF1 {B : Nat} (h : isF B) : okO (B + 1) 10 4 := firm_all (P := fun B => 17 ≤ B + 1 ∧ B + 1 < 17 + n0 ∧ S0 (B + 1) = (10, 4)) (by decide +kernel) h
theorem oF2 {B : Nat} (h : isF B) : okO (B + 2) 10 3 := firm_all (P := fun B => 17 ≤ B + 2 ∧ B + 2 < 17 + n0 ∧ S0 (B + 2) = (10, 3)) (by decide +kernel) h
theorem oF3 {B : Nat} (h : isF B) : okO (B + 3) 10 3 := firm_all (P := fun B => 17 ≤ B + 3 ∧ B + 3 < 17 + n0 ∧ S0 (B + 3) = (10, 3)) (by decide +kernel) h
theorem oF4 {B : Nat} (h : isF B) : okO (B + 4) 12 10 := firm_all (P := fun B => 17 ≤ B + 4 ∧ B + 4 < 17 + n0 ∧ S0 (B + 4) = (12, 10)) (by decide +kernel) h
theorem oF5 {B : Nat} (h : isF B) : okO (B + 5) 13 16 := firm_all (P := fun B => 17 ≤ B + 5 ∧ B + 5 < 17 + n0 ∧ S0 (B + 5) = (13, 16)) (by decide +kernel) h
theorem oP {B i : Nat} (h : isF B) (hi : i < 10) : okO (B + 6 + i) 4 0 := firm_all (P := fun B => ∀ i, i < 10 → 17 ≤ B + 6 + i ∧ B + 6 + i < 17 + n0 ∧ S0 (B + 6 + i) = (4, 0)) (by decide +kernel) h i hi
theorem oJ {B i : Nat} (h : isF B) (hi : i < 16) : okO (B + 16 + i) 2 0 := firm_all (P := fun B => ∀ i, i < 16 → 17 ≤ B + 16 + i ∧ B + 16 + i < 17 + n0 ∧ S0 (B + 16 + i) = (2, 0)) (by decide +kernel) h i hi
theorem rF0 {B : Nat} (h : isF B) : R0 B 0 = B + 1 := firm_all (P := fun B => R0 B 0 = B + 1) (by decide +kernel) h
theorem rF1 {B : Nat} (h : isF B) : R0 B 1 = B + 2 := firm_all (P := fun B => R0 B 1 = B + 2) (by decide +kernel) h
theorem rF2 {B : Nat} (h : isF B) : R0 B 2 = B + 3 := firm_all (P := fun B => R0 B 2 = B + 3) (by decide +kernel) h
theorem rF3 {B : Nat} (h : isF B) : R0 B 3 = B + 4 := firm_all (P := fun B => R0 B 3 = B + 4) (by decide +kernel) h
theorem rF4 {B : Nat} (h : isF B) : R0 B 4 = B + 5 := firm_all (P := fun B => R0 B 4 = B + 5) (by decide +kernel) h
theorem rP {B i : Nat} (h : isF B) (hi : i < 10) : R0 (B + 4) i = B + 6 + i := firm_all (P := fun B => ∀ i, i < 10 → R0 (B + 4) i = B + 6 + i) (by decide +kernel) h i hi
theorem rJ {B i : Nat} (h : isF B) (hi : i < 16) : R0 (B + 5) i = B + 16 + i := firm_all (P := fun B => ∀ i, i < 16 → R0 (B + 5) i = B + 16 + i) (by decide +kernel) h i hi
theorem rSl {i : Nat} (hi : i < 2) : R0 82 i = 313 + 32 * i := by
  rcases (show i = 0 ∨ i = 1 by omega) with rfl | rfl <;> rfl
theorem fSl {i : Nat} (hi : i < 2) : isF (313 + 32 * i) := by
  rcases (show i = 0 ∨ i = 1 by omega) with rfl | rfl <;> decide
theorem rHi {i : Nat} (hi : i < 7) : R0 85 i = 86 + 32 * i := by
  rcases (show i = 0 ∨ i = 1 ∨ i = 2 ∨ i = 3 ∨ i = 4 ∨ i = 5 ∨ i = 6 by omega) with rfl | rfl | rfl | rfl | rfl | rfl | rfl <;> rfl
theorem fHi {i : Nat} (hi : i < 7) : isF (86 + 32 * i) := by
  rcases (show i = 0 ∨ i = 1 ∨ i = 2 ∨ i = 3 ∨ i = 4 ∨ i = 5 ∨ i = 6 by omega) with rfl | rfl | rfl | rfl | rfl | rfl | rfl <;> decide
/-- an index that is tested -/
abbrev inR (i : Int32) (N : Nat) : Prop := ¬ i < 0 ∧ i.toNatClampNeg < N
theorem inR_vp {i : Int32} {N : Nat} (h : inR i N) : vp_in i N := fun z => z.elim h.1 (fun z => by have := h.2; omega)
def eI (r : Int32) : Option vV := some (.inl r)
def eU (_ : Int32) : Option vV := none
def eN (r : Nat) : Option vV := some (.inr (.inr r))
def ev {α : Type} (l : Launch) (E : eE) (d : Nat) (y : MethodName) (cc : ByteArray) (nL : Nat) (ret : Option FieldType) (pc : Nat) (ls : List (Nat × vV)) (st : List vV) (D : dT) (ε : α → Option vV) (o : Option (α × dT)) : Prop :=
  ∀ (r : α) (D' : dT), o = some (r, D') → rn l E d 0 0 y cc nL ret pc ls st (hD D) (fun r' h' => r' = ε r ∧ h' = hD D')
section EV
variable {α : Type} {l : Launch} {E : eE} {d : Nat} {y : MethodName} {cc : ByteArray} {nL : Nat} {ret : Option FieldType} {pc : Nat} {ls : List (Nat × vV)} {st : List vV} {D : dT} {ε : α → Option vV}
theorem ev_s {pc' : Nat} {ls' : List (Nat × vV)} {st' : List vV} {D' : dT} {o : Option (α × dT)} (hr : ∀ Q, rn l E d 0 0 y cc nL ret pc' ls' st' (hD D') Q → rn l E d 0 0 y cc nL ret pc ls st (hD D) Q) (k : ev l E d y cc nL ret pc' ls' st' D' ε o) : ev l E d y cc nL ret pc ls st D ε o :=
  fun r D1 e => hr _ (k r D1 e)
theorem ev_none : ev l E d y cc nL ret pc ls st D ε none := fun _ _ e => by cases e
theorem ev_if {c : Prop} [Decidable c] {pc1 pc2 : Nat} {st' : List vV} {o1 o2 : Option (α × dT)} (hr : ∀ Q, (c → rn l E d 0 0 y cc nL ret pc1 ls st' (hD D) Q) → (¬ c → rn l E d 0 0 y cc nL ret pc2 ls st' (hD D) Q) → rn l E d 0 0 y cc nL ret pc ls st (hD D) Q)
    (k1 : c → ev l E d y cc nL ret pc1 ls st' D ε o1) (k2 : ¬ c → ev l E d y cc nL ret pc2 ls st' D ε o2) : ev l E d y cc nL ret pc ls st D ε (if c then o1 else o2) := by
  intro r D1 e
  refine hr _ (fun h => k1 h r D1 ?_) (fun h => k2 h r D1 ?_)
  · rw [if_pos h] at e; exact e
  · rw [if_neg h] at e; exact e
theorem ev_ite {c : Prop} [Decidable c] {o1 o2 : Option (α × dT)} (k1 : c → ev l E d y cc nL ret pc ls st D ε o1) (k2 : ¬ c → ev l E d y cc nL ret pc ls st D ε o2) : ev l E d y cc nL ret pc ls st D ε (if c then o1 else o2) := by
  by_cases h : c
  · rw [if_pos h]; exact k1 h
  · rw [if_neg h]; exact k2 h
theorem ev_gd {c : Prop} [Decidable c] {o1 : Option (α × dT)} (k1 : c → ev l E d y cc nL ret pc ls st D ε o1) : ev l E d y cc nL ret pc ls st D ε (if c then o1 else none) := ev_ite k1 (fun _ => ev_none)
theorem ev_ret {r : α} (hr : ∀ Q : Option vV → hP → Prop, Q (ε r) (hD D) → rn l E d 0 0 y cc nL ret pc ls st (hD D) Q) : ev l E d y cc nL ret pc ls st D ε (some (r, D)) := by
  intro r' D1 e
  injection e with e
  injection e with e1 e2
  subst e1; subst e2
  exact hr _ ⟨rfl, rfl⟩
theorem ev_bindI {y' : MethodName} {cc' : ByteArray} {nL' : Nat} {ret' : Option FieldType} {as rest : List vV} {ls1 : List (Nat × vV)} {o1 : Option (Int32 × dT)} {f : Int32 → dT → Option (α × dT)}
    (hr : ∀ Q Q1, ct l E d 0 0 y' cc' nL' ret' as (hD D) Q1 → (∀ r h1, Q1 r h1 → rn l E (d + 1) 0 0 y cc nL ret (pc + 3) ls (r.toList ++ rest) h1 Q) → rn l E (d + 1) 0 0 y cc nL ret pc ls st (hD D) Q)
    (hy : plainName y'.cls = true) (hn : (as.map (fun v => match v with | .inr (.inl _) => 2 | _ => 1)).sum ≤ nL') (hl1 : aL 0 as = ls1) (hc : ev l E d y' cc' nL' ret' 0 ls1 [] D eI o1) (k : ∀ r D1, ev l E (d + 1) y cc nL ret (pc + 3) ls (.inl r :: rest) D1 ε (f r D1)) : ev l E (d + 1) y cc nL ret pc ls st D ε (bd o1 f) := by
  intro r D1 e
  subst hl1
  cases ho : o1 with
  | none => rw [ho] at e; cases e
  | some q =>
    obtain ⟨r1, D2⟩ := q
    rw [ho] at e
    refine hr _ _ (ct_of_rn hy hn (hc r1 D2 ho)) (fun r' h1 h => ?_)
    obtain ⟨rfl, rfl⟩ := h
    exact k r1 D2 r D1 e
theorem ev_bindU {y' : MethodName} {cc' : ByteArray} {nL' : Nat} {ret' : Option FieldType} {as rest : List vV} {ls1 : List (Nat × vV)} {o1 : Option (Int32 × dT)} {f : Int32 → dT → Option (α × dT)}
    (hr : ∀ Q Q1, ct l E d 0 0 y' cc' nL' ret' as (hD D) Q1 → (∀ r h1, Q1 r h1 → rn l E (d + 1) 0 0 y cc nL ret (pc + 3) ls (r.toList ++ rest) h1 Q) → rn l E (d + 1) 0 0 y cc nL ret pc ls st (hD D) Q)
    (hy : plainName y'.cls = true) (hn : (as.map (fun v => match v with | .inr (.inl _) => 2 | _ => 1)).sum ≤ nL') (hl1 : aL 0 as = ls1) (hc : ev l E d y' cc' nL' ret' 0 ls1 [] D eU o1) (k : ∀ r D1, ev l E (d + 1) y cc nL ret (pc + 3) ls rest D1 ε (f r D1)) : ev l E (d + 1) y cc nL ret pc ls st D ε (bd o1 f) := by
  intro r D1 e
  subst hl1
  cases ho : o1 with
  | none => rw [ho] at e; cases e
  | some q =>
    obtain ⟨r1, D2⟩ := q
    rw [ho] at e
    refine hr _ _ (ct_of_rn hy hn (hc r1 D2 ho)) (fun r' h1 h => ?_)
    obtain ⟨rfl, rfl⟩ := h
    exact k r1 D2 r D1 e
theorem ev_bindN {y' : MethodName} {cc' : ByteArray} {nL' : Nat} {ret' : Option FieldType} {as rest : List vV} {ls1 : List (Nat × vV)} {o1 : Option (Nat × dT)} {f : Nat → dT → Option (α × dT)}
    (hr : ∀ Q Q1, ct l E d 0 0 y' cc' nL' ret' as (hD D) Q1 → (∀ r h1, Q1 r h1 → rn l E (d + 1) 0 0 y cc nL ret (pc + 3) ls (r.toList ++ rest) h1 Q) → rn l E (d + 1) 0 0 y cc nL ret pc ls st (hD D) Q)
    (hy : plainName y'.cls = true) (hn : (as.map (fun v => match v with | .inr (.inl _) => 2 | _ => 1)).sum ≤ nL') (hl1 : aL 0 as = ls1) (hc : ev l E d y' cc' nL' ret' 0 ls1 [] D eN o1) (k : ∀ r D1, ev l E (d + 1) y cc nL ret (pc + 3) ls (.inr (.inr r) :: rest) D1 ε (f r D1)) : ev l E (d + 1) y cc nL ret pc ls st D ε (bd o1 f) := by
  intro r D1 e
  subst hl1
  cases ho : o1 with
  | none => rw [ho] at e; cases e
  | some q =>
    obtain ⟨r1, D2⟩ := q
    rw [ho] at e
    refine hr _ _ (ct_of_rn hy hn (hc r1 D2 ho)) (fun r' h1 h => ?_)
    obtain ⟨rfl, rfl⟩ := h
    exact k r1 D2 r D1 e
end EV
theorem nz_b {v : Int32} (h : v = 0 ∨ v = 1) : narrow .boolean (.int v) = .int v := by rcases h with rfl | rfl <;> rfl
theorem ft_b {v : Int32} (h : v = 0 ∨ v = 1) : fits .boolean (.int v) = true := by rcases h with rfl | rfl <;> rfl

section CP
variable {l : Launch} {E : eE} {d a b : Nat} {y : MethodName} {cc : ByteArray} {nL : Nat} {ret : Option FieldType} {pc : Nat} {ls : List (Nat × vV)} {st : List vV} {h : hP} {Q : Option vV → hP → Prop}
variable {n : Nat} {S : Nat → Nat × Nat} {Rr : Nat → Nat → Nat} {D : Nat → Nat → Int32}
def cp2 (D : Nat → Nat → Int32) (o q N : Nat) : Nat → Nat → Int32 := fun i j => if i = q ∧ j < N then D o j else D i j
theorem rn_copy0 {idx o q N0 N1 N : Nat} {x : Int32} (h1 : Cond.methodLink y.cls idx arraycopyName ∈ allw) (h2 : Cond.native arraycopyName ∈ allw) (h3 : Cond.static arraycopyName ∈ allw) (h4 : Cond.initialized "java/lang/System" ∈ allw)
    (ho : 17 ≤ o) (hno : o < 17 + n) (hSo : S o = (10, N0)) (hq : 17 ≤ q) (hnq : q < 17 + n) (hSq : S q = (10, N1)) (hx0 : ¬ x < 0) (hN : x.toNatClampNeg = N) (hN0 : N ≤ N0) (hN1 : N ≤ N1) (hW : (st.map vcat).sum ≤ 8) (hd : decode cc pc = .ok (.invokestatic idx, 3))
    (k : rn l E (d + 1) a b y cc nL ret (pc + 3) ls st (n, S, Rr, cp2 D o q N) Q) : rn l E (d + 1) a b y cc nL ret pc ls (.inl x :: .inl 0 :: .inr (.inr q) :: .inl 0 :: .inr (.inr o) :: st) (n, S, Rr, D) Q := by
  intro p e R s m args below meth c mc ms Z C H locs cells slots arr hw hlo hc hs hl
  obtain ⟨hx, hb, hml, hown, hts, hlk, hnm, hSt, hdf, hdl, hrc, hrs, hZ⟩ := id C
  subst hN
  have hA := arr_at hw ho hno (by omega) hSo
  have hB := arr_at hw hq hnq (by omega) hSq
  have e0 : (Sum.inl x :: Sum.inl 0 :: Sum.inr (Sum.inr q) :: Sum.inl 0 :: Sum.inr (Sum.inr o) :: st : List vV).map (eV E) = .int x :: .int 0 :: .ref (ad E q) :: .int 0 :: .ref (ad E o) :: st.map (eV E) := by rw [← eR_o E ho, ← eR_o E hq]; rfl
  rw [e0]
  have h10 : (10 : Nat) < 12 := by omega
  rw [show (fun j => if 10 < 12 then Value.int (D o j) else eR E (Rr o j)) = fun j => Value.int (D o j) from funext fun j => if_pos h10] at hA
  rw [show (fun j => if 10 < 12 then Value.int (D q j) else eR E (Rr q j)) = fun j => Value.int (D q j) from funext fun j => if_pos h10] at hB
  have nn : ∀ z : Int32, ¬ z < 0 → z.toInt = (z.toNatClampNeg : Int) := by
    intro z hz
    have hz0 : (0 : Int) ≤ z.toInt := by
      have := Int32.not_lt.mp hz
      simpa using Int32.le_iff_toInt_le.mp this
    show z.toInt = ((z.toInt.toNat : Nat) : Int)
    omega
  have z0 : ¬ (0 : Int32) < 0 := by decide
  have z1 : (0 : Int32).toNatClampNeg = 0 := by decide
  intro T hT X
  obtain ⟨-, k0, hk0, cm0, hkk0⟩ := (hSt.2.2.1 10 (by omega) (by omega)).1 N0 (fun j => .int (D o j))
  obtain ⟨-, k1, hk1, cm1, hkk1⟩ := (hSt.2.2.1 10 (by omega) (by omega)).1 N1 (fun j => .int (D q j))
  obtain ⟨vm', X', step⟩ := X.arraycopy hx hown (hts _ h1) (hts _ h2) (hts _ h3) (hts _ h4) (src := ad E o) (dst := ad E q) (cs := arrV (E.2.2.2.2 10) N0 (fun j => .int (D o j))) (cd := arrV (E.2.2.2.2 10) N1 (fun j => .int (D q j))) (srcPos := 0) (destPos := 0) (n := x) (by rw [hT]; exact hA) (by rw [hT]; exact hB)
    (fun _ h => by cases h) (fun _ h => by cases h) (fun h => by cases h) (fun h => by cases h) hk0 hk1 hkk0 hkk1 (by simp [aTy, refKind]) z0 z0 hx0
    (by rw [nn 0 z0, nn x hx0, arrV_size, z1]; omega)
    (by rw [nn 0 z0, nn x hx0, arrV_size, z1]; omega)
    (fun vm₁ _ i hi => by
      have e : (arrV (E.2.2.2.2 10) N0 (fun j => .int (D o j))).slots.getD ((0 : Int32).toNatClampNeg + i) .null = .int (D o ((0 : Int32).toNatClampNeg + i)) := by
        rw [Array.getD_eq_getD_getElem?, arrV_read _ _ (by rw [z1]; omega)]
        rfl
      refine ⟨?_, ?_⟩
      · rw [e]; rfl
      · rw [e]; exact trivial)
    (g := F0 m pc arr (.int x :: .int 0 :: .ref (ad E q) :: .int 0 :: .ref (ad E o) :: st.map (eV E))) rfl (by rw [hml]; exact hl.1) (rest := st.map (eV E)) rfl (by rw [hb]; exact hd) (by omega) (by
      show 2 * 0 + ((st.map (eV E)).map fun v => v.category).sum + (nativeFrameWords "java/lang/System" "arraycopy" 5 + 11) ≤ _
      rw [cat_sum]
      have : nativeFrameWords "java/lang/System" "arraycopy" 5 ≤ 18 := by decide +kernel
      omega)
  have e1 : copied (arrV (E.2.2.2.2 10) N0 (fun j => .int (D o j))) (arrV (E.2.2.2.2 10) N1 (fun j => .int (D q j))) 0 0 x = arrV (E.2.2.2.2 10) N1 (fun j => .int (va_cpy (D o) (D q) (0 : Int32).toNatClampNeg (0 : Int32).toNatClampNeg x.toNatClampNeg j)) := va_copied (fun z => .int z) _ _ (D o) (D q) (by rw [z1]; omega)
  rw [e1] at X' step
  rw [z1] at X' step
  have hl9 : ad E q < H.size := (Array.getElem?_eq_some_iff.mp hB).1
  generalize hnew : arrV (E.2.2.2.2 10) N1 (fun j => Value.int (va_cpy (D o) (D q) 0 0 x.toNatClampNeg j)) = nc at X' step
  have hheap : ((T.setVm vm').setCell (ad E q) nc).heap = H.setIfInBounds (ad E q) nc := by rw [← hT]; rfl
  have oq : ∀ q' : Nat, q' ≠ ad E q → (H.setIfInBounds (ad E q) nc)[q']? = H[q']? := fun q' hq => by simp [Array.getElem?_setIfInBounds, Ne.symm hq]
  have hw' : wd E (n, S, Rr, cp2 D o q x.toNatClampNeg) (H.setIfInBounds (ad E q) nc) := by
    refine wd_set hw hq (by simp) oq ?_ (fun _ _ => rfl) (fun o' h9 => ?_)
    · unfold cAt
      rw [if_neg (by rw [hSq]; show ¬ 10 < 7; omega), hSq]
      show (H.setIfInBounds (ad E q) nc)[ad E q]? = _
      rw [Array.getElem?_setIfInBounds]
      simp only [if_true, hl9]
      rw [← hnew]
      congr 2
      funext j
      show _ = if 10 < 12 then Value.int (cp2 D o q x.toNatClampNeg q j) else _
      rw [if_pos h10]
      unfold va_cpy cp2
      by_cases hj : j < x.toNatClampNeg
      · rw [if_pos (by omega), if_pos ⟨rfl, hj⟩]; simp
      · rw [if_neg (by omega), if_neg (fun z => hj z.2)]
    · funext j
      exact if_neg (fun z => h9 z.1)
  obtain ⟨t, a1, b1⟩ := k p e R s m args below meth c mc ms Z C _ (locs ++ ((arrV (E.2.2.2.2 10) N0 (fun j => .int (D o j))).stretch 0 x.toNatClampNeg).zipIdx.map (fun q_1 => (⟨ad E q, 0 + q_1.2⟩ : Loc))) cells slots arr hw' (fun w hw9 => by
      rcases List.mem_append.mp hw9 with h | h
      · exact hlo w h
      · obtain ⟨z, -, hz⟩ := List.mem_map.mp h
        rw [← hz]
        show E.1 ≤ ad E q
        unfold ad; omega) hc hs hl _ hheap X'
  exact ⟨t, step t a1, b1⟩
end CP
end
section
theorem w_in (w : Cond) (h : w ∈ lw_tbl) (g : goodWord w = true) : w ∈ allw := aw h g
theorem mm_X5_init : lkM yX5_init cX5_init 2 none 0 := ⟨aw (List.mem_append_right _ (List.mem_of_getElem? (i := 1) (by decide +kernel))) rfl, aw (List.mem_append_right _ (List.mem_of_getElem? (i := 20) (by decide +kernel))) rfl, ⟨by decide +kernel, by decide +kernel, by decide +kernel⟩, by decide⟩
theorem pl_X5_init : plainName yX5_init.cls = true := by decide +kernel
theorem mi_X5_init : Cond.instanceMethod yX5_init ∈ allw := aw (List.mem_append_right _ (List.mem_of_getElem? (i := 19) (by decide +kernel))) rfl
theorem mm_X0_init : lkM yX0_init cX0_init 2 none 0 := ⟨aw (List.mem_append_right _ (List.mem_of_getElem? (i := 2) (by decide +kernel))) rfl, aw (List.mem_append_right _ (List.mem_of_getElem? (i := 28) (by decide +kernel))) rfl, ⟨by decide +kernel, by decide +kernel, by decide +kernel⟩, by decide⟩
theorem pl_X0_init : plainName yX0_init.cls = true := by decide +kernel
theorem mi_X0_init : Cond.instanceMethod yX0_init ∈ allw := aw (List.mem_append_right _ (List.mem_of_getElem? (i := 27) (by decide +kernel))) rfl
theorem mm_X4_init : lkM yX4_init cX4_init 1 none 0 := ⟨aw (List.mem_append_right _ (List.mem_of_getElem? (i := 3) (by decide +kernel))) rfl, aw (List.mem_append_right _ (List.mem_of_getElem? (i := 37) (by decide +kernel))) rfl, ⟨by decide +kernel, by decide +kernel, by decide +kernel⟩, by decide⟩
theorem pl_X4_init : plainName yX4_init.cls = true := by decide +kernel
theorem mi_X4_init : Cond.instanceMethod yX4_init ∈ allw := aw (List.mem_append_right _ (List.mem_of_getElem? (i := 36) (by decide +kernel))) rfl
theorem mm_X2_init : lkM yX2_init cX2_init 1 none 0 := ⟨aw (List.mem_append_right _ (List.mem_of_getElem? (i := 4) (by decide +kernel))) rfl, aw (List.mem_append_right _ (List.mem_of_getElem? (i := 62) (by decide +kernel))) rfl, ⟨by decide +kernel, by decide +kernel, by decide +kernel⟩, by decide⟩
theorem pl_X2_init : plainName yX2_init.cls = true := by decide +kernel
theorem mi_X2_init : Cond.instanceMethod yX2_init ∈ allw := aw (List.mem_append_right _ (List.mem_of_getElem? (i := 61) (by decide +kernel))) rfl
theorem mm_X1_init : lkM yX1_init cX1_init 2 none 0 := ⟨aw (List.mem_append_right _ (List.mem_of_getElem? (i := 5) (by decide +kernel))) rfl, aw (List.mem_append_right _ (List.mem_of_getElem? (i := 156) (by decide +kernel))) rfl, ⟨by decide +kernel, by decide +kernel, by decide +kernel⟩, by decide⟩
theorem pl_X1_init : plainName yX1_init.cls = true := by decide +kernel
theorem mi_X1_init : Cond.instanceMethod yX1_init ∈ allw := aw (List.mem_append_right _ (List.mem_of_getElem? (i := 155) (by decide +kernel))) rfl
theorem mm_X3_init : lkM yX3_init cX3_init 1 none 0 := ⟨aw (List.mem_append_right _ (List.mem_of_getElem? (i := 6) (by decide +kernel))) rfl, aw (List.mem_append_right _ (List.mem_of_getElem? (i := 176) (by decide +kernel))) rfl, ⟨by decide +kernel, by decide +kernel, by decide +kernel⟩, by decide⟩
theorem pl_X3_init : plainName yX3_init.cls = true := by decide +kernel
theorem mi_X3_init : Cond.instanceMethod yX3_init ∈ allw := aw (List.mem_append_right _ (List.mem_of_getElem? (i := 175) (by decide +kernel))) rfl
theorem mm_X5_set : lkM yX5_set cX5_set 3 (some .int) 2 := ⟨aw (List.mem_append_right _ (List.mem_of_getElem? (i := 1) (by decide +kernel))) rfl, aw (List.mem_append_right _ (List.mem_of_getElem? (i := 229) (by decide +kernel))) rfl, ⟨by decide +kernel, by decide +kernel, by decide +kernel⟩, by decide⟩
theorem pl_X5_set : plainName yX5_set.cls = true := by decide +kernel
theorem mi_X5_set : Cond.instanceMethod yX5_set ∈ allw := aw (List.mem_append_right _ (List.mem_of_getElem? (i := 227) (by decide +kernel))) rfl
theorem ml_X5_set : Cond.selects yX5_set.cls yX5_set yX5_set ∈ allw := aw (List.mem_append_right _ (List.mem_of_getElem? (i := 228) (by decide +kernel))) rfl
theorem mm_X1_note : lkM yX1_note cX1_note 2 none 1 := ⟨aw (List.mem_append_right _ (List.mem_of_getElem? (i := 5) (by decide +kernel))) rfl, aw (List.mem_append_right _ (List.mem_of_getElem? (i := 233) (by decide +kernel))) rfl, ⟨by decide +kernel, by decide +kernel, by decide +kernel⟩, by decide⟩
theorem pl_X1_note : plainName yX1_note.cls = true := by decide +kernel
theorem mi_X1_note : Cond.instanceMethod yX1_note ∈ allw := aw (List.mem_append_right _ (List.mem_of_getElem? (i := 231) (by decide +kernel))) rfl
theorem ml_X1_note : Cond.selects yX1_note.cls yX1_note yX1_note ∈ allw := aw (List.mem_append_right _ (List.mem_of_getElem? (i := 232) (by decide +kernel))) rfl
theorem mm_X0_copyFrom : lkM yX0_copyFrom cX0_copyFrom 3 none 1 := ⟨aw (List.mem_append_right _ (List.mem_of_getElem? (i := 2) (by decide +kernel))) rfl, aw (List.mem_append_right _ (List.mem_of_getElem? (i := 237) (by decide +kernel))) rfl, ⟨by decide +kernel, by decide +kernel, by decide +kernel⟩, by decide⟩
theorem pl_X0_copyFrom : plainName yX0_copyFrom.cls = true := by decide +kernel
theorem mi_X0_copyFrom : Cond.instanceMethod yX0_copyFrom ∈ allw := aw (List.mem_append_right _ (List.mem_of_getElem? (i := 235) (by decide +kernel))) rfl
theorem ml_X0_copyFrom : Cond.selects yX0_copyFrom.cls yX0_copyFrom yX0_copyFrom ∈ allw := aw (List.mem_append_right _ (List.mem_of_getElem? (i := 236) (by decide +kernel))) rfl
theorem mm_X4_copyFrom : lkM yX4_copyFrom cX4_copyFrom 2 none 1 := ⟨aw (List.mem_append_right _ (List.mem_of_getElem? (i := 3) (by decide +kernel))) rfl, aw (List.mem_append_right _ (List.mem_of_getElem? (i := 244) (by decide +kernel))) rfl, ⟨by decide +kernel, by decide +kernel, by decide +kernel⟩, by decide⟩
theorem pl_X4_copyFrom : plainName yX4_copyFrom.cls = true := by decide +kernel
theorem mi_X4_copyFrom : Cond.instanceMethod yX4_copyFrom ∈ allw := aw (List.mem_append_right _ (List.mem_of_getElem? (i := 242) (by decide +kernel))) rfl
theorem ml_X4_copyFrom : Cond.selects yX4_copyFrom.cls yX4_copyFrom yX4_copyFrom ∈ allw := aw (List.mem_append_right _ (List.mem_of_getElem? (i := 243) (by decide +kernel))) rfl
theorem mm_X2_copyFrom : lkM yX2_copyFrom cX2_copyFrom 2 none 1 := ⟨aw (List.mem_append_right _ (List.mem_of_getElem? (i := 4) (by decide +kernel))) rfl, aw (List.mem_append_right _ (List.mem_of_getElem? (i := 248) (by decide +kernel))) rfl, ⟨by decide +kernel, by decide +kernel, by decide +kernel⟩, by decide⟩
theorem pl_X2_copyFrom : plainName yX2_copyFrom.cls = true := by decide +kernel
theorem mi_X2_copyFrom : Cond.instanceMethod yX2_copyFrom ∈ allw := aw (List.mem_append_right _ (List.mem_of_getElem? (i := 246) (by decide +kernel))) rfl
theorem ml_X2_copyFrom : Cond.selects yX2_copyFrom.cls yX2_copyFrom yX2_copyFrom ∈ allw := aw (List.mem_append_right _ (List.mem_of_getElem? (i := 247) (by decide +kernel))) rfl
theorem mm_X0_changeSetting : lkM yX0_changeSetting cX0_changeSetting 4 (some .int) 2 := ⟨aw (List.mem_append_right _ (List.mem_of_getElem? (i := 2) (by decide +kernel))) rfl, aw (List.mem_append_right _ (List.mem_of_getElem? (i := 252) (by decide +kernel))) rfl, ⟨by decide +kernel, by decide +kernel, by decide +kernel⟩, by decide⟩
theorem pl_X0_changeSetting : plainName yX0_changeSetting.cls = true := by decide +kernel
theorem mi_X0_changeSetting : Cond.instanceMethod yX0_changeSetting ∈ allw := aw (List.mem_append_right _ (List.mem_of_getElem? (i := 250) (by decide +kernel))) rfl
theorem ml_X0_changeSetting : Cond.selects yX0_changeSetting.cls yX0_changeSetting yX0_changeSetting ∈ allw := aw (List.mem_append_right _ (List.mem_of_getElem? (i := 251) (by decide +kernel))) rfl
theorem mm_X5_isWithin : lkM yX5_isWithin cX5_isWithin 3 (some .boolean) 3 := ⟨aw (List.mem_append_right _ (List.mem_of_getElem? (i := 1) (by decide +kernel))) rfl, aw (List.mem_append_right _ (List.mem_of_getElem? (i := 255) (by decide +kernel))) rfl, ⟨by decide +kernel, by decide +kernel, by decide +kernel⟩, by decide⟩
theorem pl_X5_isWithin : plainName yX5_isWithin.cls = true := by decide +kernel
theorem ms_X5_isWithin : Cond.static yX5_isWithin ∈ allw := aw (List.mem_append_right _ (List.mem_of_getElem? (i := 254) (by decide +kernel))) rfl
theorem mm_X1_keepUnlessError : lkM yX1_keepUnlessError cX1_keepUnlessError 2 (some .int) 1 := ⟨aw (List.mem_append_right _ (List.mem_of_getElem? (i := 5) (by decide +kernel))) rfl, aw (List.mem_append_right _ (List.mem_of_getElem? (i := 263) (by decide +kernel))) rfl, ⟨by decide +kernel, by decide +kernel, by decide +kernel⟩, by decide⟩
theorem pl_X1_keepUnlessError : plainName yX1_keepUnlessError.cls = true := by decide +kernel
theorem mi_X1_keepUnlessError : Cond.instanceMethod yX1_keepUnlessError ∈ allw := aw (List.mem_append_right _ (List.mem_of_getElem? (i := 261) (by decide +kernel))) rfl
theorem ml_X1_keepUnlessError : Cond.selects yX1_keepUnlessError.cls yX1_keepUnlessError yX1_keepUnlessError ∈ allw := aw (List.mem_append_right _ (List.mem_of_getElem? (i := 262) (by decide +kernel))) rfl
theorem mm_X5_person : lkM yX5_person cX5_person 2 (some .int) 1 := ⟨aw (List.mem_append_right _ (List.mem_of_getElem? (i := 1) (by decide +kernel))) rfl, aw (List.mem_append_right _ (List.mem_of_getElem? (i := 267) (by decide +kernel))) rfl, ⟨by decide +kernel, by decide +kernel, by decide +kernel⟩, by decide⟩
theorem pl_X5_person : plainName yX5_person.cls = true := by decide +kernel
theorem mi_X5_person : Cond.instanceMethod yX5_person ∈ allw := aw (List.mem_append_right _ (List.mem_of_getElem? (i := 265) (by decide +kernel))) rfl
theorem ml_X5_person : Cond.selects yX5_person.cls yX5_person yX5_person ∈ allw := aw (List.mem_append_right _ (List.mem_of_getElem? (i := 266) (by decide +kernel))) rfl
theorem mm_X0_addPerson : lkM yX0_addPerson cX0_addPerson 2 (some .int) 1 := ⟨aw (List.mem_append_right _ (List.mem_of_getElem? (i := 2) (by decide +kernel))) rfl, aw (List.mem_append_right _ (List.mem_of_getElem? (i := 271) (by decide +kernel))) rfl, ⟨by decide +kernel, by decide +kernel, by decide +kernel⟩, by decide⟩
theorem pl_X0_addPerson : plainName yX0_addPerson.cls = true := by decide +kernel
theorem mi_X0_addPerson : Cond.instanceMethod yX0_addPerson ∈ allw := aw (List.mem_append_right _ (List.mem_of_getElem? (i := 269) (by decide +kernel))) rfl
theorem ml_X0_addPerson : Cond.selects yX0_addPerson.cls yX0_addPerson yX0_addPerson ∈ allw := aw (List.mem_append_right _ (List.mem_of_getElem? (i := 270) (by decide +kernel))) rfl
theorem mm_X4_come : lkM yX4_come cX4_come 2 none 1 := ⟨aw (List.mem_append_right _ (List.mem_of_getElem? (i := 3) (by decide +kernel))) rfl, aw (List.mem_append_right _ (List.mem_of_getElem? (i := 275) (by decide +kernel))) rfl, ⟨by decide +kernel, by decide +kernel, by decide +kernel⟩, by decide⟩
theorem pl_X4_come : plainName yX4_come.cls = true := by decide +kernel
theorem mi_X4_come : Cond.instanceMethod yX4_come ∈ allw := aw (List.mem_append_right _ (List.mem_of_getElem? (i := 273) (by decide +kernel))) rfl
theorem ml_X4_come : Cond.selects yX4_come.cls yX4_come yX4_come ∈ allw := aw (List.mem_append_right _ (List.mem_of_getElem? (i := 274) (by decide +kernel))) rfl
theorem mm_X5_buy : lkM yX5_buy cX5_buy 2 (some .int) 1 := ⟨aw (List.mem_append_right _ (List.mem_of_getElem? (i := 1) (by decide +kernel))) rfl, aw (List.mem_append_right _ (List.mem_of_getElem? (i := 279) (by decide +kernel))) rfl, ⟨by decide +kernel, by decide +kernel, by decide +kernel⟩, by decide⟩
theorem pl_X5_buy : plainName yX5_buy.cls = true := by decide +kernel
theorem mi_X5_buy : Cond.instanceMethod yX5_buy ∈ allw := aw (List.mem_append_right _ (List.mem_of_getElem? (i := 277) (by decide +kernel))) rfl
theorem ml_X5_buy : Cond.selects yX5_buy.cls yX5_buy yX5_buy ∈ allw := aw (List.mem_append_right _ (List.mem_of_getElem? (i := 278) (by decide +kernel))) rfl
theorem mm_X0_addStraps : lkM yX0_addStraps cX0_addStraps 2 (some .int) 1 := ⟨aw (List.mem_append_right _ (List.mem_of_getElem? (i := 2) (by decide +kernel))) rfl, aw (List.mem_append_right _ (List.mem_of_getElem? (i := 283) (by decide +kernel))) rfl, ⟨by decide +kernel, by decide +kernel, by decide +kernel⟩, by decide⟩
theorem pl_X0_addStraps : plainName yX0_addStraps.cls = true := by decide +kernel
theorem mi_X0_addStraps : Cond.instanceMethod yX0_addStraps ∈ allw := aw (List.mem_append_right _ (List.mem_of_getElem? (i := 281) (by decide +kernel))) rfl
theorem ml_X0_addStraps : Cond.selects yX0_addStraps.cls yX0_addStraps yX0_addStraps ∈ allw := aw (List.mem_append_right _ (List.mem_of_getElem? (i := 282) (by decide +kernel))) rfl
theorem mm_X5_isKind : lkM yX5_isKind cX5_isKind 1 (some .boolean) 1 := ⟨aw (List.mem_append_right _ (List.mem_of_getElem? (i := 1) (by decide +kernel))) rfl, aw (List.mem_append_right _ (List.mem_of_getElem? (i := 286) (by decide +kernel))) rfl, ⟨by decide +kernel, by decide +kernel, by decide +kernel⟩, by decide⟩
theorem pl_X5_isKind : plainName yX5_isKind.cls = true := by decide +kernel
theorem ms_X5_isKind : Cond.static yX5_isKind ∈ allw := aw (List.mem_append_right _ (List.mem_of_getElem? (i := 285) (by decide +kernel))) rfl
theorem mm_X5_job : lkM yX5_job cX5_job 6 (some .int) 5 := ⟨aw (List.mem_append_right _ (List.mem_of_getElem? (i := 1) (by decide +kernel))) rfl, aw (List.mem_append_right _ (List.mem_of_getElem? (i := 290) (by decide +kernel))) rfl, ⟨by decide +kernel, by decide +kernel, by decide +kernel⟩, by decide⟩
theorem pl_X5_job : plainName yX5_job.cls = true := by decide +kernel
theorem mi_X5_job : Cond.instanceMethod yX5_job ∈ allw := aw (List.mem_append_right _ (List.mem_of_getElem? (i := 288) (by decide +kernel))) rfl
theorem ml_X5_job : Cond.selects yX5_job.cls yX5_job yX5_job ∈ allw := aw (List.mem_append_right _ (List.mem_of_getElem? (i := 289) (by decide +kernel))) rfl
theorem mm_X0_addJob : lkM yX0_addJob cX0_addJob 6 (some .int) 5 := ⟨aw (List.mem_append_right _ (List.mem_of_getElem? (i := 2) (by decide +kernel))) rfl, aw (List.mem_append_right _ (List.mem_of_getElem? (i := 294) (by decide +kernel))) rfl, ⟨by decide +kernel, by decide +kernel, by decide +kernel⟩, by decide⟩
theorem pl_X0_addJob : plainName yX0_addJob.cls = true := by decide +kernel
theorem mi_X0_addJob : Cond.instanceMethod yX0_addJob ∈ allw := aw (List.mem_append_right _ (List.mem_of_getElem? (i := 292) (by decide +kernel))) rfl
theorem ml_X0_addJob : Cond.selects yX0_addJob.cls yX0_addJob yX0_addJob ∈ allw := aw (List.mem_append_right _ (List.mem_of_getElem? (i := 293) (by decide +kernel))) rfl
theorem mm_X2_come : lkM yX2_come cX2_come 6 none 5 := ⟨aw (List.mem_append_right _ (List.mem_of_getElem? (i := 4) (by decide +kernel))) rfl, aw (List.mem_append_right _ (List.mem_of_getElem? (i := 298) (by decide +kernel))) rfl, ⟨by decide +kernel, by decide +kernel, by decide +kernel⟩, by decide⟩
theorem pl_X2_come : plainName yX2_come.cls = true := by decide +kernel
theorem mi_X2_come : Cond.instanceMethod yX2_come ∈ allw := aw (List.mem_append_right _ (List.mem_of_getElem? (i := 296) (by decide +kernel))) rfl
theorem ml_X2_come : Cond.selects yX2_come.cls yX2_come yX2_come ∈ allw := aw (List.mem_append_right _ (List.mem_of_getElem? (i := 297) (by decide +kernel))) rfl
theorem mm_X5_begin : lkM yX5_begin cX5_begin 4 (some .int) 3 := ⟨aw (List.mem_append_right _ (List.mem_of_getElem? (i := 1) (by decide +kernel))) rfl, aw (List.mem_append_right _ (List.mem_of_getElem? (i := 302) (by decide +kernel))) rfl, ⟨by decide +kernel, by decide +kernel, by decide +kernel⟩, by decide⟩
theorem pl_X5_begin : plainName yX5_begin.cls = true := by decide +kernel
theorem mi_X5_begin : Cond.instanceMethod yX5_begin ∈ allw := aw (List.mem_append_right _ (List.mem_of_getElem? (i := 300) (by decide +kernel))) rfl
theorem ml_X5_begin : Cond.selects yX5_begin.cls yX5_begin yX5_begin ∈ allw := aw (List.mem_append_right _ (List.mem_of_getElem? (i := 301) (by decide +kernel))) rfl
theorem mm_X0_beginJob : lkM yX0_beginJob cX0_beginJob 6 (some .int) 3 := ⟨aw (List.mem_append_right _ (List.mem_of_getElem? (i := 2) (by decide +kernel))) rfl, aw (List.mem_append_right _ (List.mem_of_getElem? (i := 306) (by decide +kernel))) rfl, ⟨by decide +kernel, by decide +kernel, by decide +kernel⟩, by decide⟩
theorem pl_X0_beginJob : plainName yX0_beginJob.cls = true := by decide +kernel
theorem mi_X0_beginJob : Cond.instanceMethod yX0_beginJob ∈ allw := aw (List.mem_append_right _ (List.mem_of_getElem? (i := 304) (by decide +kernel))) rfl
theorem ml_X0_beginJob : Cond.selects yX0_beginJob.cls yX0_beginJob yX0_beginJob ∈ allw := aw (List.mem_append_right _ (List.mem_of_getElem? (i := 305) (by decide +kernel))) rfl
theorem mm_X0_whyNot : lkM yX0_whyNot cX0_whyNot 4 (some .int) 3 := ⟨aw (List.mem_append_right _ (List.mem_of_getElem? (i := 2) (by decide +kernel))) rfl, aw (List.mem_append_right _ (List.mem_of_getElem? (i := 310) (by decide +kernel))) rfl, ⟨by decide +kernel, by decide +kernel, by decide +kernel⟩, by decide⟩
theorem pl_X0_whyNot : plainName yX0_whyNot.cls = true := by decide +kernel
theorem mi_X0_whyNot : Cond.instanceMethod yX0_whyNot ∈ allw := aw (List.mem_append_right _ (List.mem_of_getElem? (i := 308) (by decide +kernel))) rfl
theorem ml_X0_whyNot : Cond.selects yX0_whyNot.cls yX0_whyNot yX0_whyNot ∈ allw := aw (List.mem_append_right _ (List.mem_of_getElem? (i := 309) (by decide +kernel))) rfl
theorem mm_X0_hasJob : lkM yX0_hasJob cX0_hasJob 2 (some .boolean) 1 := ⟨aw (List.mem_append_right _ (List.mem_of_getElem? (i := 2) (by decide +kernel))) rfl, aw (List.mem_append_right _ (List.mem_of_getElem? (i := 314) (by decide +kernel))) rfl, ⟨by decide +kernel, by decide +kernel, by decide +kernel⟩, by decide⟩
theorem pl_X0_hasJob : plainName yX0_hasJob.cls = true := by decide +kernel
theorem mi_X0_hasJob : Cond.instanceMethod yX0_hasJob ∈ allw := aw (List.mem_append_right _ (List.mem_of_getElem? (i := 312) (by decide +kernel))) rfl
theorem ml_X0_hasJob : Cond.selects yX0_hasJob.cls yX0_hasJob yX0_hasJob ∈ allw := aw (List.mem_append_right _ (List.mem_of_getElem? (i := 313) (by decide +kernel))) rfl
theorem mm_X5_isKindOrNone : lkM yX5_isKindOrNone cX5_isKindOrNone 1 (some .boolean) 1 := ⟨aw (List.mem_append_right _ (List.mem_of_getElem? (i := 1) (by decide +kernel))) rfl, aw (List.mem_append_right _ (List.mem_of_getElem? (i := 317) (by decide +kernel))) rfl, ⟨by decide +kernel, by decide +kernel, by decide +kernel⟩, by decide⟩
theorem pl_X5_isKindOrNone : plainName yX5_isKindOrNone.cls = true := by decide +kernel
theorem ms_X5_isKindOrNone : Cond.static yX5_isKindOrNone ∈ allw := aw (List.mem_append_right _ (List.mem_of_getElem? (i := 316) (by decide +kernel))) rfl
theorem mm_X0_isCrew : lkM yX0_isCrew cX0_isCrew 3 (some .boolean) 1 := ⟨aw (List.mem_append_right _ (List.mem_of_getElem? (i := 2) (by decide +kernel))) rfl, aw (List.mem_append_right _ (List.mem_of_getElem? (i := 322) (by decide +kernel))) rfl, ⟨by decide +kernel, by decide +kernel, by decide +kernel⟩, by decide⟩
theorem pl_X0_isCrew : plainName yX0_isCrew.cls = true := by decide +kernel
theorem mi_X0_isCrew : Cond.instanceMethod yX0_isCrew ∈ allw := aw (List.mem_append_right _ (List.mem_of_getElem? (i := 321) (by decide +kernel))) rfl
theorem ml_X0_isCrew : Cond.selects yX0_isCrew.cls yX0_isCrew yX0_isCrew ∈ allw := aw (List.mem_append_left _ (List.mem_of_getElem? (i := 0) (by decide +kernel))) rfl
theorem mm_J6_bitCount_0f7a4 : lkM yJ6_bitCount_0f7a4 cJ6_bitCount_0f7a4 1 (some .int) 1 := ⟨aw (List.mem_append_right _ (List.mem_of_getElem? (i := 9) (by decide +kernel))) rfl, aw (List.mem_append_right _ (List.mem_of_getElem? (i := 325) (by decide +kernel))) rfl, ⟨by decide +kernel, by decide +kernel, by decide +kernel⟩, by decide⟩
theorem pl_J6_bitCount_0f7a4 : plainName yJ6_bitCount_0f7a4.cls = true := by decide +kernel
theorem ms_J6_bitCount_0f7a4 : Cond.static yJ6_bitCount_0f7a4 ∈ allw := aw (List.mem_append_right _ (List.mem_of_getElem? (i := 324) (by decide +kernel))) rfl
theorem mm_X0_busyPeople : lkM yX0_busyPeople cX0_busyPeople 3 (some .int) 0 := ⟨aw (List.mem_append_right _ (List.mem_of_getElem? (i := 2) (by decide +kernel))) rfl, aw (List.mem_append_right _ (List.mem_of_getElem? (i := 332) (by decide +kernel))) rfl, ⟨by decide +kernel, by decide +kernel, by decide +kernel⟩, by decide⟩
theorem pl_X0_busyPeople : plainName yX0_busyPeople.cls = true := by decide +kernel
theorem mi_X0_busyPeople : Cond.instanceMethod yX0_busyPeople ∈ allw := aw (List.mem_append_right _ (List.mem_of_getElem? (i := 330) (by decide +kernel))) rfl
theorem ml_X0_busyPeople : Cond.selects yX0_busyPeople.cls yX0_busyPeople yX0_busyPeople ∈ allw := aw (List.mem_append_right _ (List.mem_of_getElem? (i := 331) (by decide +kernel))) rfl
theorem mm_X0_canHaveStraps : lkM yX0_canHaveStraps cX0_canHaveStraps 3 (some .boolean) 2 := ⟨aw (List.mem_append_right _ (List.mem_of_getElem? (i := 2) (by decide +kernel))) rfl, aw (List.mem_append_right _ (List.mem_of_getElem? (i := 336) (by decide +kernel))) rfl, ⟨by decide +kernel, by decide +kernel, by decide +kernel⟩, by decide⟩
theorem pl_X0_canHaveStraps : plainName yX0_canHaveStraps.cls = true := by decide +kernel
theorem mi_X0_canHaveStraps : Cond.instanceMethod yX0_canHaveStraps ∈ allw := aw (List.mem_append_right _ (List.mem_of_getElem? (i := 334) (by decide +kernel))) rfl
theorem ml_X0_canHaveStraps : Cond.selects yX0_canHaveStraps.cls yX0_canHaveStraps yX0_canHaveStraps ∈ allw := aw (List.mem_append_right _ (List.mem_of_getElem? (i := 335) (by decide +kernel))) rfl
theorem mm_X0_strengthOf : lkM yX0_strengthOf cX0_strengthOf 4 (some .int) 1 := ⟨aw (List.mem_append_right _ (List.mem_of_getElem? (i := 2) (by decide +kernel))) rfl, aw (List.mem_append_right _ (List.mem_of_getElem? (i := 340) (by decide +kernel))) rfl, ⟨by decide +kernel, by decide +kernel, by decide +kernel⟩, by decide⟩
theorem pl_X0_strengthOf : plainName yX0_strengthOf.cls = true := by decide +kernel
theorem mi_X0_strengthOf : Cond.instanceMethod yX0_strengthOf ∈ allw := aw (List.mem_append_right _ (List.mem_of_getElem? (i := 338) (by decide +kernel))) rfl
theorem ml_X0_strengthOf : Cond.selects yX0_strengthOf.cls yX0_strengthOf yX0_strengthOf ∈ allw := aw (List.mem_append_right _ (List.mem_of_getElem? (i := 339) (by decide +kernel))) rfl
theorem mm_X5_isIn : lkM yX5_isIn cX5_isIn 2 (some .boolean) 2 := ⟨aw (List.mem_append_right _ (List.mem_of_getElem? (i := 1) (by decide +kernel))) rfl, aw (List.mem_append_right _ (List.mem_of_getElem? (i := 343) (by decide +kernel))) rfl, ⟨by decide +kernel, by decide +kernel, by decide +kernel⟩, by decide⟩
theorem pl_X5_isIn : plainName yX5_isIn.cls = true := by decide +kernel
theorem ms_X5_isIn : Cond.static yX5_isIn ∈ allw := aw (List.mem_append_right _ (List.mem_of_getElem? (i := 342) (by decide +kernel))) rfl
theorem mm_X0_loadWith : lkM yX0_loadWith cX0_loadWith 4 (some .int) 2 := ⟨aw (List.mem_append_right _ (List.mem_of_getElem? (i := 2) (by decide +kernel))) rfl, aw (List.mem_append_right _ (List.mem_of_getElem? (i := 347) (by decide +kernel))) rfl, ⟨by decide +kernel, by decide +kernel, by decide +kernel⟩, by decide⟩
theorem pl_X0_loadWith : plainName yX0_loadWith.cls = true := by decide +kernel
theorem mi_X0_loadWith : Cond.instanceMethod yX0_loadWith ∈ allw := aw (List.mem_append_right _ (List.mem_of_getElem? (i := 345) (by decide +kernel))) rfl
theorem ml_X0_loadWith : Cond.selects yX0_loadWith.cls yX0_loadWith yX0_loadWith ∈ allw := aw (List.mem_append_right _ (List.mem_of_getElem? (i := 346) (by decide +kernel))) rfl
theorem mm_X0_loadNow : lkM yX0_loadNow cX0_loadNow 2 (some .int) 1 := ⟨aw (List.mem_append_right _ (List.mem_of_getElem? (i := 2) (by decide +kernel))) rfl, aw (List.mem_append_right _ (List.mem_of_getElem? (i := 353) (by decide +kernel))) rfl, ⟨by decide +kernel, by decide +kernel, by decide +kernel⟩, by decide⟩
theorem pl_X0_loadNow : plainName yX0_loadNow.cls = true := by decide +kernel
theorem mi_X0_loadNow : Cond.instanceMethod yX0_loadNow ∈ allw := aw (List.mem_append_right _ (List.mem_of_getElem? (i := 351) (by decide +kernel))) rfl
theorem ml_X0_loadNow : Cond.selects yX0_loadNow.cls yX0_loadNow yX0_loadNow ∈ allw := aw (List.mem_append_right _ (List.mem_of_getElem? (i := 352) (by decide +kernel))) rfl
theorem mm_X0_placeCrew : lkM yX0_placeCrew cX0_placeCrew 4 none 2 := ⟨aw (List.mem_append_right _ (List.mem_of_getElem? (i := 2) (by decide +kernel))) rfl, aw (List.mem_append_right _ (List.mem_of_getElem? (i := 357) (by decide +kernel))) rfl, ⟨by decide +kernel, by decide +kernel, by decide +kernel⟩, by decide⟩
theorem pl_X0_placeCrew : plainName yX0_placeCrew.cls = true := by decide +kernel
theorem mi_X0_placeCrew : Cond.instanceMethod yX0_placeCrew ∈ allw := aw (List.mem_append_right _ (List.mem_of_getElem? (i := 356) (by decide +kernel))) rfl
theorem ml_X0_placeCrew : Cond.selects yX0_placeCrew.cls yX0_placeCrew yX0_placeCrew ∈ allw := aw (List.mem_append_left _ (List.mem_of_getElem? (i := 1) (by decide +kernel))) rfl
theorem mm_X5_assign : lkM yX5_assign cX5_assign 1 (some .int) 0 := ⟨aw (List.mem_append_right _ (List.mem_of_getElem? (i := 1) (by decide +kernel))) rfl, aw (List.mem_append_right _ (List.mem_of_getElem? (i := 361) (by decide +kernel))) rfl, ⟨by decide +kernel, by decide +kernel, by decide +kernel⟩, by decide⟩
theorem pl_X5_assign : plainName yX5_assign.cls = true := by decide +kernel
theorem mi_X5_assign : Cond.instanceMethod yX5_assign ∈ allw := aw (List.mem_append_right _ (List.mem_of_getElem? (i := 359) (by decide +kernel))) rfl
theorem ml_X5_assign : Cond.selects yX5_assign.cls yX5_assign yX5_assign ∈ allw := aw (List.mem_append_right _ (List.mem_of_getElem? (i := 360) (by decide +kernel))) rfl
theorem mm_X0_assignJobs : lkM yX0_assignJobs cX0_assignJobs 6 (some .int) 0 := ⟨aw (List.mem_append_right _ (List.mem_of_getElem? (i := 2) (by decide +kernel))) rfl, aw (List.mem_append_right _ (List.mem_of_getElem? (i := 365) (by decide +kernel))) rfl, ⟨by decide +kernel, by decide +kernel, by decide +kernel⟩, by decide⟩
theorem pl_X0_assignJobs : plainName yX0_assignJobs.cls = true := by decide +kernel
theorem mi_X0_assignJobs : Cond.instanceMethod yX0_assignJobs ∈ allw := aw (List.mem_append_right _ (List.mem_of_getElem? (i := 363) (by decide +kernel))) rfl
theorem ml_X0_assignJobs : Cond.selects yX0_assignJobs.cls yX0_assignJobs yX0_assignJobs ∈ allw := aw (List.mem_append_right _ (List.mem_of_getElem? (i := 364) (by decide +kernel))) rfl
theorem mm_X0_nextWaiting : lkM yX0_nextWaiting cX0_nextWaiting 5 (some .int) 1 := ⟨aw (List.mem_append_right _ (List.mem_of_getElem? (i := 2) (by decide +kernel))) rfl, aw (List.mem_append_right _ (List.mem_of_getElem? (i := 369) (by decide +kernel))) rfl, ⟨by decide +kernel, by decide +kernel, by decide +kernel⟩, by decide⟩
theorem pl_X0_nextWaiting : plainName yX0_nextWaiting.cls = true := by decide +kernel
theorem mi_X0_nextWaiting : Cond.instanceMethod yX0_nextWaiting ∈ allw := aw (List.mem_append_right _ (List.mem_of_getElem? (i := 368) (by decide +kernel))) rfl
theorem ml_X0_nextWaiting : Cond.selects yX0_nextWaiting.cls yX0_nextWaiting yX0_nextWaiting ∈ allw := aw (List.mem_append_left _ (List.mem_of_getElem? (i := 2) (by decide +kernel))) rfl
theorem mm_X0_isAhead : lkM yX0_isAhead cX0_isAhead 3 (some .boolean) 2 := ⟨aw (List.mem_append_right _ (List.mem_of_getElem? (i := 2) (by decide +kernel))) rfl, aw (List.mem_append_right _ (List.mem_of_getElem? (i := 373) (by decide +kernel))) rfl, ⟨by decide +kernel, by decide +kernel, by decide +kernel⟩, by decide⟩
theorem pl_X0_isAhead : plainName yX0_isAhead.cls = true := by decide +kernel
theorem mi_X0_isAhead : Cond.instanceMethod yX0_isAhead ∈ allw := aw (List.mem_append_right _ (List.mem_of_getElem? (i := 372) (by decide +kernel))) rfl
theorem ml_X0_isAhead : Cond.selects yX0_isAhead.cls yX0_isAhead yX0_isAhead ∈ allw := aw (List.mem_append_left _ (List.mem_of_getElem? (i := 3) (by decide +kernel))) rfl
theorem mm_X2_isAheadOfLater : lkM yX2_isAheadOfLater cX2_isAheadOfLater 2 (some .boolean) 1 := ⟨aw (List.mem_append_right _ (List.mem_of_getElem? (i := 4) (by decide +kernel))) rfl, aw (List.mem_append_right _ (List.mem_of_getElem? (i := 377) (by decide +kernel))) rfl, ⟨by decide +kernel, by decide +kernel, by decide +kernel⟩, by decide⟩
theorem pl_X2_isAheadOfLater : plainName yX2_isAheadOfLater.cls = true := by decide +kernel
theorem mi_X2_isAheadOfLater : Cond.instanceMethod yX2_isAheadOfLater ∈ allw := aw (List.mem_append_right _ (List.mem_of_getElem? (i := 375) (by decide +kernel))) rfl
theorem ml_X2_isAheadOfLater : Cond.selects yX2_isAheadOfLater.cls yX2_isAheadOfLater yX2_isAheadOfLater ∈ allw := aw (List.mem_append_right _ (List.mem_of_getElem? (i := 376) (by decide +kernel))) rfl
theorem mm_X0_fewestPeopleStraps : lkM yX0_fewestPeopleStraps cX0_fewestPeopleStraps 6 (some .int) 1 := ⟨aw (List.mem_append_right _ (List.mem_of_getElem? (i := 2) (by decide +kernel))) rfl, aw (List.mem_append_right _ (List.mem_of_getElem? (i := 381) (by decide +kernel))) rfl, ⟨by decide +kernel, by decide +kernel, by decide +kernel⟩, by decide⟩
theorem pl_X0_fewestPeopleStraps : plainName yX0_fewestPeopleStraps.cls = true := by decide +kernel
theorem mi_X0_fewestPeopleStraps : Cond.instanceMethod yX0_fewestPeopleStraps ∈ allw := aw (List.mem_append_right _ (List.mem_of_getElem? (i := 379) (by decide +kernel))) rfl
theorem ml_X0_fewestPeopleStraps : Cond.selects yX0_fewestPeopleStraps.cls yX0_fewestPeopleStraps yX0_fewestPeopleStraps ∈ allw := aw (List.mem_append_right _ (List.mem_of_getElem? (i := 380) (by decide +kernel))) rfl
theorem mm_X0_crewByItself : lkM yX0_crewByItself cX0_crewByItself 9 (some .int) 2 := ⟨aw (List.mem_append_right _ (List.mem_of_getElem? (i := 2) (by decide +kernel))) rfl, aw (List.mem_append_right _ (List.mem_of_getElem? (i := 385) (by decide +kernel))) rfl, ⟨by decide +kernel, by decide +kernel, by decide +kernel⟩, by decide⟩
theorem pl_X0_crewByItself : plainName yX0_crewByItself.cls = true := by decide +kernel
theorem mi_X0_crewByItself : Cond.instanceMethod yX0_crewByItself ∈ allw := aw (List.mem_append_right _ (List.mem_of_getElem? (i := 383) (by decide +kernel))) rfl
theorem ml_X0_crewByItself : Cond.selects yX0_crewByItself.cls yX0_crewByItself yX0_crewByItself ∈ allw := aw (List.mem_append_right _ (List.mem_of_getElem? (i := 384) (by decide +kernel))) rfl
theorem mm_X0_strongestOutside : lkM yX0_strongestOutside cX0_strongestOutside 5 (some .int) 1 := ⟨aw (List.mem_append_right _ (List.mem_of_getElem? (i := 2) (by decide +kernel))) rfl, aw (List.mem_append_right _ (List.mem_of_getElem? (i := 389) (by decide +kernel))) rfl, ⟨by decide +kernel, by decide +kernel, by decide +kernel⟩, by decide⟩
theorem pl_X0_strongestOutside : plainName yX0_strongestOutside.cls = true := by decide +kernel
theorem mi_X0_strongestOutside : Cond.instanceMethod yX0_strongestOutside ∈ allw := aw (List.mem_append_right _ (List.mem_of_getElem? (i := 388) (by decide +kernel))) rfl
theorem ml_X0_strongestOutside : Cond.selects yX0_strongestOutside.cls yX0_strongestOutside yX0_strongestOutside ∈ allw := aw (List.mem_append_left _ (List.mem_of_getElem? (i := 4) (by decide +kernel))) rfl
theorem mm_X0_hasPerson : lkM yX0_hasPerson cX0_hasPerson 2 (some .boolean) 1 := ⟨aw (List.mem_append_right _ (List.mem_of_getElem? (i := 2) (by decide +kernel))) rfl, aw (List.mem_append_right _ (List.mem_of_getElem? (i := 393) (by decide +kernel))) rfl, ⟨by decide +kernel, by decide +kernel, by decide +kernel⟩, by decide⟩
theorem pl_X0_hasPerson : plainName yX0_hasPerson.cls = true := by decide +kernel
theorem mi_X0_hasPerson : Cond.instanceMethod yX0_hasPerson ∈ allw := aw (List.mem_append_right _ (List.mem_of_getElem? (i := 391) (by decide +kernel))) rfl
theorem ml_X0_hasPerson : Cond.selects yX0_hasPerson.cls yX0_hasPerson yX0_hasPerson ∈ allw := aw (List.mem_append_right _ (List.mem_of_getElem? (i := 392) (by decide +kernel))) rfl
theorem mm_X5_delay : lkM yX5_delay cX5_delay 3 (some .int) 2 := ⟨aw (List.mem_append_right _ (List.mem_of_getElem? (i := 1) (by decide +kernel))) rfl, aw (List.mem_append_right _ (List.mem_of_getElem? (i := 398) (by decide +kernel))) rfl, ⟨by decide +kernel, by decide +kernel, by decide +kernel⟩, by decide⟩
theorem pl_X5_delay : plainName yX5_delay.cls = true := by decide +kernel
theorem mi_X5_delay : Cond.instanceMethod yX5_delay ∈ allw := aw (List.mem_append_right _ (List.mem_of_getElem? (i := 396) (by decide +kernel))) rfl
theorem ml_X5_delay : Cond.selects yX5_delay.cls yX5_delay yX5_delay ∈ allw := aw (List.mem_append_right _ (List.mem_of_getElem? (i := 397) (by decide +kernel))) rfl
theorem mm_X0_delayJob : lkM yX0_delayJob cX0_delayJob 3 (some .int) 2 := ⟨aw (List.mem_append_right _ (List.mem_of_getElem? (i := 2) (by decide +kernel))) rfl, aw (List.mem_append_right _ (List.mem_of_getElem? (i := 402) (by decide +kernel))) rfl, ⟨by decide +kernel, by decide +kernel, by decide +kernel⟩, by decide⟩
theorem pl_X0_delayJob : plainName yX0_delayJob.cls = true := by decide +kernel
theorem mi_X0_delayJob : Cond.instanceMethod yX0_delayJob ∈ allw := aw (List.mem_append_right _ (List.mem_of_getElem? (i := 400) (by decide +kernel))) rfl
theorem ml_X0_delayJob : Cond.selects yX0_delayJob.cls yX0_delayJob yX0_delayJob ∈ allw := aw (List.mem_append_right _ (List.mem_of_getElem? (i := 401) (by decide +kernel))) rfl
theorem mm_X5_callOff : lkM yX5_callOff cX5_callOff 2 (some .int) 1 := ⟨aw (List.mem_append_right _ (List.mem_of_getElem? (i := 1) (by decide +kernel))) rfl, aw (List.mem_append_right _ (List.mem_of_getElem? (i := 406) (by decide +kernel))) rfl, ⟨by decide +kernel, by decide +kernel, by decide +kernel⟩, by decide⟩
theorem pl_X5_callOff : plainName yX5_callOff.cls = true := by decide +kernel
theorem mi_X5_callOff : Cond.instanceMethod yX5_callOff ∈ allw := aw (List.mem_append_right _ (List.mem_of_getElem? (i := 404) (by decide +kernel))) rfl
theorem ml_X5_callOff : Cond.selects yX5_callOff.cls yX5_callOff yX5_callOff ∈ allw := aw (List.mem_append_right _ (List.mem_of_getElem? (i := 405) (by decide +kernel))) rfl
theorem mm_X0_callOffJob : lkM yX0_callOffJob cX0_callOffJob 3 (some .int) 1 := ⟨aw (List.mem_append_right _ (List.mem_of_getElem? (i := 2) (by decide +kernel))) rfl, aw (List.mem_append_right _ (List.mem_of_getElem? (i := 410) (by decide +kernel))) rfl, ⟨by decide +kernel, by decide +kernel, by decide +kernel⟩, by decide⟩
theorem pl_X0_callOffJob : plainName yX0_callOffJob.cls = true := by decide +kernel
theorem mi_X0_callOffJob : Cond.instanceMethod yX0_callOffJob ∈ allw := aw (List.mem_append_right _ (List.mem_of_getElem? (i := 408) (by decide +kernel))) rfl
theorem ml_X0_callOffJob : Cond.selects yX0_callOffJob.cls yX0_callOffJob yX0_callOffJob ∈ allw := aw (List.mem_append_right _ (List.mem_of_getElem? (i := 409) (by decide +kernel))) rfl
theorem mm_X0_endJob : lkM yX0_endJob cX0_endJob 3 none 2 := ⟨aw (List.mem_append_right _ (List.mem_of_getElem? (i := 2) (by decide +kernel))) rfl, aw (List.mem_append_right _ (List.mem_of_getElem? (i := 414) (by decide +kernel))) rfl, ⟨by decide +kernel, by decide +kernel, by decide +kernel⟩, by decide⟩
theorem pl_X0_endJob : plainName yX0_endJob.cls = true := by decide +kernel
theorem mi_X0_endJob : Cond.instanceMethod yX0_endJob ∈ allw := aw (List.mem_append_right _ (List.mem_of_getElem? (i := 413) (by decide +kernel))) rfl
theorem ml_X0_endJob : Cond.selects yX0_endJob.cls yX0_endJob yX0_endJob ∈ allw := aw (List.mem_append_left _ (List.mem_of_getElem? (i := 5) (by decide +kernel))) rfl
theorem mm_X5_pass : lkM yX5_pass cX5_pass 2 (some .int) 1 := ⟨aw (List.mem_append_right _ (List.mem_of_getElem? (i := 1) (by decide +kernel))) rfl, aw (List.mem_append_right _ (List.mem_of_getElem? (i := 418) (by decide +kernel))) rfl, ⟨by decide +kernel, by decide +kernel, by decide +kernel⟩, by decide⟩
theorem pl_X5_pass : plainName yX5_pass.cls = true := by decide +kernel
theorem mi_X5_pass : Cond.instanceMethod yX5_pass ∈ allw := aw (List.mem_append_right _ (List.mem_of_getElem? (i := 416) (by decide +kernel))) rfl
theorem ml_X5_pass : Cond.selects yX5_pass.cls yX5_pass yX5_pass ∈ allw := aw (List.mem_append_right _ (List.mem_of_getElem? (i := 417) (by decide +kernel))) rfl
theorem mm_X0_passHours : lkM yX0_passHours cX0_passHours 4 (some .int) 1 := ⟨aw (List.mem_append_right _ (List.mem_of_getElem? (i := 2) (by decide +kernel))) rfl, aw (List.mem_append_right _ (List.mem_of_getElem? (i := 422) (by decide +kernel))) rfl, ⟨by decide +kernel, by decide +kernel, by decide +kernel⟩, by decide⟩
theorem pl_X0_passHours : plainName yX0_passHours.cls = true := by decide +kernel
theorem mi_X0_passHours : Cond.instanceMethod yX0_passHours ∈ allw := aw (List.mem_append_right _ (List.mem_of_getElem? (i := 420) (by decide +kernel))) rfl
theorem ml_X0_passHours : Cond.selects yX0_passHours.cls yX0_passHours yX0_passHours ∈ allw := aw (List.mem_append_right _ (List.mem_of_getElem? (i := 421) (by decide +kernel))) rfl
theorem mm_X0_passOneHour : lkM yX0_passOneHour cX0_passOneHour 4 (some .int) 0 := ⟨aw (List.mem_append_right _ (List.mem_of_getElem? (i := 2) (by decide +kernel))) rfl, aw (List.mem_append_right _ (List.mem_of_getElem? (i := 426) (by decide +kernel))) rfl, ⟨by decide +kernel, by decide +kernel, by decide +kernel⟩, by decide⟩
theorem pl_X0_passOneHour : plainName yX0_passOneHour.cls = true := by decide +kernel
theorem mi_X0_passOneHour : Cond.instanceMethod yX0_passOneHour ∈ allw := aw (List.mem_append_right _ (List.mem_of_getElem? (i := 425) (by decide +kernel))) rfl
theorem ml_X0_passOneHour : Cond.selects yX0_passOneHour.cls yX0_passOneHour yX0_passOneHour ∈ allw := aw (List.mem_append_left _ (List.mem_of_getElem? (i := 6) (by decide +kernel))) rfl
theorem mm_X0_workOneHour : lkM yX0_workOneHour cX0_workOneHour 3 (some .boolean) 1 := ⟨aw (List.mem_append_right _ (List.mem_of_getElem? (i := 2) (by decide +kernel))) rfl, aw (List.mem_append_right _ (List.mem_of_getElem? (i := 430) (by decide +kernel))) rfl, ⟨by decide +kernel, by decide +kernel, by decide +kernel⟩, by decide⟩
theorem pl_X0_workOneHour : plainName yX0_workOneHour.cls = true := by decide +kernel
theorem mi_X0_workOneHour : Cond.instanceMethod yX0_workOneHour ∈ allw := aw (List.mem_append_right _ (List.mem_of_getElem? (i := 428) (by decide +kernel))) rfl
theorem ml_X0_workOneHour : Cond.selects yX0_workOneHour.cls yX0_workOneHour yX0_workOneHour ∈ allw := aw (List.mem_append_right _ (List.mem_of_getElem? (i := 429) (by decide +kernel))) rfl
theorem mm_X0_restPeople : lkM yX0_restPeople cX0_restPeople 3 none 1 := ⟨aw (List.mem_append_right _ (List.mem_of_getElem? (i := 2) (by decide +kernel))) rfl, aw (List.mem_append_right _ (List.mem_of_getElem? (i := 434) (by decide +kernel))) rfl, ⟨by decide +kernel, by decide +kernel, by decide +kernel⟩, by decide⟩
theorem pl_X0_restPeople : plainName yX0_restPeople.cls = true := by decide +kernel
theorem mi_X0_restPeople : Cond.instanceMethod yX0_restPeople ∈ allw := aw (List.mem_append_right _ (List.mem_of_getElem? (i := 433) (by decide +kernel))) rfl
theorem ml_X0_restPeople : Cond.selects yX0_restPeople.cls yX0_restPeople yX0_restPeople ∈ allw := aw (List.mem_append_left _ (List.mem_of_getElem? (i := 7) (by decide +kernel))) rfl
theorem mm_X4_rest : lkM yX4_rest cX4_rest 2 none 1 := ⟨aw (List.mem_append_right _ (List.mem_of_getElem? (i := 3) (by decide +kernel))) rfl, aw (List.mem_append_right _ (List.mem_of_getElem? (i := 438) (by decide +kernel))) rfl, ⟨by decide +kernel, by decide +kernel, by decide +kernel⟩, by decide⟩
theorem pl_X4_rest : plainName yX4_rest.cls = true := by decide +kernel
theorem mi_X4_rest : Cond.instanceMethod yX4_rest ∈ allw := aw (List.mem_append_right _ (List.mem_of_getElem? (i := 436) (by decide +kernel))) rfl
theorem ml_X4_rest : Cond.selects yX4_rest.cls yX4_rest yX4_rest ∈ allw := aw (List.mem_append_right _ (List.mem_of_getElem? (i := 437) (by decide +kernel))) rfl
theorem mm_X0_carryHour : lkM yX0_carryHour cX0_carryHour 4 none 2 := ⟨aw (List.mem_append_right _ (List.mem_of_getElem? (i := 2) (by decide +kernel))) rfl, aw (List.mem_append_right _ (List.mem_of_getElem? (i := 445) (by decide +kernel))) rfl, ⟨by decide +kernel, by decide +kernel, by decide +kernel⟩, by decide⟩
theorem pl_X0_carryHour : plainName yX0_carryHour.cls = true := by decide +kernel
theorem mi_X0_carryHour : Cond.instanceMethod yX0_carryHour ∈ allw := aw (List.mem_append_right _ (List.mem_of_getElem? (i := 444) (by decide +kernel))) rfl
theorem ml_X0_carryHour : Cond.selects yX0_carryHour.cls yX0_carryHour yX0_carryHour ∈ allw := aw (List.mem_append_left _ (List.mem_of_getElem? (i := 8) (by decide +kernel))) rfl
theorem mm_X4_carry : lkM yX4_carry cX4_carry 2 none 1 := ⟨aw (List.mem_append_right _ (List.mem_of_getElem? (i := 3) (by decide +kernel))) rfl, aw (List.mem_append_right _ (List.mem_of_getElem? (i := 449) (by decide +kernel))) rfl, ⟨by decide +kernel, by decide +kernel, by decide +kernel⟩, by decide⟩
theorem pl_X4_carry : plainName yX4_carry.cls = true := by decide +kernel
theorem mi_X4_carry : Cond.instanceMethod yX4_carry ∈ allw := aw (List.mem_append_right _ (List.mem_of_getElem? (i := 447) (by decide +kernel))) rfl
theorem ml_X4_carry : Cond.selects yX4_carry.cls yX4_carry yX4_carry ∈ allw := aw (List.mem_append_right _ (List.mem_of_getElem? (i := 448) (by decide +kernel))) rfl
theorem mm_X5_of : lkM yX5_of cX5_of 3 (some .int) 2 := ⟨aw (List.mem_append_right _ (List.mem_of_getElem? (i := 1) (by decide +kernel))) rfl, aw (List.mem_append_right _ (List.mem_of_getElem? (i := 456) (by decide +kernel))) rfl, ⟨by decide +kernel, by decide +kernel, by decide +kernel⟩, by decide⟩
theorem pl_X5_of : plainName yX5_of.cls = true := by decide +kernel
theorem mi_X5_of : Cond.instanceMethod yX5_of ∈ allw := aw (List.mem_append_right _ (List.mem_of_getElem? (i := 454) (by decide +kernel))) rfl
theorem ml_X5_of : Cond.selects yX5_of.cls yX5_of yX5_of ∈ allw := aw (List.mem_append_right _ (List.mem_of_getElem? (i := 455) (by decide +kernel))) rfl
theorem mm_X4_tell : lkM yX4_tell cX4_tell 3 (some .int) 2 := ⟨aw (List.mem_append_right _ (List.mem_of_getElem? (i := 3) (by decide +kernel))) rfl, aw (List.mem_append_right _ (List.mem_of_getElem? (i := 461) (by decide +kernel))) rfl, ⟨by decide +kernel, by decide +kernel, by decide +kernel⟩, by decide⟩
theorem pl_X4_tell : plainName yX4_tell.cls = true := by decide +kernel
theorem mi_X4_tell : Cond.instanceMethod yX4_tell ∈ allw := aw (List.mem_append_right _ (List.mem_of_getElem? (i := 459) (by decide +kernel))) rfl
theorem ml_X4_tell : Cond.selects yX4_tell.cls yX4_tell yX4_tell ∈ allw := aw (List.mem_append_right _ (List.mem_of_getElem? (i := 460) (by decide +kernel))) rfl
theorem mm_X4_hoursOfRest : lkM yX4_hoursOfRest cX4_hoursOfRest 3 (some .int) 1 := ⟨aw (List.mem_append_right _ (List.mem_of_getElem? (i := 3) (by decide +kernel))) rfl, aw (List.mem_append_right _ (List.mem_of_getElem? (i := 465) (by decide +kernel))) rfl, ⟨by decide +kernel, by decide +kernel, by decide +kernel⟩, by decide⟩
theorem pl_X4_hoursOfRest : plainName yX4_hoursOfRest.cls = true := by decide +kernel
theorem mi_X4_hoursOfRest : Cond.instanceMethod yX4_hoursOfRest ∈ allw := aw (List.mem_append_right _ (List.mem_of_getElem? (i := 464) (by decide +kernel))) rfl
theorem ml_X4_hoursOfRest : Cond.selects yX4_hoursOfRest.cls yX4_hoursOfRest yX4_hoursOfRest ∈ allw := aw (List.mem_append_left _ (List.mem_of_getElem? (i := 9) (by decide +kernel))) rfl
theorem mm_X5_ofJob : lkM yX5_ofJob cX5_ofJob 3 (some .int) 2 := ⟨aw (List.mem_append_right _ (List.mem_of_getElem? (i := 1) (by decide +kernel))) rfl, aw (List.mem_append_right _ (List.mem_of_getElem? (i := 469) (by decide +kernel))) rfl, ⟨by decide +kernel, by decide +kernel, by decide +kernel⟩, by decide⟩
theorem pl_X5_ofJob : plainName yX5_ofJob.cls = true := by decide +kernel
theorem mi_X5_ofJob : Cond.instanceMethod yX5_ofJob ∈ allw := aw (List.mem_append_right _ (List.mem_of_getElem? (i := 467) (by decide +kernel))) rfl
theorem ml_X5_ofJob : Cond.selects yX5_ofJob.cls yX5_ofJob yX5_ofJob ∈ allw := aw (List.mem_append_right _ (List.mem_of_getElem? (i := 468) (by decide +kernel))) rfl
theorem mm_X0_tellOfJob : lkM yX0_tellOfJob cX0_tellOfJob 3 (some .int) 2 := ⟨aw (List.mem_append_right _ (List.mem_of_getElem? (i := 2) (by decide +kernel))) rfl, aw (List.mem_append_right _ (List.mem_of_getElem? (i := 474) (by decide +kernel))) rfl, ⟨by decide +kernel, by decide +kernel, by decide +kernel⟩, by decide⟩
theorem pl_X0_tellOfJob : plainName yX0_tellOfJob.cls = true := by decide +kernel
theorem mi_X0_tellOfJob : Cond.instanceMethod yX0_tellOfJob ∈ allw := aw (List.mem_append_right _ (List.mem_of_getElem? (i := 472) (by decide +kernel))) rfl
theorem ml_X0_tellOfJob : Cond.selects yX0_tellOfJob.cls yX0_tellOfJob yX0_tellOfJob ∈ allw := aw (List.mem_append_right _ (List.mem_of_getElem? (i := 473) (by decide +kernel))) rfl
theorem mm_X2_wasBegun : lkM yX2_wasBegun cX2_wasBegun 1 (some .boolean) 0 := ⟨aw (List.mem_append_right _ (List.mem_of_getElem? (i := 4) (by decide +kernel))) rfl, aw (List.mem_append_right _ (List.mem_of_getElem? (i := 478) (by decide +kernel))) rfl, ⟨by decide +kernel, by decide +kernel, by decide +kernel⟩, by decide⟩
theorem pl_X2_wasBegun : plainName yX2_wasBegun.cls = true := by decide +kernel
theorem mi_X2_wasBegun : Cond.instanceMethod yX2_wasBegun ∈ allw := aw (List.mem_append_right _ (List.mem_of_getElem? (i := 476) (by decide +kernel))) rfl
theorem ml_X2_wasBegun : Cond.selects yX2_wasBegun.cls yX2_wasBegun yX2_wasBegun ∈ allw := aw (List.mem_append_right _ (List.mem_of_getElem? (i := 477) (by decide +kernel))) rfl
theorem mm_X2_isLate : lkM yX2_isLate cX2_isLate 2 (some .boolean) 1 := ⟨aw (List.mem_append_right _ (List.mem_of_getElem? (i := 4) (by decide +kernel))) rfl, aw (List.mem_append_right _ (List.mem_of_getElem? (i := 482) (by decide +kernel))) rfl, ⟨by decide +kernel, by decide +kernel, by decide +kernel⟩, by decide⟩
theorem pl_X2_isLate : plainName yX2_isLate.cls = true := by decide +kernel
theorem mi_X2_isLate : Cond.instanceMethod yX2_isLate ∈ allw := aw (List.mem_append_right _ (List.mem_of_getElem? (i := 480) (by decide +kernel))) rfl
theorem ml_X2_isLate : Cond.selects yX2_isLate.cls yX2_isLate yX2_isLate ∈ allw := aw (List.mem_append_right _ (List.mem_of_getElem? (i := 481) (by decide +kernel))) rfl
theorem mm_X5_waiting : lkM yX5_waiting cX5_waiting 2 (some .int) 1 := ⟨aw (List.mem_append_right _ (List.mem_of_getElem? (i := 1) (by decide +kernel))) rfl, aw (List.mem_append_right _ (List.mem_of_getElem? (i := 486) (by decide +kernel))) rfl, ⟨by decide +kernel, by decide +kernel, by decide +kernel⟩, by decide⟩
theorem pl_X5_waiting : plainName yX5_waiting.cls = true := by decide +kernel
theorem mi_X5_waiting : Cond.instanceMethod yX5_waiting ∈ allw := aw (List.mem_append_right _ (List.mem_of_getElem? (i := 484) (by decide +kernel))) rfl
theorem ml_X5_waiting : Cond.selects yX5_waiting.cls yX5_waiting yX5_waiting ∈ allw := aw (List.mem_append_right _ (List.mem_of_getElem? (i := 485) (by decide +kernel))) rfl
theorem mm_X0_waitingAt : lkM yX0_waitingAt cX0_waitingAt 4 (some .int) 1 := ⟨aw (List.mem_append_right _ (List.mem_of_getElem? (i := 2) (by decide +kernel))) rfl, aw (List.mem_append_right _ (List.mem_of_getElem? (i := 490) (by decide +kernel))) rfl, ⟨by decide +kernel, by decide +kernel, by decide +kernel⟩, by decide⟩
theorem pl_X0_waitingAt : plainName yX0_waitingAt.cls = true := by decide +kernel
theorem mi_X0_waitingAt : Cond.instanceMethod yX0_waitingAt ∈ allw := aw (List.mem_append_right _ (List.mem_of_getElem? (i := 488) (by decide +kernel))) rfl
theorem ml_X0_waitingAt : Cond.selects yX0_waitingAt.cls yX0_waitingAt yX0_waitingAt ∈ allw := aw (List.mem_append_right _ (List.mem_of_getElem? (i := 489) (by decide +kernel))) rfl
theorem mm_X5_straps : lkM yX5_straps cX5_straps 3 (some .int) 2 := ⟨aw (List.mem_append_right _ (List.mem_of_getElem? (i := 1) (by decide +kernel))) rfl, aw (List.mem_append_right _ (List.mem_of_getElem? (i := 494) (by decide +kernel))) rfl, ⟨by decide +kernel, by decide +kernel, by decide +kernel⟩, by decide⟩
theorem pl_X5_straps : plainName yX5_straps.cls = true := by decide +kernel
theorem mi_X5_straps : Cond.instanceMethod yX5_straps ∈ allw := aw (List.mem_append_right _ (List.mem_of_getElem? (i := 492) (by decide +kernel))) rfl
theorem ml_X5_straps : Cond.selects yX5_straps.cls yX5_straps yX5_straps ∈ allw := aw (List.mem_append_right _ (List.mem_of_getElem? (i := 493) (by decide +kernel))) rfl
theorem mm_X5_count : lkM yX5_count cX5_count 2 (some .int) 1 := ⟨aw (List.mem_append_right _ (List.mem_of_getElem? (i := 1) (by decide +kernel))) rfl, aw (List.mem_append_right _ (List.mem_of_getElem? (i := 498) (by decide +kernel))) rfl, ⟨by decide +kernel, by decide +kernel, by decide +kernel⟩, by decide⟩
theorem pl_X5_count : plainName yX5_count.cls = true := by decide +kernel
theorem mi_X5_count : Cond.instanceMethod yX5_count ∈ allw := aw (List.mem_append_right _ (List.mem_of_getElem? (i := 496) (by decide +kernel))) rfl
theorem ml_X5_count : Cond.selects yX5_count.cls yX5_count yX5_count ∈ allw := aw (List.mem_append_right _ (List.mem_of_getElem? (i := 497) (by decide +kernel))) rfl
theorem mm_X0_tellCount : lkM yX0_tellCount cX0_tellCount 2 (some .int) 1 := ⟨aw (List.mem_append_right _ (List.mem_of_getElem? (i := 2) (by decide +kernel))) rfl, aw (List.mem_append_right _ (List.mem_of_getElem? (i := 502) (by decide +kernel))) rfl, ⟨by decide +kernel, by decide +kernel, by decide +kernel⟩, by decide⟩
theorem pl_X0_tellCount : plainName yX0_tellCount.cls = true := by decide +kernel
theorem mi_X0_tellCount : Cond.instanceMethod yX0_tellCount ∈ allw := aw (List.mem_append_right _ (List.mem_of_getElem? (i := 500) (by decide +kernel))) rfl
theorem ml_X0_tellCount : Cond.selects yX0_tellCount.cls yX0_tellCount yX0_tellCount ∈ allw := aw (List.mem_append_right _ (List.mem_of_getElem? (i := 501) (by decide +kernel))) rfl
theorem mm_X0_jobsInState : lkM yX0_jobsInState cX0_jobsInState 4 (some .int) 1 := ⟨aw (List.mem_append_right _ (List.mem_of_getElem? (i := 2) (by decide +kernel))) rfl, aw (List.mem_append_right _ (List.mem_of_getElem? (i := 506) (by decide +kernel))) rfl, ⟨by decide +kernel, by decide +kernel, by decide +kernel⟩, by decide⟩
theorem pl_X0_jobsInState : plainName yX0_jobsInState.cls = true := by decide +kernel
theorem mi_X0_jobsInState : Cond.instanceMethod yX0_jobsInState ∈ allw := aw (List.mem_append_right _ (List.mem_of_getElem? (i := 505) (by decide +kernel))) rfl
theorem ml_X0_jobsInState : Cond.selects yX0_jobsInState.cls yX0_jobsInState yX0_jobsInState ∈ allw := aw (List.mem_append_left _ (List.mem_of_getElem? (i := 10) (by decide +kernel))) rfl
theorem mm_X0_lateJobs : lkM yX0_lateJobs cX0_lateJobs 3 (some .int) 0 := ⟨aw (List.mem_append_right _ (List.mem_of_getElem? (i := 2) (by decide +kernel))) rfl, aw (List.mem_append_right _ (List.mem_of_getElem? (i := 510) (by decide +kernel))) rfl, ⟨by decide +kernel, by decide +kernel, by decide +kernel⟩, by decide⟩
theorem pl_X0_lateJobs : plainName yX0_lateJobs.cls = true := by decide +kernel
theorem mi_X0_lateJobs : Cond.instanceMethod yX0_lateJobs ∈ allw := aw (List.mem_append_right _ (List.mem_of_getElem? (i := 509) (by decide +kernel))) rfl
theorem ml_X0_lateJobs : Cond.selects yX0_lateJobs.cls yX0_lateJobs yX0_lateJobs ∈ allw := aw (List.mem_append_left _ (List.mem_of_getElem? (i := 11) (by decide +kernel))) rfl
theorem mm_X5_why : lkM yX5_why cX5_why 4 (some .int) 3 := ⟨aw (List.mem_append_right _ (List.mem_of_getElem? (i := 1) (by decide +kernel))) rfl, aw (List.mem_append_right _ (List.mem_of_getElem? (i := 514) (by decide +kernel))) rfl, ⟨by decide +kernel, by decide +kernel, by decide +kernel⟩, by decide⟩
theorem pl_X5_why : plainName yX5_why.cls = true := by decide +kernel
theorem mi_X5_why : Cond.instanceMethod yX5_why ∈ allw := aw (List.mem_append_right _ (List.mem_of_getElem? (i := 512) (by decide +kernel))) rfl
theorem ml_X5_why : Cond.selects yX5_why.cls yX5_why yX5_why ∈ allw := aw (List.mem_append_right _ (List.mem_of_getElem? (i := 513) (by decide +kernel))) rfl
theorem mm_X5_crew : lkM yX5_crew cX5_crew 3 (some .int) 2 := ⟨aw (List.mem_append_right _ (List.mem_of_getElem? (i := 1) (by decide +kernel))) rfl, aw (List.mem_append_right _ (List.mem_of_getElem? (i := 519) (by decide +kernel))) rfl, ⟨by decide +kernel, by decide +kernel, by decide +kernel⟩, by decide⟩
theorem pl_X5_crew : plainName yX5_crew.cls = true := by decide +kernel
theorem mi_X5_crew : Cond.instanceMethod yX5_crew ∈ allw := aw (List.mem_append_right _ (List.mem_of_getElem? (i := 517) (by decide +kernel))) rfl
theorem ml_X5_crew : Cond.selects yX5_crew.cls yX5_crew yX5_crew ∈ allw := aw (List.mem_append_right _ (List.mem_of_getElem? (i := 518) (by decide +kernel))) rfl
theorem mm_X5_bestStraps : lkM yX5_bestStraps cX5_bestStraps 2 (some .int) 1 := ⟨aw (List.mem_append_right _ (List.mem_of_getElem? (i := 1) (by decide +kernel))) rfl, aw (List.mem_append_right _ (List.mem_of_getElem? (i := 525) (by decide +kernel))) rfl, ⟨by decide +kernel, by decide +kernel, by decide +kernel⟩, by decide⟩
theorem pl_X5_bestStraps : plainName yX5_bestStraps.cls = true := by decide +kernel
theorem mi_X5_bestStraps : Cond.instanceMethod yX5_bestStraps ∈ allw := aw (List.mem_append_right _ (List.mem_of_getElem? (i := 523) (by decide +kernel))) rfl
theorem ml_X5_bestStraps : Cond.selects yX5_bestStraps.cls yX5_bestStraps yX5_bestStraps ∈ allw := aw (List.mem_append_right _ (List.mem_of_getElem? (i := 524) (by decide +kernel))) rfl
theorem mm_X5_doneIn : lkM yX5_doneIn cX5_doneIn 3 (some .int) 1 := ⟨aw (List.mem_append_right _ (List.mem_of_getElem? (i := 1) (by decide +kernel))) rfl, aw (List.mem_append_right _ (List.mem_of_getElem? (i := 530) (by decide +kernel))) rfl, ⟨by decide +kernel, by decide +kernel, by decide +kernel⟩, by decide⟩
theorem pl_X5_doneIn : plainName yX5_doneIn.cls = true := by decide +kernel
theorem mi_X5_doneIn : Cond.instanceMethod yX5_doneIn ∈ allw := aw (List.mem_append_right _ (List.mem_of_getElem? (i := 528) (by decide +kernel))) rfl
theorem ml_X5_doneIn : Cond.selects yX5_doneIn.cls yX5_doneIn yX5_doneIn ∈ allw := aw (List.mem_append_right _ (List.mem_of_getElem? (i := 529) (by decide +kernel))) rfl
theorem mm_X5_ifAssigned : lkM yX5_ifAssigned cX5_ifAssigned 1 (some .int) 0 := ⟨aw (List.mem_append_right _ (List.mem_of_getElem? (i := 1) (by decide +kernel))) rfl, aw (List.mem_append_right _ (List.mem_of_getElem? (i := 536) (by decide +kernel))) rfl, ⟨by decide +kernel, by decide +kernel, by decide +kernel⟩, by decide⟩
theorem pl_X5_ifAssigned : plainName yX5_ifAssigned.cls = true := by decide +kernel
theorem mi_X5_ifAssigned : Cond.instanceMethod yX5_ifAssigned ∈ allw := aw (List.mem_append_right _ (List.mem_of_getElem? (i := 534) (by decide +kernel))) rfl
theorem ml_X5_ifAssigned : Cond.selects yX5_ifAssigned.cls yX5_ifAssigned yX5_ifAssigned ∈ allw := aw (List.mem_append_right _ (List.mem_of_getElem? (i := 535) (by decide +kernel))) rfl
theorem mm_X5_put : lkM yX5_put cX5_put 3 (some .int) 1 := ⟨aw (List.mem_append_right _ (List.mem_of_getElem? (i := 1) (by decide +kernel))) rfl, aw (List.mem_append_right _ (List.mem_of_getElem? (i := 540) (by decide +kernel))) rfl, ⟨by decide +kernel, by decide +kernel, by decide +kernel⟩, by decide⟩
theorem pl_X5_put : plainName yX5_put.cls = true := by decide +kernel
theorem mi_X5_put : Cond.instanceMethod yX5_put ∈ allw := aw (List.mem_append_right _ (List.mem_of_getElem? (i := 538) (by decide +kernel))) rfl
theorem ml_X5_put : Cond.selects yX5_put.cls yX5_put yX5_put ∈ allw := aw (List.mem_append_right _ (List.mem_of_getElem? (i := 539) (by decide +kernel))) rfl
theorem mm_X3_append : lkM yX3_append cX3_append 5 (some .int) 1 := ⟨aw (List.mem_append_right _ (List.mem_of_getElem? (i := 6) (by decide +kernel))) rfl, aw (List.mem_append_right _ (List.mem_of_getElem? (i := 544) (by decide +kernel))) rfl, ⟨by decide +kernel, by decide +kernel, by decide +kernel⟩, by decide⟩
theorem pl_X3_append : plainName yX3_append.cls = true := by decide +kernel
theorem mi_X3_append : Cond.instanceMethod yX3_append ∈ allw := aw (List.mem_append_right _ (List.mem_of_getElem? (i := 542) (by decide +kernel))) rfl
theorem ml_X3_append : Cond.selects yX3_append.cls yX3_append yX3_append ∈ allw := aw (List.mem_append_right _ (List.mem_of_getElem? (i := 543) (by decide +kernel))) rfl
theorem mm_X3_signsIn : lkM yX3_signsIn cX3_signsIn 4 (some .int) 1 := ⟨aw (List.mem_append_right _ (List.mem_of_getElem? (i := 6) (by decide +kernel))) rfl, aw (List.mem_append_right _ (List.mem_of_getElem? (i := 547) (by decide +kernel))) rfl, ⟨by decide +kernel, by decide +kernel, by decide +kernel⟩, by decide⟩
theorem pl_X3_signsIn : plainName yX3_signsIn.cls = true := by decide +kernel
theorem ms_X3_signsIn : Cond.static yX3_signsIn ∈ allw := aw (List.mem_append_right _ (List.mem_of_getElem? (i := 546) (by decide +kernel))) rfl
theorem mm_X3_signOf : lkM yX3_signOf cX3_signOf 3 (some .int) 2 := ⟨aw (List.mem_append_right _ (List.mem_of_getElem? (i := 6) (by decide +kernel))) rfl, aw (List.mem_append_right _ (List.mem_of_getElem? (i := 550) (by decide +kernel))) rfl, ⟨by decide +kernel, by decide +kernel, by decide +kernel⟩, by decide⟩
theorem pl_X3_signOf : plainName yX3_signOf.cls = true := by decide +kernel
theorem ms_X3_signOf : Cond.static yX3_signOf ∈ allw := aw (List.mem_append_right _ (List.mem_of_getElem? (i := 549) (by decide +kernel))) rfl
theorem mm_X5_wipe : lkM yX5_wipe cX5_wipe 1 (some .int) 0 := ⟨aw (List.mem_append_right _ (List.mem_of_getElem? (i := 1) (by decide +kernel))) rfl, aw (List.mem_append_right _ (List.mem_of_getElem? (i := 555) (by decide +kernel))) rfl, ⟨by decide +kernel, by decide +kernel, by decide +kernel⟩, by decide⟩
theorem pl_X5_wipe : plainName yX5_wipe.cls = true := by decide +kernel
theorem mi_X5_wipe : Cond.instanceMethod yX5_wipe ∈ allw := aw (List.mem_append_right _ (List.mem_of_getElem? (i := 553) (by decide +kernel))) rfl
theorem ml_X5_wipe : Cond.selects yX5_wipe.cls yX5_wipe yX5_wipe ∈ allw := aw (List.mem_append_right _ (List.mem_of_getElem? (i := 554) (by decide +kernel))) rfl
theorem mm_X3_empty : lkM yX3_empty cX3_empty 2 (some .int) 0 := ⟨aw (List.mem_append_right _ (List.mem_of_getElem? (i := 6) (by decide +kernel))) rfl, aw (List.mem_append_right _ (List.mem_of_getElem? (i := 559) (by decide +kernel))) rfl, ⟨by decide +kernel, by decide +kernel, by decide +kernel⟩, by decide⟩
theorem pl_X3_empty : plainName yX3_empty.cls = true := by decide +kernel
theorem mi_X3_empty : Cond.instanceMethod yX3_empty ∈ allw := aw (List.mem_append_right _ (List.mem_of_getElem? (i := 557) (by decide +kernel))) rfl
theorem ml_X3_empty : Cond.selects yX3_empty.cls yX3_empty yX3_empty ∈ allw := aw (List.mem_append_right _ (List.mem_of_getElem? (i := 558) (by decide +kernel))) rfl
theorem mm_X5_fault : lkM yX5_fault cX5_fault 1 (some .int) 0 := ⟨aw (List.mem_append_right _ (List.mem_of_getElem? (i := 1) (by decide +kernel))) rfl, aw (List.mem_append_right _ (List.mem_of_getElem? (i := 563) (by decide +kernel))) rfl, ⟨by decide +kernel, by decide +kernel, by decide +kernel⟩, by decide⟩
theorem pl_X5_fault : plainName yX5_fault.cls = true := by decide +kernel
theorem mi_X5_fault : Cond.instanceMethod yX5_fault ∈ allw := aw (List.mem_append_right _ (List.mem_of_getElem? (i := 561) (by decide +kernel))) rfl
theorem ml_X5_fault : Cond.selects yX5_fault.cls yX5_fault yX5_fault ∈ allw := aw (List.mem_append_right _ (List.mem_of_getElem? (i := 562) (by decide +kernel))) rfl
theorem mm_X3_findFault : lkM yX3_findFault cX3_findFault 2 (some .int) 0 := ⟨aw (List.mem_append_right _ (List.mem_of_getElem? (i := 6) (by decide +kernel))) rfl, aw (List.mem_append_right _ (List.mem_of_getElem? (i := 567) (by decide +kernel))) rfl, ⟨by decide +kernel, by decide +kernel, by decide +kernel⟩, by decide⟩
theorem pl_X3_findFault : plainName yX3_findFault.cls = true := by decide +kernel
theorem mi_X3_findFault : Cond.instanceMethod yX3_findFault ∈ allw := aw (List.mem_append_right _ (List.mem_of_getElem? (i := 565) (by decide +kernel))) rfl
theorem ml_X3_findFault : Cond.selects yX3_findFault.cls yX3_findFault yX3_findFault ∈ allw := aw (List.mem_append_right _ (List.mem_of_getElem? (i := 566) (by decide +kernel))) rfl
theorem mm_X3_startReading : lkM yX3_startReading cX3_startReading 1 none 0 := ⟨aw (List.mem_append_right _ (List.mem_of_getElem? (i := 6) (by decide +kernel))) rfl, aw (List.mem_append_right _ (List.mem_of_getElem? (i := 571) (by decide +kernel))) rfl, ⟨by decide +kernel, by decide +kernel, by decide +kernel⟩, by decide⟩
theorem pl_X3_startReading : plainName yX3_startReading.cls = true := by decide +kernel
theorem mi_X3_startReading : Cond.instanceMethod yX3_startReading ∈ allw := aw (List.mem_append_right _ (List.mem_of_getElem? (i := 569) (by decide +kernel))) rfl
theorem ml_X3_startReading : Cond.selects yX3_startReading.cls yX3_startReading yX3_startReading ∈ allw := aw (List.mem_append_right _ (List.mem_of_getElem? (i := 570) (by decide +kernel))) rfl
theorem mm_X3_readOrder : lkM yX3_readOrder cX3_readOrder 1 (some .boolean) 0 := ⟨aw (List.mem_append_right _ (List.mem_of_getElem? (i := 6) (by decide +kernel))) rfl, aw (List.mem_append_right _ (List.mem_of_getElem? (i := 575) (by decide +kernel))) rfl, ⟨by decide +kernel, by decide +kernel, by decide +kernel⟩, by decide⟩
theorem pl_X3_readOrder : plainName yX3_readOrder.cls = true := by decide +kernel
theorem mi_X3_readOrder : Cond.instanceMethod yX3_readOrder ∈ allw := aw (List.mem_append_right _ (List.mem_of_getElem? (i := 573) (by decide +kernel))) rfl
theorem ml_X3_readOrder : Cond.selects yX3_readOrder.cls yX3_readOrder yX3_readOrder ∈ allw := aw (List.mem_append_right _ (List.mem_of_getElem? (i := 574) (by decide +kernel))) rfl
theorem mm_X3_signHere : lkM yX3_signHere cX3_signHere 1 (some .int) 0 := ⟨aw (List.mem_append_right _ (List.mem_of_getElem? (i := 6) (by decide +kernel))) rfl, aw (List.mem_append_right _ (List.mem_of_getElem? (i := 579) (by decide +kernel))) rfl, ⟨by decide +kernel, by decide +kernel, by decide +kernel⟩, by decide⟩
theorem pl_X3_signHere : plainName yX3_signHere.cls = true := by decide +kernel
theorem mi_X3_signHere : Cond.instanceMethod yX3_signHere ∈ allw := aw (List.mem_append_right _ (List.mem_of_getElem? (i := 578) (by decide +kernel))) rfl
theorem ml_X3_signHere : Cond.selects yX3_signHere.cls yX3_signHere yX3_signHere ∈ allw := aw (List.mem_append_left _ (List.mem_of_getElem? (i := 12) (by decide +kernel))) rfl
theorem mm_J0_indexOf_0f7a4 : lkM yJ0_indexOf_0f7a4 cJ0_indexOf_0f7a4 2 (some .int) 1 := ⟨aw (List.mem_append_right _ (List.mem_of_getElem? (i := 11) (by decide +kernel))) rfl, aw (List.mem_append_right _ (List.mem_of_getElem? (i := 584) (by decide +kernel))) rfl, ⟨by decide +kernel, by decide +kernel, by decide +kernel⟩, by decide⟩
theorem pl_J0_indexOf_0f7a4 : plainName yJ0_indexOf_0f7a4.cls = true := by decide +kernel
theorem mi_J0_indexOf_0f7a4 : Cond.instanceMethod yJ0_indexOf_0f7a4 ∈ allw := aw (List.mem_append_right _ (List.mem_of_getElem? (i := 582) (by decide +kernel))) rfl
theorem ml_J0_indexOf_0f7a4 : Cond.selects yJ0_indexOf_0f7a4.cls yJ0_indexOf_0f7a4 yJ0_indexOf_0f7a4 ∈ allw := aw (List.mem_append_right _ (List.mem_of_getElem? (i := 583) (by decide +kernel))) rfl
theorem mm_J0_indexOf_7cf53 : lkM yJ0_indexOf_7cf53 cJ0_indexOf_7cf53 3 (some .int) 2 := ⟨aw (List.mem_append_right _ (List.mem_of_getElem? (i := 11) (by decide +kernel))) rfl, aw (List.mem_append_right _ (List.mem_of_getElem? (i := 588) (by decide +kernel))) rfl, ⟨by decide +kernel, by decide +kernel, by decide +kernel⟩, by decide⟩
theorem pl_J0_indexOf_7cf53 : plainName yJ0_indexOf_7cf53.cls = true := by decide +kernel
theorem mi_J0_indexOf_7cf53 : Cond.instanceMethod yJ0_indexOf_7cf53 ∈ allw := aw (List.mem_append_right _ (List.mem_of_getElem? (i := 586) (by decide +kernel))) rfl
theorem ml_J0_indexOf_7cf53 : Cond.selects yJ0_indexOf_7cf53.cls yJ0_indexOf_7cf53 yJ0_indexOf_7cf53 ∈ allw := aw (List.mem_append_right _ (List.mem_of_getElem? (i := 587) (by decide +kernel))) rfl
theorem mm_J0_isLatin1_aae02 : lkM yJ0_isLatin1_aae02 cJ0_isLatin1_aae02 1 (some .boolean) 0 := ⟨aw (List.mem_append_right _ (List.mem_of_getElem? (i := 11) (by decide +kernel))) rfl, aw (List.mem_append_right _ (List.mem_of_getElem? (i := 592) (by decide +kernel))) rfl, ⟨by decide +kernel, by decide +kernel, by decide +kernel⟩, by decide⟩
theorem pl_J0_isLatin1_aae02 : plainName yJ0_isLatin1_aae02.cls = true := by decide +kernel
theorem mi_J0_isLatin1_aae02 : Cond.instanceMethod yJ0_isLatin1_aae02 ∈ allw := aw (List.mem_append_right _ (List.mem_of_getElem? (i := 590) (by decide +kernel))) rfl
theorem ml_J0_isLatin1_aae02 : Cond.selects yJ0_isLatin1_aae02.cls yJ0_isLatin1_aae02 yJ0_isLatin1_aae02 ∈ allw := aw (List.mem_append_right _ (List.mem_of_getElem? (i := 591) (by decide +kernel))) rfl
theorem mm_J0_length_8abf5 : lkM yJ0_length_8abf5 cJ0_length_8abf5 1 (some .int) 0 := ⟨aw (List.mem_append_right _ (List.mem_of_getElem? (i := 11) (by decide +kernel))) rfl, aw (List.mem_append_right _ (List.mem_of_getElem? (i := 598) (by decide +kernel))) rfl, ⟨by decide +kernel, by decide +kernel, by decide +kernel⟩, by decide⟩
theorem pl_J0_length_8abf5 : plainName yJ0_length_8abf5.cls = true := by decide +kernel
theorem mi_J0_length_8abf5 : Cond.instanceMethod yJ0_length_8abf5 ∈ allw := aw (List.mem_append_right _ (List.mem_of_getElem? (i := 596) (by decide +kernel))) rfl
theorem ml_J0_length_8abf5 : Cond.selects yJ0_length_8abf5.cls yJ0_length_8abf5 yJ0_length_8abf5 ∈ allw := aw (List.mem_append_right _ (List.mem_of_getElem? (i := 597) (by decide +kernel))) rfl
theorem mm_J0_coder_7d493 : lkM yJ0_coder_7d493 cJ0_coder_7d493 1 (some .byte) 0 := ⟨aw (List.mem_append_right _ (List.mem_of_getElem? (i := 11) (by decide +kernel))) rfl, aw (List.mem_append_right _ (List.mem_of_getElem? (i := 602) (by decide +kernel))) rfl, ⟨by decide +kernel, by decide +kernel, by decide +kernel⟩, by decide⟩
theorem pl_J0_coder_7d493 : plainName yJ0_coder_7d493.cls = true := by decide +kernel
theorem mi_J0_coder_7d493 : Cond.instanceMethod yJ0_coder_7d493 ∈ allw := aw (List.mem_append_right _ (List.mem_of_getElem? (i := 600) (by decide +kernel))) rfl
theorem ml_J0_coder_7d493 : Cond.selects yJ0_coder_7d493.cls yJ0_coder_7d493 yJ0_coder_7d493 ∈ allw := aw (List.mem_append_right _ (List.mem_of_getElem? (i := 601) (by decide +kernel))) rfl
theorem mm_J1_indexOf_4cfef : lkM yJ1_indexOf_4cfef cJ1_indexOf_4cfef 4 (some .int) 4 := ⟨aw (List.mem_append_right _ (List.mem_of_getElem? (i := 12) (by decide +kernel))) rfl, aw (List.mem_append_right _ (List.mem_of_getElem? (i := 605) (by decide +kernel))) rfl, ⟨by decide +kernel, by decide +kernel, by decide +kernel⟩, by decide⟩
theorem pl_J1_indexOf_4cfef : plainName yJ1_indexOf_4cfef.cls = true := by decide +kernel
theorem ms_J1_indexOf_4cfef : Cond.static yJ1_indexOf_4cfef ∈ allw := aw (List.mem_append_right _ (List.mem_of_getElem? (i := 604) (by decide +kernel))) rfl
theorem mm_J1_canEncode_9a6ad : lkM yJ1_canEncode_9a6ad cJ1_canEncode_9a6ad 1 (some .boolean) 1 := ⟨aw (List.mem_append_right _ (List.mem_of_getElem? (i := 12) (by decide +kernel))) rfl, aw (List.mem_append_right _ (List.mem_of_getElem? (i := 608) (by decide +kernel))) rfl, ⟨by decide +kernel, by decide +kernel, by decide +kernel⟩, by decide⟩
theorem pl_J1_canEncode_9a6ad : plainName yJ1_canEncode_9a6ad.cls = true := by decide +kernel
theorem ms_J1_canEncode_9a6ad : Cond.static yJ1_canEncode_9a6ad ∈ allw := aw (List.mem_append_right _ (List.mem_of_getElem? (i := 607) (by decide +kernel))) rfl
theorem mm_J1_indexOfChar_4cfef : lkM yJ1_indexOfChar_4cfef cJ1_indexOfChar_4cfef 6 (some .int) 4 := ⟨aw (List.mem_append_right _ (List.mem_of_getElem? (i := 12) (by decide +kernel))) rfl, aw (List.mem_append_right _ (List.mem_of_getElem? (i := 613) (by decide +kernel))) rfl, ⟨by decide +kernel, by decide +kernel, by decide +kernel⟩, by decide⟩
theorem pl_J1_indexOfChar_4cfef : plainName yJ1_indexOfChar_4cfef.cls = true := by decide +kernel
theorem ms_J1_indexOfChar_4cfef : Cond.static yJ1_indexOfChar_4cfef ∈ allw := aw (List.mem_append_right _ (List.mem_of_getElem? (i := 612) (by decide +kernel))) rfl
theorem mm_X3_formOf : lkM yX3_formOf cX3_formOf 1 (some (.object "java/lang/String")) 1 := ⟨aw (List.mem_append_right _ (List.mem_of_getElem? (i := 6) (by decide +kernel))) rfl, aw (List.mem_append_right _ (List.mem_of_getElem? (i := 665) (by decide +kernel))) rfl, ⟨by decide +kernel, by decide +kernel, by decide +kernel⟩, by decide⟩
theorem pl_X3_formOf : plainName yX3_formOf.cls = true := by decide +kernel
theorem ms_X3_formOf : Cond.static yX3_formOf ∈ allw := aw (List.mem_append_right _ (List.mem_of_getElem? (i := 664) (by decide +kernel))) rfl
theorem mm_X3_readForm : lkM yX3_readForm cX3_readForm 5 (some .boolean) 1 := ⟨aw (List.mem_append_right _ (List.mem_of_getElem? (i := 6) (by decide +kernel))) rfl, aw (List.mem_append_right _ (List.mem_of_getElem? (i := 674) (by decide +kernel))) rfl, ⟨by decide +kernel, by decide +kernel, by decide +kernel⟩, by decide⟩
theorem pl_X3_readForm : plainName yX3_readForm.cls = true := by decide +kernel
theorem mi_X3_readForm : Cond.instanceMethod yX3_readForm ∈ allw := aw (List.mem_append_right _ (List.mem_of_getElem? (i := 673) (by decide +kernel))) rfl
theorem ml_X3_readForm : Cond.selects yX3_readForm.cls yX3_readForm yX3_readForm ∈ allw := aw (List.mem_append_left _ (List.mem_of_getElem? (i := 13) (by decide +kernel))) rfl
theorem mm_J0_charAt_5068e : lkM yJ0_charAt_5068e cJ0_charAt_5068e 2 (some .char) 1 := ⟨aw (List.mem_append_right _ (List.mem_of_getElem? (i := 11) (by decide +kernel))) rfl, aw (List.mem_append_right _ (List.mem_of_getElem? (i := 679) (by decide +kernel))) rfl, ⟨by decide +kernel, by decide +kernel, by decide +kernel⟩, by decide⟩
theorem pl_J0_charAt_5068e : plainName yJ0_charAt_5068e.cls = true := by decide +kernel
theorem mi_J0_charAt_5068e : Cond.instanceMethod yJ0_charAt_5068e ∈ allw := aw (List.mem_append_right _ (List.mem_of_getElem? (i := 677) (by decide +kernel))) rfl
theorem ml_J0_charAt_5068e : Cond.selects yJ0_charAt_5068e.cls yJ0_charAt_5068e yJ0_charAt_5068e ∈ allw := aw (List.mem_append_right _ (List.mem_of_getElem? (i := 678) (by decide +kernel))) rfl
theorem mm_J1_charAt_3b067 : lkM yJ1_charAt_3b067 cJ1_charAt_3b067 2 (some .char) 2 := ⟨aw (List.mem_append_right _ (List.mem_of_getElem? (i := 12) (by decide +kernel))) rfl, aw (List.mem_append_right _ (List.mem_of_getElem? (i := 682) (by decide +kernel))) rfl, ⟨by decide +kernel, by decide +kernel, by decide +kernel⟩, by decide⟩
theorem pl_J1_charAt_3b067 : plainName yJ1_charAt_3b067.cls = true := by decide +kernel
theorem ms_J1_charAt_3b067 : Cond.static yJ1_charAt_3b067 ∈ allw := aw (List.mem_append_right _ (List.mem_of_getElem? (i := 681) (by decide +kernel))) rfl
theorem mm_J0_checkIndex_df160 : lkM yJ0_checkIndex_df160 cJ0_checkIndex_df160 2 none 2 := ⟨aw (List.mem_append_right _ (List.mem_of_getElem? (i := 11) (by decide +kernel))) rfl, aw (List.mem_append_right _ (List.mem_of_getElem? (i := 685) (by decide +kernel))) rfl, ⟨by decide +kernel, by decide +kernel, by decide +kernel⟩, by decide⟩
theorem pl_J0_checkIndex_df160 : plainName yJ0_checkIndex_df160.cls = true := by decide +kernel
theorem ms_J0_checkIndex_df160 : Cond.static yJ0_checkIndex_df160 ∈ allw := aw (List.mem_append_right _ (List.mem_of_getElem? (i := 684) (by decide +kernel))) rfl
theorem mm_J3_checkIndex_8e157 : lkM yJ3_checkIndex_8e157 cJ3_checkIndex_8e157 3 (some .int) 3 := ⟨aw (List.mem_append_right _ (List.mem_of_getElem? (i := 14) (by decide +kernel))) rfl, aw (List.mem_append_right _ (List.mem_of_getElem? (i := 688) (by decide +kernel))) rfl, ⟨by decide +kernel, by decide +kernel, by decide +kernel⟩, by decide⟩
theorem pl_J3_checkIndex_8e157 : plainName yJ3_checkIndex_8e157.cls = true := by decide +kernel
theorem ms_J3_checkIndex_8e157 : Cond.static yJ3_checkIndex_8e157 ∈ allw := aw (List.mem_append_right _ (List.mem_of_getElem? (i := 687) (by decide +kernel))) rfl
theorem mm_X3_readNumber : lkM yX3_readNumber cX3_readNumber 4 (some .boolean) 1 := ⟨aw (List.mem_append_right _ (List.mem_of_getElem? (i := 6) (by decide +kernel))) rfl, aw (List.mem_append_right _ (List.mem_of_getElem? (i := 699) (by decide +kernel))) rfl, ⟨by decide +kernel, by decide +kernel, by decide +kernel⟩, by decide⟩
theorem pl_X3_readNumber : plainName yX3_readNumber.cls = true := by decide +kernel
theorem mi_X3_readNumber : Cond.instanceMethod yX3_readNumber ∈ allw := aw (List.mem_append_right _ (List.mem_of_getElem? (i := 698) (by decide +kernel))) rfl
theorem ml_X3_readNumber : Cond.selects yX3_readNumber.cls yX3_readNumber yX3_readNumber ∈ allw := aw (List.mem_append_left _ (List.mem_of_getElem? (i := 14) (by decide +kernel))) rfl
theorem mm_X3_isDigitHere : lkM yX3_isDigitHere cX3_isDigitHere 1 (some .boolean) 0 := ⟨aw (List.mem_append_right _ (List.mem_of_getElem? (i := 6) (by decide +kernel))) rfl, aw (List.mem_append_right _ (List.mem_of_getElem? (i := 703) (by decide +kernel))) rfl, ⟨by decide +kernel, by decide +kernel, by decide +kernel⟩, by decide⟩
theorem pl_X3_isDigitHere : plainName yX3_isDigitHere.cls = true := by decide +kernel
theorem mi_X3_isDigitHere : Cond.instanceMethod yX3_isDigitHere ∈ allw := aw (List.mem_append_right _ (List.mem_of_getElem? (i := 702) (by decide +kernel))) rfl
theorem ml_X3_isDigitHere : Cond.selects yX3_isDigitHere.cls yX3_isDigitHere yX3_isDigitHere ∈ allw := aw (List.mem_append_left _ (List.mem_of_getElem? (i := 15) (by decide +kernel))) rfl
theorem mm_X3_takeDigit : lkM yX3_takeDigit cX3_takeDigit 2 (some .int) 0 := ⟨aw (List.mem_append_right _ (List.mem_of_getElem? (i := 6) (by decide +kernel))) rfl, aw (List.mem_append_right _ (List.mem_of_getElem? (i := 707) (by decide +kernel))) rfl, ⟨by decide +kernel, by decide +kernel, by decide +kernel⟩, by decide⟩
theorem pl_X3_takeDigit : plainName yX3_takeDigit.cls = true := by decide +kernel
theorem mi_X3_takeDigit : Cond.instanceMethod yX3_takeDigit ∈ allw := aw (List.mem_append_right _ (List.mem_of_getElem? (i := 706) (by decide +kernel))) rfl
theorem ml_X3_takeDigit : Cond.selects yX3_takeDigit.cls yX3_takeDigit yX3_takeDigit ∈ allw := aw (List.mem_append_left _ (List.mem_of_getElem? (i := 16) (by decide +kernel))) rfl
theorem mm_X3_skip : lkM yX3_skip cX3_skip 2 (some .boolean) 1 := ⟨aw (List.mem_append_right _ (List.mem_of_getElem? (i := 6) (by decide +kernel))) rfl, aw (List.mem_append_right _ (List.mem_of_getElem? (i := 711) (by decide +kernel))) rfl, ⟨by decide +kernel, by decide +kernel, by decide +kernel⟩, by decide⟩
theorem pl_X3_skip : plainName yX3_skip.cls = true := by decide +kernel
theorem mi_X3_skip : Cond.instanceMethod yX3_skip ∈ allw := aw (List.mem_append_right _ (List.mem_of_getElem? (i := 709) (by decide +kernel))) rfl
theorem ml_X3_skip : Cond.selects yX3_skip.cls yX3_skip yX3_skip ∈ allw := aw (List.mem_append_right _ (List.mem_of_getElem? (i := 710) (by decide +kernel))) rfl
theorem mm_X3_readCrew : lkM yX3_readCrew cX3_readCrew 2 (some .boolean) 0 := ⟨aw (List.mem_append_right _ (List.mem_of_getElem? (i := 6) (by decide +kernel))) rfl, aw (List.mem_append_right _ (List.mem_of_getElem? (i := 715) (by decide +kernel))) rfl, ⟨by decide +kernel, by decide +kernel, by decide +kernel⟩, by decide⟩
theorem pl_X3_readCrew : plainName yX3_readCrew.cls = true := by decide +kernel
theorem mi_X3_readCrew : Cond.instanceMethod yX3_readCrew ∈ allw := aw (List.mem_append_right _ (List.mem_of_getElem? (i := 714) (by decide +kernel))) rfl
theorem ml_X3_readCrew : Cond.selects yX3_readCrew.cls yX3_readCrew yX3_readCrew ∈ allw := aw (List.mem_append_left _ (List.mem_of_getElem? (i := 17) (by decide +kernel))) rfl
theorem mm_X5_carryOut : lkM yX5_carryOut cX5_carryOut 2 (some .int) 0 := ⟨aw (List.mem_append_right _ (List.mem_of_getElem? (i := 1) (by decide +kernel))) rfl, aw (List.mem_append_right _ (List.mem_of_getElem? (i := 720) (by decide +kernel))) rfl, ⟨by decide +kernel, by decide +kernel, by decide +kernel⟩, by decide⟩
theorem pl_X5_carryOut : plainName yX5_carryOut.cls = true := by decide +kernel
theorem mi_X5_carryOut : Cond.instanceMethod yX5_carryOut ∈ allw := aw (List.mem_append_right _ (List.mem_of_getElem? (i := 718) (by decide +kernel))) rfl
theorem ml_X5_carryOut : Cond.selects yX5_carryOut.cls yX5_carryOut yX5_carryOut ∈ allw := aw (List.mem_append_right _ (List.mem_of_getElem? (i := 719) (by decide +kernel))) rfl
theorem mm_X5_obeyOrder : lkM yX5_obeyOrder cX5_obeyOrder 2 (some .int) 0 := ⟨aw (List.mem_append_right _ (List.mem_of_getElem? (i := 1) (by decide +kernel))) rfl, aw (List.mem_append_right _ (List.mem_of_getElem? (i := 726) (by decide +kernel))) rfl, ⟨by decide +kernel, by decide +kernel, by decide +kernel⟩, by decide⟩
theorem pl_X5_obeyOrder : plainName yX5_obeyOrder.cls = true := by decide +kernel
theorem mi_X5_obeyOrder : Cond.instanceMethod yX5_obeyOrder ∈ allw := aw (List.mem_append_right _ (List.mem_of_getElem? (i := 725) (by decide +kernel))) rfl
theorem ml_X5_obeyOrder : Cond.selects yX5_obeyOrder.cls yX5_obeyOrder yX5_obeyOrder ∈ allw := aw (List.mem_append_left _ (List.mem_of_getElem? (i := 18) (by decide +kernel))) rfl
theorem mm_X3_number : lkM yX3_number cX3_number 2 (some .int) 1 := ⟨aw (List.mem_append_right _ (List.mem_of_getElem? (i := 6) (by decide +kernel))) rfl, aw (List.mem_append_right _ (List.mem_of_getElem? (i := 730) (by decide +kernel))) rfl, ⟨by decide +kernel, by decide +kernel, by decide +kernel⟩, by decide⟩
theorem pl_X3_number : plainName yX3_number.cls = true := by decide +kernel
theorem mi_X3_number : Cond.instanceMethod yX3_number ∈ allw := aw (List.mem_append_right _ (List.mem_of_getElem? (i := 728) (by decide +kernel))) rfl
theorem ml_X3_number : Cond.selects yX3_number.cls yX3_number yX3_number ∈ allw := aw (List.mem_append_right _ (List.mem_of_getElem? (i := 729) (by decide +kernel))) rfl
theorem mm_X5_undo : lkM yX5_undo cX5_undo 1 (some .int) 0 := ⟨aw (List.mem_append_right _ (List.mem_of_getElem? (i := 1) (by decide +kernel))) rfl, aw (List.mem_append_right _ (List.mem_of_getElem? (i := 735) (by decide +kernel))) rfl, ⟨by decide +kernel, by decide +kernel, by decide +kernel⟩, by decide⟩
theorem pl_X5_undo : plainName yX5_undo.cls = true := by decide +kernel
theorem mi_X5_undo : Cond.instanceMethod yX5_undo ∈ allw := aw (List.mem_append_right _ (List.mem_of_getElem? (i := 733) (by decide +kernel))) rfl
theorem ml_X5_undo : Cond.selects yX5_undo.cls yX5_undo yX5_undo ∈ allw := aw (List.mem_append_right _ (List.mem_of_getElem? (i := 734) (by decide +kernel))) rfl
theorem mm_X1_takeBack : lkM yX1_takeBack cX1_takeBack 2 (some .int) 1 := ⟨aw (List.mem_append_right _ (List.mem_of_getElem? (i := 5) (by decide +kernel))) rfl, aw (List.mem_append_right _ (List.mem_of_getElem? (i := 739) (by decide +kernel))) rfl, ⟨by decide +kernel, by decide +kernel, by decide +kernel⟩, by decide⟩
theorem pl_X1_takeBack : plainName yX1_takeBack.cls = true := by decide +kernel
theorem mi_X1_takeBack : Cond.instanceMethod yX1_takeBack ∈ allw := aw (List.mem_append_right _ (List.mem_of_getElem? (i := 737) (by decide +kernel))) rfl
theorem ml_X1_takeBack : Cond.selects yX1_takeBack.cls yX1_takeBack yX1_takeBack ∈ allw := aw (List.mem_append_right _ (List.mem_of_getElem? (i := 738) (by decide +kernel))) rfl
theorem mm_X5_save : lkM yX5_save cX5_save 2 (some .int) 1 := ⟨aw (List.mem_append_right _ (List.mem_of_getElem? (i := 1) (by decide +kernel))) rfl, aw (List.mem_append_right _ (List.mem_of_getElem? (i := 743) (by decide +kernel))) rfl, ⟨by decide +kernel, by decide +kernel, by decide +kernel⟩, by decide⟩
theorem pl_X5_save : plainName yX5_save.cls = true := by decide +kernel
theorem mi_X5_save : Cond.instanceMethod yX5_save ∈ allw := aw (List.mem_append_right _ (List.mem_of_getElem? (i := 741) (by decide +kernel))) rfl
theorem ml_X5_save : Cond.selects yX5_save.cls yX5_save yX5_save ∈ allw := aw (List.mem_append_right _ (List.mem_of_getElem? (i := 742) (by decide +kernel))) rfl
theorem mm_X5_isSlot : lkM yX5_isSlot cX5_isSlot 1 (some .boolean) 1 := ⟨aw (List.mem_append_right _ (List.mem_of_getElem? (i := 1) (by decide +kernel))) rfl, aw (List.mem_append_right _ (List.mem_of_getElem? (i := 746) (by decide +kernel))) rfl, ⟨by decide +kernel, by decide +kernel, by decide +kernel⟩, by decide⟩
theorem pl_X5_isSlot : plainName yX5_isSlot.cls = true := by decide +kernel
theorem ms_X5_isSlot : Cond.static yX5_isSlot ∈ allw := aw (List.mem_append_right _ (List.mem_of_getElem? (i := 745) (by decide +kernel))) rfl
theorem mm_X5_restore : lkM yX5_restore cX5_restore 2 (some .int) 1 := ⟨aw (List.mem_append_right _ (List.mem_of_getElem? (i := 1) (by decide +kernel))) rfl, aw (List.mem_append_right _ (List.mem_of_getElem? (i := 751) (by decide +kernel))) rfl, ⟨by decide +kernel, by decide +kernel, by decide +kernel⟩, by decide⟩
theorem pl_X5_restore : plainName yX5_restore.cls = true := by decide +kernel
theorem mi_X5_restore : Cond.instanceMethod yX5_restore ∈ allw := aw (List.mem_append_right _ (List.mem_of_getElem? (i := 749) (by decide +kernel))) rfl
theorem ml_X5_restore : Cond.selects yX5_restore.cls yX5_restore yX5_restore ∈ allw := aw (List.mem_append_right _ (List.mem_of_getElem? (i := 750) (by decide +kernel))) rfl
theorem mm_X6_init : lkM yX6_init cX6_init 2 none 0 := ⟨aw (List.mem_append_right _ (List.mem_of_getElem? (i := 7) (by decide +kernel))) rfl, aw (List.mem_append_right _ (List.mem_of_getElem? (i := 756) (by decide +kernel))) rfl, ⟨by decide +kernel, by decide +kernel, by decide +kernel⟩, by decide⟩
theorem pl_X6_init : plainName yX6_init.cls = true := by decide +kernel
theorem mi_X6_init : Cond.instanceMethod yX6_init ∈ allw := aw (List.mem_append_right _ (List.mem_of_getElem? (i := 755) (by decide +kernel))) rfl
theorem mm_X6_set : lkM yX6_set cX6_set 4 (some .int) 2 := ⟨aw (List.mem_append_right _ (List.mem_of_getElem? (i := 7) (by decide +kernel))) rfl, aw (List.mem_append_right _ (List.mem_of_getElem? (i := 801) (by decide +kernel))) rfl, ⟨by decide +kernel, by decide +kernel, by decide +kernel⟩, by decide⟩
theorem pl_X6_set : plainName yX6_set.cls = true := by decide +kernel
theorem mi_X6_set : Cond.instanceMethod yX6_set ∈ allw := aw (List.mem_append_right _ (List.mem_of_getElem? (i := 799) (by decide +kernel))) rfl
theorem ml_X6_set : Cond.selects yX6_set.cls yX6_set yX6_set ∈ allw := aw (List.mem_append_right _ (List.mem_of_getElem? (i := 800) (by decide +kernel))) rfl
theorem mm_X6_in : lkM yX6_in cX6_in 3 (some .boolean) 3 := ⟨aw (List.mem_append_right _ (List.mem_of_getElem? (i := 7) (by decide +kernel))) rfl, aw (List.mem_append_right _ (List.mem_of_getElem? (i := 804) (by decide +kernel))) rfl, ⟨by decide +kernel, by decide +kernel, by decide +kernel⟩, by decide⟩
theorem pl_X6_in : plainName yX6_in.cls = true := by decide +kernel
theorem ms_X6_in : Cond.static yX6_in ∈ allw := aw (List.mem_append_right _ (List.mem_of_getElem? (i := 803) (by decide +kernel))) rfl
theorem mm_X6_leastOf : lkM yX6_leastOf cX6_leastOf 1 (some .int) 1 := ⟨aw (List.mem_append_right _ (List.mem_of_getElem? (i := 7) (by decide +kernel))) rfl, aw (List.mem_append_right _ (List.mem_of_getElem? (i := 807) (by decide +kernel))) rfl, ⟨by decide +kernel, by decide +kernel, by decide +kernel⟩, by decide⟩
theorem pl_X6_leastOf : plainName yX6_leastOf.cls = true := by decide +kernel
theorem ms_X6_leastOf : Cond.static yX6_leastOf ∈ allw := aw (List.mem_append_right _ (List.mem_of_getElem? (i := 806) (by decide +kernel))) rfl
theorem mm_X6_mostOf : lkM yX6_mostOf cX6_mostOf 1 (some .int) 1 := ⟨aw (List.mem_append_right _ (List.mem_of_getElem? (i := 7) (by decide +kernel))) rfl, aw (List.mem_append_right _ (List.mem_of_getElem? (i := 810) (by decide +kernel))) rfl, ⟨by decide +kernel, by decide +kernel, by decide +kernel⟩, by decide⟩
theorem pl_X6_mostOf : plainName yX6_mostOf.cls = true := by decide +kernel
theorem ms_X6_mostOf : Cond.static yX6_mostOf ∈ allw := aw (List.mem_append_right _ (List.mem_of_getElem? (i := 809) (by decide +kernel))) rfl
theorem mm_X6_records : lkM yX6_records cX6_records 2 none 0 := ⟨aw (List.mem_append_right _ (List.mem_of_getElem? (i := 7) (by decide +kernel))) rfl, aw (List.mem_append_right _ (List.mem_of_getElem? (i := 814) (by decide +kernel))) rfl, ⟨by decide +kernel, by decide +kernel, by decide +kernel⟩, by decide⟩
theorem pl_X6_records : plainName yX6_records.cls = true := by decide +kernel
theorem mi_X6_records : Cond.instanceMethod yX6_records ∈ allw := aw (List.mem_append_right _ (List.mem_of_getElem? (i := 813) (by decide +kernel))) rfl
theorem ml_X6_records : Cond.selects yX6_records.cls yX6_records yX6_records ∈ allw := aw (List.mem_append_left _ (List.mem_of_getElem? (i := 19) (by decide +kernel))) rfl
theorem mm_X6_person : lkM yX6_person cX6_person 3 (some .int) 1 := ⟨aw (List.mem_append_right _ (List.mem_of_getElem? (i := 7) (by decide +kernel))) rfl, aw (List.mem_append_right _ (List.mem_of_getElem? (i := 818) (by decide +kernel))) rfl, ⟨by decide +kernel, by decide +kernel, by decide +kernel⟩, by decide⟩
theorem pl_X6_person : plainName yX6_person.cls = true := by decide +kernel
theorem mi_X6_person : Cond.instanceMethod yX6_person ∈ allw := aw (List.mem_append_right _ (List.mem_of_getElem? (i := 816) (by decide +kernel))) rfl
theorem ml_X6_person : Cond.selects yX6_person.cls yX6_person yX6_person ∈ allw := aw (List.mem_append_right _ (List.mem_of_getElem? (i := 817) (by decide +kernel))) rfl
theorem mm_X6_refusesPerson : lkM yX6_refusesPerson cX6_refusesPerson 2 (some .int) 1 := ⟨aw (List.mem_append_right _ (List.mem_of_getElem? (i := 7) (by decide +kernel))) rfl, aw (List.mem_append_right _ (List.mem_of_getElem? (i := 822) (by decide +kernel))) rfl, ⟨by decide +kernel, by decide +kernel, by decide +kernel⟩, by decide⟩
theorem pl_X6_refusesPerson : plainName yX6_refusesPerson.cls = true := by decide +kernel
theorem mi_X6_refusesPerson : Cond.instanceMethod yX6_refusesPerson ∈ allw := aw (List.mem_append_right _ (List.mem_of_getElem? (i := 821) (by decide +kernel))) rfl
theorem ml_X6_refusesPerson : Cond.selects yX6_refusesPerson.cls yX6_refusesPerson yX6_refusesPerson ∈ allw := aw (List.mem_append_left _ (List.mem_of_getElem? (i := 20) (by decide +kernel))) rfl
theorem mm_X6_addsPerson : lkM yX6_addsPerson cX6_addsPerson 3 (some .int) 1 := ⟨aw (List.mem_append_right _ (List.mem_of_getElem? (i := 7) (by decide +kernel))) rfl, aw (List.mem_append_right _ (List.mem_of_getElem? (i := 826) (by decide +kernel))) rfl, ⟨by decide +kernel, by decide +kernel, by decide +kernel⟩, by decide⟩
theorem pl_X6_addsPerson : plainName yX6_addsPerson.cls = true := by decide +kernel
theorem mi_X6_addsPerson : Cond.instanceMethod yX6_addsPerson ∈ allw := aw (List.mem_append_right _ (List.mem_of_getElem? (i := 825) (by decide +kernel))) rfl
theorem ml_X6_addsPerson : Cond.selects yX6_addsPerson.cls yX6_addsPerson yX6_addsPerson ∈ allw := aw (List.mem_append_left _ (List.mem_of_getElem? (i := 21) (by decide +kernel))) rfl
theorem mm_X6_layPerson : lkM yX6_layPerson cX6_layPerson 4 none 3 := ⟨aw (List.mem_append_right _ (List.mem_of_getElem? (i := 7) (by decide +kernel))) rfl, aw (List.mem_append_right _ (List.mem_of_getElem? (i := 830) (by decide +kernel))) rfl, ⟨by decide +kernel, by decide +kernel, by decide +kernel⟩, by decide⟩
theorem pl_X6_layPerson : plainName yX6_layPerson.cls = true := by decide +kernel
theorem mi_X6_layPerson : Cond.instanceMethod yX6_layPerson ∈ allw := aw (List.mem_append_right _ (List.mem_of_getElem? (i := 829) (by decide +kernel))) rfl
theorem ml_X6_layPerson : Cond.selects yX6_layPerson.cls yX6_layPerson yX6_layPerson ∈ allw := aw (List.mem_append_left _ (List.mem_of_getElem? (i := 22) (by decide +kernel))) rfl
theorem mm_X6_buy : lkM yX6_buy cX6_buy 2 (some .int) 1 := ⟨aw (List.mem_append_right _ (List.mem_of_getElem? (i := 7) (by decide +kernel))) rfl, aw (List.mem_append_right _ (List.mem_of_getElem? (i := 834) (by decide +kernel))) rfl, ⟨by decide +kernel, by decide +kernel, by decide +kernel⟩, by decide⟩
theorem pl_X6_buy : plainName yX6_buy.cls = true := by decide +kernel
theorem mi_X6_buy : Cond.instanceMethod yX6_buy ∈ allw := aw (List.mem_append_right _ (List.mem_of_getElem? (i := 832) (by decide +kernel))) rfl
theorem ml_X6_buy : Cond.selects yX6_buy.cls yX6_buy yX6_buy ∈ allw := aw (List.mem_append_right _ (List.mem_of_getElem? (i := 833) (by decide +kernel))) rfl
theorem mm_X6_job : lkM yX6_job cX6_job 7 (some .int) 5 := ⟨aw (List.mem_append_right _ (List.mem_of_getElem? (i := 7) (by decide +kernel))) rfl, aw (List.mem_append_right _ (List.mem_of_getElem? (i := 838) (by decide +kernel))) rfl, ⟨by decide +kernel, by decide +kernel, by decide +kernel⟩, by decide⟩
theorem pl_X6_job : plainName yX6_job.cls = true := by decide +kernel
theorem mi_X6_job : Cond.instanceMethod yX6_job ∈ allw := aw (List.mem_append_right _ (List.mem_of_getElem? (i := 836) (by decide +kernel))) rfl
theorem ml_X6_job : Cond.selects yX6_job.cls yX6_job yX6_job ∈ allw := aw (List.mem_append_right _ (List.mem_of_getElem? (i := 837) (by decide +kernel))) rfl
theorem mm_X6_refusesJob : lkM yX6_refusesJob cX6_refusesJob 7 (some .int) 5 := ⟨aw (List.mem_append_right _ (List.mem_of_getElem? (i := 7) (by decide +kernel))) rfl, aw (List.mem_append_right _ (List.mem_of_getElem? (i := 842) (by decide +kernel))) rfl, ⟨by decide +kernel, by decide +kernel, by decide +kernel⟩, by decide⟩
theorem pl_X6_refusesJob : plainName yX6_refusesJob.cls = true := by decide +kernel
theorem mi_X6_refusesJob : Cond.instanceMethod yX6_refusesJob ∈ allw := aw (List.mem_append_right _ (List.mem_of_getElem? (i := 841) (by decide +kernel))) rfl
theorem ml_X6_refusesJob : Cond.selects yX6_refusesJob.cls yX6_refusesJob yX6_refusesJob ∈ allw := aw (List.mem_append_left _ (List.mem_of_getElem? (i := 23) (by decide +kernel))) rfl
theorem mm_X6_addsJob : lkM yX6_addsJob cX6_addsJob 7 (some .int) 5 := ⟨aw (List.mem_append_right _ (List.mem_of_getElem? (i := 7) (by decide +kernel))) rfl, aw (List.mem_append_right _ (List.mem_of_getElem? (i := 846) (by decide +kernel))) rfl, ⟨by decide +kernel, by decide +kernel, by decide +kernel⟩, by decide⟩
theorem pl_X6_addsJob : plainName yX6_addsJob.cls = true := by decide +kernel
theorem mi_X6_addsJob : Cond.instanceMethod yX6_addsJob ∈ allw := aw (List.mem_append_right _ (List.mem_of_getElem? (i := 845) (by decide +kernel))) rfl
theorem ml_X6_addsJob : Cond.selects yX6_addsJob.cls yX6_addsJob yX6_addsJob ∈ allw := aw (List.mem_append_left _ (List.mem_of_getElem? (i := 24) (by decide +kernel))) rfl
theorem mm_X6_lay : lkM yX6_lay cX6_lay 4 none 3 := ⟨aw (List.mem_append_right _ (List.mem_of_getElem? (i := 7) (by decide +kernel))) rfl, aw (List.mem_append_right _ (List.mem_of_getElem? (i := 850) (by decide +kernel))) rfl, ⟨by decide +kernel, by decide +kernel, by decide +kernel⟩, by decide⟩
theorem pl_X6_lay : plainName yX6_lay.cls = true := by decide +kernel
theorem mi_X6_lay : Cond.instanceMethod yX6_lay ∈ allw := aw (List.mem_append_right _ (List.mem_of_getElem? (i := 849) (by decide +kernel))) rfl
theorem ml_X6_lay : Cond.selects yX6_lay.cls yX6_lay yX6_lay ∈ allw := aw (List.mem_append_left _ (List.mem_of_getElem? (i := 25) (by decide +kernel))) rfl
theorem mm_X6_begin : lkM yX6_begin cX6_begin 5 (some .int) 3 := ⟨aw (List.mem_append_right _ (List.mem_of_getElem? (i := 7) (by decide +kernel))) rfl, aw (List.mem_append_right _ (List.mem_of_getElem? (i := 854) (by decide +kernel))) rfl, ⟨by decide +kernel, by decide +kernel, by decide +kernel⟩, by decide⟩
theorem pl_X6_begin : plainName yX6_begin.cls = true := by decide +kernel
theorem mi_X6_begin : Cond.instanceMethod yX6_begin ∈ allw := aw (List.mem_append_right _ (List.mem_of_getElem? (i := 852) (by decide +kernel))) rfl
theorem ml_X6_begin : Cond.selects yX6_begin.cls yX6_begin yX6_begin ∈ allw := aw (List.mem_append_right _ (List.mem_of_getElem? (i := 853) (by decide +kernel))) rfl
theorem mm_X6_refusesBegin : lkM yX6_refusesBegin cX6_refusesBegin 4 (some .int) 3 := ⟨aw (List.mem_append_right _ (List.mem_of_getElem? (i := 7) (by decide +kernel))) rfl, aw (List.mem_append_right _ (List.mem_of_getElem? (i := 858) (by decide +kernel))) rfl, ⟨by decide +kernel, by decide +kernel, by decide +kernel⟩, by decide⟩
theorem pl_X6_refusesBegin : plainName yX6_refusesBegin.cls = true := by decide +kernel
theorem mi_X6_refusesBegin : Cond.instanceMethod yX6_refusesBegin ∈ allw := aw (List.mem_append_right _ (List.mem_of_getElem? (i := 857) (by decide +kernel))) rfl
theorem ml_X6_refusesBegin : Cond.selects yX6_refusesBegin.cls yX6_refusesBegin yX6_refusesBegin ∈ allw := aw (List.mem_append_left _ (List.mem_of_getElem? (i := 26) (by decide +kernel))) rfl
theorem mm_X6_isJob : lkM yX6_isJob cX6_isJob 2 (some .boolean) 1 := ⟨aw (List.mem_append_right _ (List.mem_of_getElem? (i := 7) (by decide +kernel))) rfl, aw (List.mem_append_right _ (List.mem_of_getElem? (i := 862) (by decide +kernel))) rfl, ⟨by decide +kernel, by decide +kernel, by decide +kernel⟩, by decide⟩
theorem pl_X6_isJob : plainName yX6_isJob.cls = true := by decide +kernel
theorem mi_X6_isJob : Cond.instanceMethod yX6_isJob ∈ allw := aw (List.mem_append_right _ (List.mem_of_getElem? (i := 861) (by decide +kernel))) rfl
theorem ml_X6_isJob : Cond.selects yX6_isJob.cls yX6_isJob yX6_isJob ∈ allw := aw (List.mem_append_left _ (List.mem_of_getElem? (i := 27) (by decide +kernel))) rfl
theorem mm_X6_isStraps : lkM yX6_isStraps cX6_isStraps 1 (some .boolean) 1 := ⟨aw (List.mem_append_right _ (List.mem_of_getElem? (i := 7) (by decide +kernel))) rfl, aw (List.mem_append_right _ (List.mem_of_getElem? (i := 865) (by decide +kernel))) rfl, ⟨by decide +kernel, by decide +kernel, by decide +kernel⟩, by decide⟩
theorem pl_X6_isStraps : plainName yX6_isStraps.cls = true := by decide +kernel
theorem ms_X6_isStraps : Cond.static yX6_isStraps ∈ allw := aw (List.mem_append_right _ (List.mem_of_getElem? (i := 864) (by decide +kernel))) rfl
theorem mm_X6_reason : lkM yX6_reason cX6_reason 4 (some .int) 3 := ⟨aw (List.mem_append_right _ (List.mem_of_getElem? (i := 7) (by decide +kernel))) rfl, aw (List.mem_append_right _ (List.mem_of_getElem? (i := 869) (by decide +kernel))) rfl, ⟨by decide +kernel, by decide +kernel, by decide +kernel⟩, by decide⟩
theorem pl_X6_reason : plainName yX6_reason.cls = true := by decide +kernel
theorem mi_X6_reason : Cond.instanceMethod yX6_reason ∈ allw := aw (List.mem_append_right _ (List.mem_of_getElem? (i := 868) (by decide +kernel))) rfl
theorem ml_X6_reason : Cond.selects yX6_reason.cls yX6_reason yX6_reason ∈ allw := aw (List.mem_append_left _ (List.mem_of_getElem? (i := 28) (by decide +kernel))) rfl
theorem mm_X6_ofJobs : lkM yX6_ofJobs cX6_ofJobs 3 (some .int) 2 := ⟨aw (List.mem_append_right _ (List.mem_of_getElem? (i := 7) (by decide +kernel))) rfl, aw (List.mem_append_right _ (List.mem_of_getElem? (i := 873) (by decide +kernel))) rfl, ⟨by decide +kernel, by decide +kernel, by decide +kernel⟩, by decide⟩
theorem pl_X6_ofJobs : plainName yX6_ofJobs.cls = true := by decide +kernel
theorem mi_X6_ofJobs : Cond.instanceMethod yX6_ofJobs ∈ allw := aw (List.mem_append_right _ (List.mem_of_getElem? (i := 872) (by decide +kernel))) rfl
theorem ml_X6_ofJobs : Cond.selects yX6_ofJobs.cls yX6_ofJobs yX6_ofJobs ∈ allw := aw (List.mem_append_left _ (List.mem_of_getElem? (i := 29) (by decide +kernel))) rfl
theorem mm_X6_ones : lkM yX6_ones cX6_ones 3 (some .int) 1 := ⟨aw (List.mem_append_right _ (List.mem_of_getElem? (i := 7) (by decide +kernel))) rfl, aw (List.mem_append_right _ (List.mem_of_getElem? (i := 876) (by decide +kernel))) rfl, ⟨by decide +kernel, by decide +kernel, by decide +kernel⟩, by decide⟩
theorem pl_X6_ones : plainName yX6_ones.cls = true := by decide +kernel
theorem ms_X6_ones : Cond.static yX6_ones ∈ allw := aw (List.mem_append_right _ (List.mem_of_getElem? (i := 875) (by decide +kernel))) rfl
theorem mm_X6_busy : lkM yX6_busy cX6_busy 3 (some .int) 0 := ⟨aw (List.mem_append_right _ (List.mem_of_getElem? (i := 7) (by decide +kernel))) rfl, aw (List.mem_append_right _ (List.mem_of_getElem? (i := 880) (by decide +kernel))) rfl, ⟨by decide +kernel, by decide +kernel, by decide +kernel⟩, by decide⟩
theorem pl_X6_busy : plainName yX6_busy.cls = true := by decide +kernel
theorem mi_X6_busy : Cond.instanceMethod yX6_busy ∈ allw := aw (List.mem_append_right _ (List.mem_of_getElem? (i := 879) (by decide +kernel))) rfl
theorem ml_X6_busy : Cond.selects yX6_busy.cls yX6_busy yX6_busy ∈ allw := aw (List.mem_append_left _ (List.mem_of_getElem? (i := 30) (by decide +kernel))) rfl
theorem mm_X6_canHave : lkM yX6_canHave cX6_canHave 3 (some .boolean) 2 := ⟨aw (List.mem_append_right _ (List.mem_of_getElem? (i := 7) (by decide +kernel))) rfl, aw (List.mem_append_right _ (List.mem_of_getElem? (i := 884) (by decide +kernel))) rfl, ⟨by decide +kernel, by decide +kernel, by decide +kernel⟩, by decide⟩
theorem pl_X6_canHave : plainName yX6_canHave.cls = true := by decide +kernel
theorem mi_X6_canHave : Cond.instanceMethod yX6_canHave ∈ allw := aw (List.mem_append_right _ (List.mem_of_getElem? (i := 883) (by decide +kernel))) rfl
theorem ml_X6_canHave : Cond.selects yX6_canHave.cls yX6_canHave yX6_canHave ∈ allw := aw (List.mem_append_left _ (List.mem_of_getElem? (i := 31) (by decide +kernel))) rfl
theorem mm_X6_freeStraps : lkM yX6_freeStraps cX6_freeStraps 4 (some .int) 1 := ⟨aw (List.mem_append_right _ (List.mem_of_getElem? (i := 7) (by decide +kernel))) rfl, aw (List.mem_append_right _ (List.mem_of_getElem? (i := 888) (by decide +kernel))) rfl, ⟨by decide +kernel, by decide +kernel, by decide +kernel⟩, by decide⟩
theorem pl_X6_freeStraps : plainName yX6_freeStraps.cls = true := by decide +kernel
theorem mi_X6_freeStraps : Cond.instanceMethod yX6_freeStraps ∈ allw := aw (List.mem_append_right _ (List.mem_of_getElem? (i := 887) (by decide +kernel))) rfl
theorem ml_X6_freeStraps : Cond.selects yX6_freeStraps.cls yX6_freeStraps yX6_freeStraps ∈ allw := aw (List.mem_append_left _ (List.mem_of_getElem? (i := 32) (by decide +kernel))) rfl
theorem mm_X6_strength : lkM yX6_strength cX6_strength 4 (some .int) 1 := ⟨aw (List.mem_append_right _ (List.mem_of_getElem? (i := 7) (by decide +kernel))) rfl, aw (List.mem_append_right _ (List.mem_of_getElem? (i := 892) (by decide +kernel))) rfl, ⟨by decide +kernel, by decide +kernel, by decide +kernel⟩, by decide⟩
theorem pl_X6_strength : plainName yX6_strength.cls = true := by decide +kernel
theorem mi_X6_strength : Cond.instanceMethod yX6_strength ∈ allw := aw (List.mem_append_right _ (List.mem_of_getElem? (i := 891) (by decide +kernel))) rfl
theorem ml_X6_strength : Cond.selects yX6_strength.cls yX6_strength yX6_strength ∈ allw := aw (List.mem_append_left _ (List.mem_of_getElem? (i := 33) (by decide +kernel))) rfl
theorem mm_X6_ofPerson : lkM yX6_ofPerson cX6_ofPerson 3 (some .int) 2 := ⟨aw (List.mem_append_right _ (List.mem_of_getElem? (i := 7) (by decide +kernel))) rfl, aw (List.mem_append_right _ (List.mem_of_getElem? (i := 896) (by decide +kernel))) rfl, ⟨by decide +kernel, by decide +kernel, by decide +kernel⟩, by decide⟩
theorem pl_X6_ofPerson : plainName yX6_ofPerson.cls = true := by decide +kernel
theorem mi_X6_ofPerson : Cond.instanceMethod yX6_ofPerson ∈ allw := aw (List.mem_append_right _ (List.mem_of_getElem? (i := 895) (by decide +kernel))) rfl
theorem ml_X6_ofPerson : Cond.selects yX6_ofPerson.cls yX6_ofPerson yX6_ofPerson ∈ allw := aw (List.mem_append_left _ (List.mem_of_getElem? (i := 34) (by decide +kernel))) rfl
theorem mm_X6_loadBy : lkM yX6_loadBy cX6_loadBy 5 (some .int) 2 := ⟨aw (List.mem_append_right _ (List.mem_of_getElem? (i := 7) (by decide +kernel))) rfl, aw (List.mem_append_right _ (List.mem_of_getElem? (i := 900) (by decide +kernel))) rfl, ⟨by decide +kernel, by decide +kernel, by decide +kernel⟩, by decide⟩
theorem pl_X6_loadBy : plainName yX6_loadBy.cls = true := by decide +kernel
theorem mi_X6_loadBy : Cond.instanceMethod yX6_loadBy ∈ allw := aw (List.mem_append_right _ (List.mem_of_getElem? (i := 899) (by decide +kernel))) rfl
theorem ml_X6_loadBy : Cond.selects yX6_loadBy.cls yX6_loadBy yX6_loadBy ∈ allw := aw (List.mem_append_left _ (List.mem_of_getElem? (i := 35) (by decide +kernel))) rfl
theorem mm_X6_begins : lkM yX6_begins cX6_begins 5 (some .int) 3 := ⟨aw (List.mem_append_right _ (List.mem_of_getElem? (i := 7) (by decide +kernel))) rfl, aw (List.mem_append_right _ (List.mem_of_getElem? (i := 904) (by decide +kernel))) rfl, ⟨by decide +kernel, by decide +kernel, by decide +kernel⟩, by decide⟩
theorem pl_X6_begins : plainName yX6_begins.cls = true := by decide +kernel
theorem mi_X6_begins : Cond.instanceMethod yX6_begins ∈ allw := aw (List.mem_append_right _ (List.mem_of_getElem? (i := 903) (by decide +kernel))) rfl
theorem ml_X6_begins : Cond.selects yX6_begins.cls yX6_begins yX6_begins ∈ allw := aw (List.mem_append_left _ (List.mem_of_getElem? (i := 36) (by decide +kernel))) rfl
theorem mm_X6_assign : lkM yX6_assign cX6_assign 1 (some .int) 0 := ⟨aw (List.mem_append_right _ (List.mem_of_getElem? (i := 7) (by decide +kernel))) rfl, aw (List.mem_append_right _ (List.mem_of_getElem? (i := 908) (by decide +kernel))) rfl, ⟨by decide +kernel, by decide +kernel, by decide +kernel⟩, by decide⟩
theorem pl_X6_assign : plainName yX6_assign.cls = true := by decide +kernel
theorem mi_X6_assign : Cond.instanceMethod yX6_assign ∈ allw := aw (List.mem_append_right _ (List.mem_of_getElem? (i := 906) (by decide +kernel))) rfl
theorem ml_X6_assign : Cond.selects yX6_assign.cls yX6_assign yX6_assign ∈ allw := aw (List.mem_append_right _ (List.mem_of_getElem? (i := 907) (by decide +kernel))) rfl
theorem mm_X6_assigns : lkM yX6_assigns cX6_assigns 6 (some .int) 0 := ⟨aw (List.mem_append_right _ (List.mem_of_getElem? (i := 7) (by decide +kernel))) rfl, aw (List.mem_append_right _ (List.mem_of_getElem? (i := 912) (by decide +kernel))) rfl, ⟨by decide +kernel, by decide +kernel, by decide +kernel⟩, by decide⟩
theorem pl_X6_assigns : plainName yX6_assigns.cls = true := by decide +kernel
theorem mi_X6_assigns : Cond.instanceMethod yX6_assigns ∈ allw := aw (List.mem_append_right _ (List.mem_of_getElem? (i := 911) (by decide +kernel))) rfl
theorem ml_X6_assigns : Cond.selects yX6_assigns.cls yX6_assigns yX6_assigns ∈ allw := aw (List.mem_append_left _ (List.mem_of_getElem? (i := 37) (by decide +kernel))) rfl
theorem mm_X6_waitingAt : lkM yX6_waitingAt cX6_waitingAt 7 (some .int) 2 := ⟨aw (List.mem_append_right _ (List.mem_of_getElem? (i := 7) (by decide +kernel))) rfl, aw (List.mem_append_right _ (List.mem_of_getElem? (i := 916) (by decide +kernel))) rfl, ⟨by decide +kernel, by decide +kernel, by decide +kernel⟩, by decide⟩
theorem pl_X6_waitingAt : plainName yX6_waitingAt.cls = true := by decide +kernel
theorem mi_X6_waitingAt : Cond.instanceMethod yX6_waitingAt ∈ allw := aw (List.mem_append_right _ (List.mem_of_getElem? (i := 915) (by decide +kernel))) rfl
theorem ml_X6_waitingAt : Cond.selects yX6_waitingAt.cls yX6_waitingAt yX6_waitingAt ∈ allw := aw (List.mem_append_left _ (List.mem_of_getElem? (i := 38) (by decide +kernel))) rfl
theorem mm_X6_isAhead : lkM yX6_isAhead cX6_isAhead 4 (some .boolean) 2 := ⟨aw (List.mem_append_right _ (List.mem_of_getElem? (i := 7) (by decide +kernel))) rfl, aw (List.mem_append_right _ (List.mem_of_getElem? (i := 920) (by decide +kernel))) rfl, ⟨by decide +kernel, by decide +kernel, by decide +kernel⟩, by decide⟩
theorem pl_X6_isAhead : plainName yX6_isAhead.cls = true := by decide +kernel
theorem mi_X6_isAhead : Cond.instanceMethod yX6_isAhead ∈ allw := aw (List.mem_append_right _ (List.mem_of_getElem? (i := 919) (by decide +kernel))) rfl
theorem ml_X6_isAhead : Cond.selects yX6_isAhead.cls yX6_isAhead yX6_isAhead ∈ allw := aw (List.mem_append_left _ (List.mem_of_getElem? (i := 39) (by decide +kernel))) rfl
theorem mm_X6_strapsFor : lkM yX6_strapsFor cX6_strapsFor 7 (some .int) 1 := ⟨aw (List.mem_append_right _ (List.mem_of_getElem? (i := 7) (by decide +kernel))) rfl, aw (List.mem_append_right _ (List.mem_of_getElem? (i := 924) (by decide +kernel))) rfl, ⟨by decide +kernel, by decide +kernel, by decide +kernel⟩, by decide⟩
theorem pl_X6_strapsFor : plainName yX6_strapsFor.cls = true := by decide +kernel
theorem mi_X6_strapsFor : Cond.instanceMethod yX6_strapsFor ∈ allw := aw (List.mem_append_right _ (List.mem_of_getElem? (i := 923) (by decide +kernel))) rfl
theorem ml_X6_strapsFor : Cond.selects yX6_strapsFor.cls yX6_strapsFor yX6_strapsFor ∈ allw := aw (List.mem_append_left _ (List.mem_of_getElem? (i := 40) (by decide +kernel))) rfl
theorem mm_X6_crewFor : lkM yX6_crewFor cX6_crewFor 7 (some .int) 2 := ⟨aw (List.mem_append_right _ (List.mem_of_getElem? (i := 7) (by decide +kernel))) rfl, aw (List.mem_append_right _ (List.mem_of_getElem? (i := 928) (by decide +kernel))) rfl, ⟨by decide +kernel, by decide +kernel, by decide +kernel⟩, by decide⟩
theorem pl_X6_crewFor : plainName yX6_crewFor.cls = true := by decide +kernel
theorem mi_X6_crewFor : Cond.instanceMethod yX6_crewFor ∈ allw := aw (List.mem_append_right _ (List.mem_of_getElem? (i := 927) (by decide +kernel))) rfl
theorem ml_X6_crewFor : Cond.selects yX6_crewFor.cls yX6_crewFor yX6_crewFor ∈ allw := aw (List.mem_append_left _ (List.mem_of_getElem? (i := 41) (by decide +kernel))) rfl
theorem mm_X6_strongestBut : lkM yX6_strongestBut cX6_strongestBut 5 (some .int) 1 := ⟨aw (List.mem_append_right _ (List.mem_of_getElem? (i := 7) (by decide +kernel))) rfl, aw (List.mem_append_right _ (List.mem_of_getElem? (i := 932) (by decide +kernel))) rfl, ⟨by decide +kernel, by decide +kernel, by decide +kernel⟩, by decide⟩
theorem pl_X6_strongestBut : plainName yX6_strongestBut.cls = true := by decide +kernel
theorem mi_X6_strongestBut : Cond.instanceMethod yX6_strongestBut ∈ allw := aw (List.mem_append_right _ (List.mem_of_getElem? (i := 931) (by decide +kernel))) rfl
theorem ml_X6_strongestBut : Cond.selects yX6_strongestBut.cls yX6_strongestBut yX6_strongestBut ∈ allw := aw (List.mem_append_left _ (List.mem_of_getElem? (i := 42) (by decide +kernel))) rfl
theorem mm_X6_delay : lkM yX6_delay cX6_delay 4 (some .int) 2 := ⟨aw (List.mem_append_right _ (List.mem_of_getElem? (i := 7) (by decide +kernel))) rfl, aw (List.mem_append_right _ (List.mem_of_getElem? (i := 936) (by decide +kernel))) rfl, ⟨by decide +kernel, by decide +kernel, by decide +kernel⟩, by decide⟩
theorem pl_X6_delay : plainName yX6_delay.cls = true := by decide +kernel
theorem mi_X6_delay : Cond.instanceMethod yX6_delay ∈ allw := aw (List.mem_append_right _ (List.mem_of_getElem? (i := 934) (by decide +kernel))) rfl
theorem ml_X6_delay : Cond.selects yX6_delay.cls yX6_delay yX6_delay ∈ allw := aw (List.mem_append_right _ (List.mem_of_getElem? (i := 935) (by decide +kernel))) rfl
theorem mm_X6_refusesDelay : lkM yX6_refusesDelay cX6_refusesDelay 3 (some .int) 2 := ⟨aw (List.mem_append_right _ (List.mem_of_getElem? (i := 7) (by decide +kernel))) rfl, aw (List.mem_append_right _ (List.mem_of_getElem? (i := 940) (by decide +kernel))) rfl, ⟨by decide +kernel, by decide +kernel, by decide +kernel⟩, by decide⟩
theorem pl_X6_refusesDelay : plainName yX6_refusesDelay.cls = true := by decide +kernel
theorem mi_X6_refusesDelay : Cond.instanceMethod yX6_refusesDelay ∈ allw := aw (List.mem_append_right _ (List.mem_of_getElem? (i := 939) (by decide +kernel))) rfl
theorem ml_X6_refusesDelay : Cond.selects yX6_refusesDelay.cls yX6_refusesDelay yX6_refusesDelay ∈ allw := aw (List.mem_append_left _ (List.mem_of_getElem? (i := 43) (by decide +kernel))) rfl
theorem mm_X6_delays : lkM yX6_delays cX6_delays 3 (some .int) 2 := ⟨aw (List.mem_append_right _ (List.mem_of_getElem? (i := 7) (by decide +kernel))) rfl, aw (List.mem_append_right _ (List.mem_of_getElem? (i := 944) (by decide +kernel))) rfl, ⟨by decide +kernel, by decide +kernel, by decide +kernel⟩, by decide⟩
theorem pl_X6_delays : plainName yX6_delays.cls = true := by decide +kernel
theorem mi_X6_delays : Cond.instanceMethod yX6_delays ∈ allw := aw (List.mem_append_right _ (List.mem_of_getElem? (i := 943) (by decide +kernel))) rfl
theorem ml_X6_delays : Cond.selects yX6_delays.cls yX6_delays yX6_delays ∈ allw := aw (List.mem_append_left _ (List.mem_of_getElem? (i := 44) (by decide +kernel))) rfl
theorem mm_X6_callOff : lkM yX6_callOff cX6_callOff 3 (some .int) 1 := ⟨aw (List.mem_append_right _ (List.mem_of_getElem? (i := 7) (by decide +kernel))) rfl, aw (List.mem_append_right _ (List.mem_of_getElem? (i := 948) (by decide +kernel))) rfl, ⟨by decide +kernel, by decide +kernel, by decide +kernel⟩, by decide⟩
theorem pl_X6_callOff : plainName yX6_callOff.cls = true := by decide +kernel
theorem mi_X6_callOff : Cond.instanceMethod yX6_callOff ∈ allw := aw (List.mem_append_right _ (List.mem_of_getElem? (i := 946) (by decide +kernel))) rfl
theorem ml_X6_callOff : Cond.selects yX6_callOff.cls yX6_callOff yX6_callOff ∈ allw := aw (List.mem_append_right _ (List.mem_of_getElem? (i := 947) (by decide +kernel))) rfl
theorem mm_X6_refusesCall : lkM yX6_refusesCall cX6_refusesCall 2 (some .int) 1 := ⟨aw (List.mem_append_right _ (List.mem_of_getElem? (i := 7) (by decide +kernel))) rfl, aw (List.mem_append_right _ (List.mem_of_getElem? (i := 952) (by decide +kernel))) rfl, ⟨by decide +kernel, by decide +kernel, by decide +kernel⟩, by decide⟩
theorem pl_X6_refusesCall : plainName yX6_refusesCall.cls = true := by decide +kernel
theorem mi_X6_refusesCall : Cond.instanceMethod yX6_refusesCall ∈ allw := aw (List.mem_append_right _ (List.mem_of_getElem? (i := 951) (by decide +kernel))) rfl
theorem ml_X6_refusesCall : Cond.selects yX6_refusesCall.cls yX6_refusesCall yX6_refusesCall ∈ allw := aw (List.mem_append_left _ (List.mem_of_getElem? (i := 45) (by decide +kernel))) rfl
theorem mm_X6_callsOff : lkM yX6_callsOff cX6_callsOff 3 (some .int) 1 := ⟨aw (List.mem_append_right _ (List.mem_of_getElem? (i := 7) (by decide +kernel))) rfl, aw (List.mem_append_right _ (List.mem_of_getElem? (i := 956) (by decide +kernel))) rfl, ⟨by decide +kernel, by decide +kernel, by decide +kernel⟩, by decide⟩
theorem pl_X6_callsOff : plainName yX6_callsOff.cls = true := by decide +kernel
theorem mi_X6_callsOff : Cond.instanceMethod yX6_callsOff ∈ allw := aw (List.mem_append_right _ (List.mem_of_getElem? (i := 955) (by decide +kernel))) rfl
theorem ml_X6_callsOff : Cond.selects yX6_callsOff.cls yX6_callsOff yX6_callsOff ∈ allw := aw (List.mem_append_left _ (List.mem_of_getElem? (i := 46) (by decide +kernel))) rfl
theorem mm_X6_pass : lkM yX6_pass cX6_pass 3 (some .int) 1 := ⟨aw (List.mem_append_right _ (List.mem_of_getElem? (i := 7) (by decide +kernel))) rfl, aw (List.mem_append_right _ (List.mem_of_getElem? (i := 960) (by decide +kernel))) rfl, ⟨by decide +kernel, by decide +kernel, by decide +kernel⟩, by decide⟩
theorem pl_X6_pass : plainName yX6_pass.cls = true := by decide +kernel
theorem mi_X6_pass : Cond.instanceMethod yX6_pass ∈ allw := aw (List.mem_append_right _ (List.mem_of_getElem? (i := 958) (by decide +kernel))) rfl
theorem ml_X6_pass : Cond.selects yX6_pass.cls yX6_pass yX6_pass ∈ allw := aw (List.mem_append_right _ (List.mem_of_getElem? (i := 959) (by decide +kernel))) rfl
theorem mm_X6_refusesHours : lkM yX6_refusesHours cX6_refusesHours 2 (some .int) 1 := ⟨aw (List.mem_append_right _ (List.mem_of_getElem? (i := 7) (by decide +kernel))) rfl, aw (List.mem_append_right _ (List.mem_of_getElem? (i := 964) (by decide +kernel))) rfl, ⟨by decide +kernel, by decide +kernel, by decide +kernel⟩, by decide⟩
theorem pl_X6_refusesHours : plainName yX6_refusesHours.cls = true := by decide +kernel
theorem mi_X6_refusesHours : Cond.instanceMethod yX6_refusesHours ∈ allw := aw (List.mem_append_right _ (List.mem_of_getElem? (i := 963) (by decide +kernel))) rfl
theorem ml_X6_refusesHours : Cond.selects yX6_refusesHours.cls yX6_refusesHours yX6_refusesHours ∈ allw := aw (List.mem_append_left _ (List.mem_of_getElem? (i := 47) (by decide +kernel))) rfl
theorem mm_X6_passes : lkM yX6_passes cX6_passes 4 (some .int) 1 := ⟨aw (List.mem_append_right _ (List.mem_of_getElem? (i := 7) (by decide +kernel))) rfl, aw (List.mem_append_right _ (List.mem_of_getElem? (i := 968) (by decide +kernel))) rfl, ⟨by decide +kernel, by decide +kernel, by decide +kernel⟩, by decide⟩
theorem pl_X6_passes : plainName yX6_passes.cls = true := by decide +kernel
theorem mi_X6_passes : Cond.instanceMethod yX6_passes ∈ allw := aw (List.mem_append_right _ (List.mem_of_getElem? (i := 967) (by decide +kernel))) rfl
theorem ml_X6_passes : Cond.selects yX6_passes.cls yX6_passes yX6_passes ∈ allw := aw (List.mem_append_left _ (List.mem_of_getElem? (i := 48) (by decide +kernel))) rfl
theorem mm_X6_goesBy : lkM yX6_goesBy cX6_goesBy 4 (some .int) 0 := ⟨aw (List.mem_append_right _ (List.mem_of_getElem? (i := 7) (by decide +kernel))) rfl, aw (List.mem_append_right _ (List.mem_of_getElem? (i := 972) (by decide +kernel))) rfl, ⟨by decide +kernel, by decide +kernel, by decide +kernel⟩, by decide⟩
theorem pl_X6_goesBy : plainName yX6_goesBy.cls = true := by decide +kernel
theorem mi_X6_goesBy : Cond.instanceMethod yX6_goesBy ∈ allw := aw (List.mem_append_right _ (List.mem_of_getElem? (i := 971) (by decide +kernel))) rfl
theorem ml_X6_goesBy : Cond.selects yX6_goesBy.cls yX6_goesBy yX6_goesBy ∈ allw := aw (List.mem_append_left _ (List.mem_of_getElem? (i := 49) (by decide +kernel))) rfl
theorem mm_X6_works : lkM yX6_works cX6_works 3 (some .boolean) 1 := ⟨aw (List.mem_append_right _ (List.mem_of_getElem? (i := 7) (by decide +kernel))) rfl, aw (List.mem_append_right _ (List.mem_of_getElem? (i := 976) (by decide +kernel))) rfl, ⟨by decide +kernel, by decide +kernel, by decide +kernel⟩, by decide⟩
theorem pl_X6_works : plainName yX6_works.cls = true := by decide +kernel
theorem mi_X6_works : Cond.instanceMethod yX6_works ∈ allw := aw (List.mem_append_right _ (List.mem_of_getElem? (i := 975) (by decide +kernel))) rfl
theorem ml_X6_works : Cond.selects yX6_works.cls yX6_works yX6_works ∈ allw := aw (List.mem_append_left _ (List.mem_of_getElem? (i := 50) (by decide +kernel))) rfl
theorem mm_X6_rest : lkM yX6_rest cX6_rest 5 none 1 := ⟨aw (List.mem_append_right _ (List.mem_of_getElem? (i := 7) (by decide +kernel))) rfl, aw (List.mem_append_right _ (List.mem_of_getElem? (i := 980) (by decide +kernel))) rfl, ⟨by decide +kernel, by decide +kernel, by decide +kernel⟩, by decide⟩
theorem pl_X6_rest : plainName yX6_rest.cls = true := by decide +kernel
theorem mi_X6_rest : Cond.instanceMethod yX6_rest ∈ allw := aw (List.mem_append_right _ (List.mem_of_getElem? (i := 979) (by decide +kernel))) rfl
theorem ml_X6_rest : Cond.selects yX6_rest.cls yX6_rest yX6_rest ∈ allw := aw (List.mem_append_left _ (List.mem_of_getElem? (i := 51) (by decide +kernel))) rfl
theorem mm_X6_carry : lkM yX6_carry cX6_carry 4 none 1 := ⟨aw (List.mem_append_right _ (List.mem_of_getElem? (i := 7) (by decide +kernel))) rfl, aw (List.mem_append_right _ (List.mem_of_getElem? (i := 984) (by decide +kernel))) rfl, ⟨by decide +kernel, by decide +kernel, by decide +kernel⟩, by decide⟩
theorem pl_X6_carry : plainName yX6_carry.cls = true := by decide +kernel
theorem mi_X6_carry : Cond.instanceMethod yX6_carry ∈ allw := aw (List.mem_append_right _ (List.mem_of_getElem? (i := 983) (by decide +kernel))) rfl
theorem ml_X6_carry : Cond.selects yX6_carry.cls yX6_carry yX6_carry ∈ allw := aw (List.mem_append_left _ (List.mem_of_getElem? (i := 52) (by decide +kernel))) rfl
theorem mm_X6_ends : lkM yX6_ends cX6_ends 3 none 1 := ⟨aw (List.mem_append_right _ (List.mem_of_getElem? (i := 7) (by decide +kernel))) rfl, aw (List.mem_append_right _ (List.mem_of_getElem? (i := 988) (by decide +kernel))) rfl, ⟨by decide +kernel, by decide +kernel, by decide +kernel⟩, by decide⟩
theorem pl_X6_ends : plainName yX6_ends.cls = true := by decide +kernel
theorem mi_X6_ends : Cond.instanceMethod yX6_ends ∈ allw := aw (List.mem_append_right _ (List.mem_of_getElem? (i := 987) (by decide +kernel))) rfl
theorem ml_X6_ends : Cond.selects yX6_ends.cls yX6_ends yX6_ends ∈ allw := aw (List.mem_append_left _ (List.mem_of_getElem? (i := 53) (by decide +kernel))) rfl
theorem mm_X6_of : lkM yX6_of cX6_of 3 (some .int) 2 := ⟨aw (List.mem_append_right _ (List.mem_of_getElem? (i := 7) (by decide +kernel))) rfl, aw (List.mem_append_right _ (List.mem_of_getElem? (i := 992) (by decide +kernel))) rfl, ⟨by decide +kernel, by decide +kernel, by decide +kernel⟩, by decide⟩
theorem pl_X6_of : plainName yX6_of.cls = true := by decide +kernel
theorem mi_X6_of : Cond.instanceMethod yX6_of ∈ allw := aw (List.mem_append_right _ (List.mem_of_getElem? (i := 990) (by decide +kernel))) rfl
theorem ml_X6_of : Cond.selects yX6_of.cls yX6_of yX6_of ∈ allw := aw (List.mem_append_right _ (List.mem_of_getElem? (i := 991) (by decide +kernel))) rfl
theorem mm_X6_jobOf : lkM yX6_jobOf cX6_jobOf 4 (some .int) 1 := ⟨aw (List.mem_append_right _ (List.mem_of_getElem? (i := 7) (by decide +kernel))) rfl, aw (List.mem_append_right _ (List.mem_of_getElem? (i := 996) (by decide +kernel))) rfl, ⟨by decide +kernel, by decide +kernel, by decide +kernel⟩, by decide⟩
theorem pl_X6_jobOf : plainName yX6_jobOf.cls = true := by decide +kernel
theorem mi_X6_jobOf : Cond.instanceMethod yX6_jobOf ∈ allw := aw (List.mem_append_right _ (List.mem_of_getElem? (i := 995) (by decide +kernel))) rfl
theorem ml_X6_jobOf : Cond.selects yX6_jobOf.cls yX6_jobOf yX6_jobOf ∈ allw := aw (List.mem_append_left _ (List.mem_of_getElem? (i := 54) (by decide +kernel))) rfl
theorem mm_X6_ofJob : lkM yX6_ofJob cX6_ofJob 3 (some .int) 2 := ⟨aw (List.mem_append_right _ (List.mem_of_getElem? (i := 7) (by decide +kernel))) rfl, aw (List.mem_append_right _ (List.mem_of_getElem? (i := 1000) (by decide +kernel))) rfl, ⟨by decide +kernel, by decide +kernel, by decide +kernel⟩, by decide⟩
theorem pl_X6_ofJob : plainName yX6_ofJob.cls = true := by decide +kernel
theorem mi_X6_ofJob : Cond.instanceMethod yX6_ofJob ∈ allw := aw (List.mem_append_right _ (List.mem_of_getElem? (i := 998) (by decide +kernel))) rfl
theorem ml_X6_ofJob : Cond.selects yX6_ofJob.cls yX6_ofJob yX6_ofJob ∈ allw := aw (List.mem_append_right _ (List.mem_of_getElem? (i := 999) (by decide +kernel))) rfl
theorem mm_X6_isLate : lkM yX6_isLate cX6_isLate 3 (some .boolean) 1 := ⟨aw (List.mem_append_right _ (List.mem_of_getElem? (i := 7) (by decide +kernel))) rfl, aw (List.mem_append_right _ (List.mem_of_getElem? (i := 1004) (by decide +kernel))) rfl, ⟨by decide +kernel, by decide +kernel, by decide +kernel⟩, by decide⟩
theorem pl_X6_isLate : plainName yX6_isLate.cls = true := by decide +kernel
theorem mi_X6_isLate : Cond.instanceMethod yX6_isLate ∈ allw := aw (List.mem_append_right _ (List.mem_of_getElem? (i := 1003) (by decide +kernel))) rfl
theorem ml_X6_isLate : Cond.selects yX6_isLate.cls yX6_isLate yX6_isLate ∈ allw := aw (List.mem_append_left _ (List.mem_of_getElem? (i := 55) (by decide +kernel))) rfl
theorem mm_X6_waiting : lkM yX6_waiting cX6_waiting 3 (some .int) 1 := ⟨aw (List.mem_append_right _ (List.mem_of_getElem? (i := 7) (by decide +kernel))) rfl, aw (List.mem_append_right _ (List.mem_of_getElem? (i := 1008) (by decide +kernel))) rfl, ⟨by decide +kernel, by decide +kernel, by decide +kernel⟩, by decide⟩
theorem pl_X6_waiting : plainName yX6_waiting.cls = true := by decide +kernel
theorem mi_X6_waiting : Cond.instanceMethod yX6_waiting ∈ allw := aw (List.mem_append_right _ (List.mem_of_getElem? (i := 1006) (by decide +kernel))) rfl
theorem ml_X6_waiting : Cond.selects yX6_waiting.cls yX6_waiting yX6_waiting ∈ allw := aw (List.mem_append_right _ (List.mem_of_getElem? (i := 1007) (by decide +kernel))) rfl
theorem mm_X6_straps : lkM yX6_straps cX6_straps 3 (some .int) 2 := ⟨aw (List.mem_append_right _ (List.mem_of_getElem? (i := 7) (by decide +kernel))) rfl, aw (List.mem_append_right _ (List.mem_of_getElem? (i := 1012) (by decide +kernel))) rfl, ⟨by decide +kernel, by decide +kernel, by decide +kernel⟩, by decide⟩
theorem pl_X6_straps : plainName yX6_straps.cls = true := by decide +kernel
theorem mi_X6_straps : Cond.instanceMethod yX6_straps ∈ allw := aw (List.mem_append_right _ (List.mem_of_getElem? (i := 1010) (by decide +kernel))) rfl
theorem ml_X6_straps : Cond.selects yX6_straps.cls yX6_straps yX6_straps ∈ allw := aw (List.mem_append_right _ (List.mem_of_getElem? (i := 1011) (by decide +kernel))) rfl
theorem mm_X6_count : lkM yX6_count cX6_count 2 (some .int) 1 := ⟨aw (List.mem_append_right _ (List.mem_of_getElem? (i := 7) (by decide +kernel))) rfl, aw (List.mem_append_right _ (List.mem_of_getElem? (i := 1016) (by decide +kernel))) rfl, ⟨by decide +kernel, by decide +kernel, by decide +kernel⟩, by decide⟩
theorem pl_X6_count : plainName yX6_count.cls = true := by decide +kernel
theorem mi_X6_count : Cond.instanceMethod yX6_count ∈ allw := aw (List.mem_append_right _ (List.mem_of_getElem? (i := 1014) (by decide +kernel))) rfl
theorem ml_X6_count : Cond.selects yX6_count.cls yX6_count yX6_count ∈ allw := aw (List.mem_append_right _ (List.mem_of_getElem? (i := 1015) (by decide +kernel))) rfl
theorem mm_X6_jobsThat : lkM yX6_jobsThat cX6_jobsThat 5 (some .int) 1 := ⟨aw (List.mem_append_right _ (List.mem_of_getElem? (i := 7) (by decide +kernel))) rfl, aw (List.mem_append_right _ (List.mem_of_getElem? (i := 1020) (by decide +kernel))) rfl, ⟨by decide +kernel, by decide +kernel, by decide +kernel⟩, by decide⟩
theorem pl_X6_jobsThat : plainName yX6_jobsThat.cls = true := by decide +kernel
theorem mi_X6_jobsThat : Cond.instanceMethod yX6_jobsThat ∈ allw := aw (List.mem_append_right _ (List.mem_of_getElem? (i := 1019) (by decide +kernel))) rfl
theorem ml_X6_jobsThat : Cond.selects yX6_jobsThat.cls yX6_jobsThat yX6_jobsThat ∈ allw := aw (List.mem_append_left _ (List.mem_of_getElem? (i := 56) (by decide +kernel))) rfl
theorem mm_X6_why : lkM yX6_why cX6_why 4 (some .int) 3 := ⟨aw (List.mem_append_right _ (List.mem_of_getElem? (i := 7) (by decide +kernel))) rfl, aw (List.mem_append_right _ (List.mem_of_getElem? (i := 1024) (by decide +kernel))) rfl, ⟨by decide +kernel, by decide +kernel, by decide +kernel⟩, by decide⟩
theorem pl_X6_why : plainName yX6_why.cls = true := by decide +kernel
theorem mi_X6_why : Cond.instanceMethod yX6_why ∈ allw := aw (List.mem_append_right _ (List.mem_of_getElem? (i := 1022) (by decide +kernel))) rfl
theorem ml_X6_why : Cond.selects yX6_why.cls yX6_why yX6_why ∈ allw := aw (List.mem_append_right _ (List.mem_of_getElem? (i := 1023) (by decide +kernel))) rfl
theorem mm_X6_crew : lkM yX6_crew cX6_crew 3 (some .int) 2 := ⟨aw (List.mem_append_right _ (List.mem_of_getElem? (i := 7) (by decide +kernel))) rfl, aw (List.mem_append_right _ (List.mem_of_getElem? (i := 1028) (by decide +kernel))) rfl, ⟨by decide +kernel, by decide +kernel, by decide +kernel⟩, by decide⟩
theorem pl_X6_crew : plainName yX6_crew.cls = true := by decide +kernel
theorem mi_X6_crew : Cond.instanceMethod yX6_crew ∈ allw := aw (List.mem_append_right _ (List.mem_of_getElem? (i := 1026) (by decide +kernel))) rfl
theorem ml_X6_crew : Cond.selects yX6_crew.cls yX6_crew yX6_crew ∈ allw := aw (List.mem_append_right _ (List.mem_of_getElem? (i := 1027) (by decide +kernel))) rfl
theorem mm_X6_bestStraps : lkM yX6_bestStraps cX6_bestStraps 2 (some .int) 1 := ⟨aw (List.mem_append_right _ (List.mem_of_getElem? (i := 7) (by decide +kernel))) rfl, aw (List.mem_append_right _ (List.mem_of_getElem? (i := 1032) (by decide +kernel))) rfl, ⟨by decide +kernel, by decide +kernel, by decide +kernel⟩, by decide⟩
theorem pl_X6_bestStraps : plainName yX6_bestStraps.cls = true := by decide +kernel
theorem mi_X6_bestStraps : Cond.instanceMethod yX6_bestStraps ∈ allw := aw (List.mem_append_right _ (List.mem_of_getElem? (i := 1030) (by decide +kernel))) rfl
theorem ml_X6_bestStraps : Cond.selects yX6_bestStraps.cls yX6_bestStraps yX6_bestStraps ∈ allw := aw (List.mem_append_right _ (List.mem_of_getElem? (i := 1031) (by decide +kernel))) rfl
theorem mm_X6_doneIn : lkM yX6_doneIn cX6_doneIn 4 (some .int) 1 := ⟨aw (List.mem_append_right _ (List.mem_of_getElem? (i := 7) (by decide +kernel))) rfl, aw (List.mem_append_right _ (List.mem_of_getElem? (i := 1036) (by decide +kernel))) rfl, ⟨by decide +kernel, by decide +kernel, by decide +kernel⟩, by decide⟩
theorem pl_X6_doneIn : plainName yX6_doneIn.cls = true := by decide +kernel
theorem mi_X6_doneIn : Cond.instanceMethod yX6_doneIn ∈ allw := aw (List.mem_append_right _ (List.mem_of_getElem? (i := 1034) (by decide +kernel))) rfl
theorem ml_X6_doneIn : Cond.selects yX6_doneIn.cls yX6_doneIn yX6_doneIn ∈ allw := aw (List.mem_append_right _ (List.mem_of_getElem? (i := 1035) (by decide +kernel))) rfl
theorem mm_X6_putAside : lkM yX6_putAside cX6_putAside 2 none 0 := ⟨aw (List.mem_append_right _ (List.mem_of_getElem? (i := 7) (by decide +kernel))) rfl, aw (List.mem_append_right _ (List.mem_of_getElem? (i := 1040) (by decide +kernel))) rfl, ⟨by decide +kernel, by decide +kernel, by decide +kernel⟩, by decide⟩
theorem pl_X6_putAside : plainName yX6_putAside.cls = true := by decide +kernel
theorem mi_X6_putAside : Cond.instanceMethod yX6_putAside ∈ allw := aw (List.mem_append_right _ (List.mem_of_getElem? (i := 1039) (by decide +kernel))) rfl
theorem ml_X6_putAside : Cond.selects yX6_putAside.cls yX6_putAside yX6_putAside ∈ allw := aw (List.mem_append_left _ (List.mem_of_getElem? (i := 57) (by decide +kernel))) rfl
theorem mm_X6_takeBack : lkM yX6_takeBack cX6_takeBack 2 none 0 := ⟨aw (List.mem_append_right _ (List.mem_of_getElem? (i := 7) (by decide +kernel))) rfl, aw (List.mem_append_right _ (List.mem_of_getElem? (i := 1044) (by decide +kernel))) rfl, ⟨by decide +kernel, by decide +kernel, by decide +kernel⟩, by decide⟩
theorem pl_X6_takeBack : plainName yX6_takeBack.cls = true := by decide +kernel
theorem mi_X6_takeBack : Cond.instanceMethod yX6_takeBack ∈ allw := aw (List.mem_append_right _ (List.mem_of_getElem? (i := 1043) (by decide +kernel))) rfl
theorem ml_X6_takeBack : Cond.selects yX6_takeBack.cls yX6_takeBack yX6_takeBack ∈ allw := aw (List.mem_append_left _ (List.mem_of_getElem? (i := 58) (by decide +kernel))) rfl
theorem mm_X6_ifAssigned : lkM yX6_ifAssigned cX6_ifAssigned 2 (some .int) 0 := ⟨aw (List.mem_append_right _ (List.mem_of_getElem? (i := 7) (by decide +kernel))) rfl, aw (List.mem_append_right _ (List.mem_of_getElem? (i := 1048) (by decide +kernel))) rfl, ⟨by decide +kernel, by decide +kernel, by decide +kernel⟩, by decide⟩
theorem pl_X6_ifAssigned : plainName yX6_ifAssigned.cls = true := by decide +kernel
theorem mi_X6_ifAssigned : Cond.instanceMethod yX6_ifAssigned ∈ allw := aw (List.mem_append_right _ (List.mem_of_getElem? (i := 1046) (by decide +kernel))) rfl
theorem ml_X6_ifAssigned : Cond.selects yX6_ifAssigned.cls yX6_ifAssigned yX6_ifAssigned ∈ allw := aw (List.mem_append_right _ (List.mem_of_getElem? (i := 1047) (by decide +kernel))) rfl
theorem mm_X6_put : lkM yX6_put cX6_put 8 (some .int) 1 := ⟨aw (List.mem_append_right _ (List.mem_of_getElem? (i := 7) (by decide +kernel))) rfl, aw (List.mem_append_right _ (List.mem_of_getElem? (i := 1052) (by decide +kernel))) rfl, ⟨by decide +kernel, by decide +kernel, by decide +kernel⟩, by decide⟩
theorem pl_X6_put : plainName yX6_put.cls = true := by decide +kernel
theorem mi_X6_put : Cond.instanceMethod yX6_put ∈ allw := aw (List.mem_append_right _ (List.mem_of_getElem? (i := 1050) (by decide +kernel))) rfl
theorem ml_X6_put : Cond.selects yX6_put.cls yX6_put yX6_put ∈ allw := aw (List.mem_append_right _ (List.mem_of_getElem? (i := 1051) (by decide +kernel))) rfl
theorem mm_X6_wipe : lkM yX6_wipe cX6_wipe 2 (some .int) 0 := ⟨aw (List.mem_append_right _ (List.mem_of_getElem? (i := 7) (by decide +kernel))) rfl, aw (List.mem_append_right _ (List.mem_of_getElem? (i := 1057) (by decide +kernel))) rfl, ⟨by decide +kernel, by decide +kernel, by decide +kernel⟩, by decide⟩
theorem pl_X6_wipe : plainName yX6_wipe.cls = true := by decide +kernel
theorem mi_X6_wipe : Cond.instanceMethod yX6_wipe ∈ allw := aw (List.mem_append_right _ (List.mem_of_getElem? (i := 1055) (by decide +kernel))) rfl
theorem ml_X6_wipe : Cond.selects yX6_wipe.cls yX6_wipe yX6_wipe ∈ allw := aw (List.mem_append_right _ (List.mem_of_getElem? (i := 1056) (by decide +kernel))) rfl
theorem mm_X6_fault : lkM yX6_fault cX6_fault 1 (some .int) 0 := ⟨aw (List.mem_append_right _ (List.mem_of_getElem? (i := 7) (by decide +kernel))) rfl, aw (List.mem_append_right _ (List.mem_of_getElem? (i := 1061) (by decide +kernel))) rfl, ⟨by decide +kernel, by decide +kernel, by decide +kernel⟩, by decide⟩
theorem pl_X6_fault : plainName yX6_fault.cls = true := by decide +kernel
theorem mi_X6_fault : Cond.instanceMethod yX6_fault ∈ allw := aw (List.mem_append_right _ (List.mem_of_getElem? (i := 1059) (by decide +kernel))) rfl
theorem ml_X6_fault : Cond.selects yX6_fault.cls yX6_fault yX6_fault ∈ allw := aw (List.mem_append_right _ (List.mem_of_getElem? (i := 1060) (by decide +kernel))) rfl
theorem mm_X6_reads : lkM yX6_reads cX6_reads 1 (some .int) 0 := ⟨aw (List.mem_append_right _ (List.mem_of_getElem? (i := 7) (by decide +kernel))) rfl, aw (List.mem_append_right _ (List.mem_of_getElem? (i := 1065) (by decide +kernel))) rfl, ⟨by decide +kernel, by decide +kernel, by decide +kernel⟩, by decide⟩
theorem pl_X6_reads : plainName yX6_reads.cls = true := by decide +kernel
theorem mi_X6_reads : Cond.instanceMethod yX6_reads ∈ allw := aw (List.mem_append_right _ (List.mem_of_getElem? (i := 1064) (by decide +kernel))) rfl
theorem ml_X6_reads : Cond.selects yX6_reads.cls yX6_reads yX6_reads ∈ allw := aw (List.mem_append_left _ (List.mem_of_getElem? (i := 59) (by decide +kernel))) rfl
theorem mm_X6_readsOrder : lkM yX6_readsOrder cX6_readsOrder 3 none 0 := ⟨aw (List.mem_append_right _ (List.mem_of_getElem? (i := 7) (by decide +kernel))) rfl, aw (List.mem_append_right _ (List.mem_of_getElem? (i := 1069) (by decide +kernel))) rfl, ⟨by decide +kernel, by decide +kernel, by decide +kernel⟩, by decide⟩
theorem pl_X6_readsOrder : plainName yX6_readsOrder.cls = true := by decide +kernel
theorem mi_X6_readsOrder : Cond.instanceMethod yX6_readsOrder ∈ allw := aw (List.mem_append_right _ (List.mem_of_getElem? (i := 1068) (by decide +kernel))) rfl
theorem ml_X6_readsOrder : Cond.selects yX6_readsOrder.cls yX6_readsOrder yX6_readsOrder ∈ allw := aw (List.mem_append_left _ (List.mem_of_getElem? (i := 60) (by decide +kernel))) rfl
theorem mm_X6_letter : lkM yX6_letter cX6_letter 1 (some .int) 0 := ⟨aw (List.mem_append_right _ (List.mem_of_getElem? (i := 7) (by decide +kernel))) rfl, aw (List.mem_append_right _ (List.mem_of_getElem? (i := 1073) (by decide +kernel))) rfl, ⟨by decide +kernel, by decide +kernel, by decide +kernel⟩, by decide⟩
theorem pl_X6_letter : plainName yX6_letter.cls = true := by decide +kernel
theorem mi_X6_letter : Cond.instanceMethod yX6_letter ∈ allw := aw (List.mem_append_right _ (List.mem_of_getElem? (i := 1072) (by decide +kernel))) rfl
theorem ml_X6_letter : Cond.selects yX6_letter.cls yX6_letter yX6_letter ∈ allw := aw (List.mem_append_left _ (List.mem_of_getElem? (i := 61) (by decide +kernel))) rfl
theorem mm_X6_isOrder : lkM yX6_isOrder cX6_isOrder 1 (some .boolean) 1 := ⟨aw (List.mem_append_right _ (List.mem_of_getElem? (i := 7) (by decide +kernel))) rfl, aw (List.mem_append_right _ (List.mem_of_getElem? (i := 1076) (by decide +kernel))) rfl, ⟨by decide +kernel, by decide +kernel, by decide +kernel⟩, by decide⟩
theorem pl_X6_isOrder : plainName yX6_isOrder.cls = true := by decide +kernel
theorem ms_X6_isOrder : Cond.static yX6_isOrder ∈ allw := aw (List.mem_append_right _ (List.mem_of_getElem? (i := 1075) (by decide +kernel))) rfl
theorem mm_X6_number : lkM yX6_number cX6_number 2 (some .int) 0 := ⟨aw (List.mem_append_right _ (List.mem_of_getElem? (i := 7) (by decide +kernel))) rfl, aw (List.mem_append_right _ (List.mem_of_getElem? (i := 1080) (by decide +kernel))) rfl, ⟨by decide +kernel, by decide +kernel, by decide +kernel⟩, by decide⟩
theorem pl_X6_number : plainName yX6_number.cls = true := by decide +kernel
theorem mi_X6_number : Cond.instanceMethod yX6_number ∈ allw := aw (List.mem_append_right _ (List.mem_of_getElem? (i := 1079) (by decide +kernel))) rfl
theorem ml_X6_number : Cond.selects yX6_number.cls yX6_number yX6_number ∈ allw := aw (List.mem_append_left _ (List.mem_of_getElem? (i := 62) (by decide +kernel))) rfl
theorem mm_X6_digit : lkM yX6_digit cX6_digit 2 (some .int) 0 := ⟨aw (List.mem_append_right _ (List.mem_of_getElem? (i := 7) (by decide +kernel))) rfl, aw (List.mem_append_right _ (List.mem_of_getElem? (i := 1084) (by decide +kernel))) rfl, ⟨by decide +kernel, by decide +kernel, by decide +kernel⟩, by decide⟩
theorem pl_X6_digit : plainName yX6_digit.cls = true := by decide +kernel
theorem mi_X6_digit : Cond.instanceMethod yX6_digit ∈ allw := aw (List.mem_append_right _ (List.mem_of_getElem? (i := 1083) (by decide +kernel))) rfl
theorem ml_X6_digit : Cond.selects yX6_digit.cls yX6_digit yX6_digit ∈ allw := aw (List.mem_append_left _ (List.mem_of_getElem? (i := 63) (by decide +kernel))) rfl
theorem mm_X6_readsJob : lkM yX6_readsJob cX6_readsJob 3 none 1 := ⟨aw (List.mem_append_right _ (List.mem_of_getElem? (i := 7) (by decide +kernel))) rfl, aw (List.mem_append_right _ (List.mem_of_getElem? (i := 1088) (by decide +kernel))) rfl, ⟨by decide +kernel, by decide +kernel, by decide +kernel⟩, by decide⟩
theorem pl_X6_readsJob : plainName yX6_readsJob.cls = true := by decide +kernel
theorem mi_X6_readsJob : Cond.instanceMethod yX6_readsJob ∈ allw := aw (List.mem_append_right _ (List.mem_of_getElem? (i := 1087) (by decide +kernel))) rfl
theorem ml_X6_readsJob : Cond.selects yX6_readsJob.cls yX6_readsJob yX6_readsJob ∈ allw := aw (List.mem_append_left _ (List.mem_of_getElem? (i := 64) (by decide +kernel))) rfl
theorem mm_X6_wants : lkM yX6_wants cX6_wants 2 none 1 := ⟨aw (List.mem_append_right _ (List.mem_of_getElem? (i := 7) (by decide +kernel))) rfl, aw (List.mem_append_right _ (List.mem_of_getElem? (i := 1092) (by decide +kernel))) rfl, ⟨by decide +kernel, by decide +kernel, by decide +kernel⟩, by decide⟩
theorem pl_X6_wants : plainName yX6_wants.cls = true := by decide +kernel
theorem mi_X6_wants : Cond.instanceMethod yX6_wants ∈ allw := aw (List.mem_append_right _ (List.mem_of_getElem? (i := 1091) (by decide +kernel))) rfl
theorem ml_X6_wants : Cond.selects yX6_wants.cls yX6_wants yX6_wants ∈ allw := aw (List.mem_append_left _ (List.mem_of_getElem? (i := 65) (by decide +kernel))) rfl
theorem mm_X6_readsCrew : lkM yX6_readsCrew cX6_readsCrew 3 none 1 := ⟨aw (List.mem_append_right _ (List.mem_of_getElem? (i := 7) (by decide +kernel))) rfl, aw (List.mem_append_right _ (List.mem_of_getElem? (i := 1096) (by decide +kernel))) rfl, ⟨by decide +kernel, by decide +kernel, by decide +kernel⟩, by decide⟩
theorem pl_X6_readsCrew : plainName yX6_readsCrew.cls = true := by decide +kernel
theorem mi_X6_readsCrew : Cond.instanceMethod yX6_readsCrew ∈ allw := aw (List.mem_append_right _ (List.mem_of_getElem? (i := 1095) (by decide +kernel))) rfl
theorem ml_X6_readsCrew : Cond.selects yX6_readsCrew.cls yX6_readsCrew yX6_readsCrew ∈ allw := aw (List.mem_append_left _ (List.mem_of_getElem? (i := 66) (by decide +kernel))) rfl
theorem mm_X6_carryOut : lkM yX6_carryOut cX6_carryOut 2 (some .int) 0 := ⟨aw (List.mem_append_right _ (List.mem_of_getElem? (i := 7) (by decide +kernel))) rfl, aw (List.mem_append_right _ (List.mem_of_getElem? (i := 1100) (by decide +kernel))) rfl, ⟨by decide +kernel, by decide +kernel, by decide +kernel⟩, by decide⟩
theorem pl_X6_carryOut : plainName yX6_carryOut.cls = true := by decide +kernel
theorem mi_X6_carryOut : Cond.instanceMethod yX6_carryOut ∈ allw := aw (List.mem_append_right _ (List.mem_of_getElem? (i := 1098) (by decide +kernel))) rfl
theorem ml_X6_carryOut : Cond.selects yX6_carryOut.cls yX6_carryOut yX6_carryOut ∈ allw := aw (List.mem_append_right _ (List.mem_of_getElem? (i := 1099) (by decide +kernel))) rfl
theorem mm_X6_refuses : lkM yX6_refuses cX6_refuses 4 (some .int) 1 := ⟨aw (List.mem_append_right _ (List.mem_of_getElem? (i := 7) (by decide +kernel))) rfl, aw (List.mem_append_right _ (List.mem_of_getElem? (i := 1104) (by decide +kernel))) rfl, ⟨by decide +kernel, by decide +kernel, by decide +kernel⟩, by decide⟩
theorem pl_X6_refuses : plainName yX6_refuses.cls = true := by decide +kernel
theorem mi_X6_refuses : Cond.instanceMethod yX6_refuses ∈ allw := aw (List.mem_append_right _ (List.mem_of_getElem? (i := 1103) (by decide +kernel))) rfl
theorem ml_X6_refuses : Cond.selects yX6_refuses.cls yX6_refuses yX6_refuses ∈ allw := aw (List.mem_append_left _ (List.mem_of_getElem? (i := 67) (by decide +kernel))) rfl
theorem mm_X6_does : lkM yX6_does cX6_does 4 none 1 := ⟨aw (List.mem_append_right _ (List.mem_of_getElem? (i := 7) (by decide +kernel))) rfl, aw (List.mem_append_right _ (List.mem_of_getElem? (i := 1108) (by decide +kernel))) rfl, ⟨by decide +kernel, by decide +kernel, by decide +kernel⟩, by decide⟩
theorem pl_X6_does : plainName yX6_does.cls = true := by decide +kernel
theorem mi_X6_does : Cond.instanceMethod yX6_does ∈ allw := aw (List.mem_append_right _ (List.mem_of_getElem? (i := 1107) (by decide +kernel))) rfl
theorem ml_X6_does : Cond.selects yX6_does.cls yX6_does yX6_does ∈ allw := aw (List.mem_append_left _ (List.mem_of_getElem? (i := 68) (by decide +kernel))) rfl
theorem mm_X6_undo : lkM yX6_undo cX6_undo 2 (some .int) 0 := ⟨aw (List.mem_append_right _ (List.mem_of_getElem? (i := 7) (by decide +kernel))) rfl, aw (List.mem_append_right _ (List.mem_of_getElem? (i := 1112) (by decide +kernel))) rfl, ⟨by decide +kernel, by decide +kernel, by decide +kernel⟩, by decide⟩
theorem pl_X6_undo : plainName yX6_undo.cls = true := by decide +kernel
theorem mi_X6_undo : Cond.instanceMethod yX6_undo ∈ allw := aw (List.mem_append_right _ (List.mem_of_getElem? (i := 1110) (by decide +kernel))) rfl
theorem ml_X6_undo : Cond.selects yX6_undo.cls yX6_undo yX6_undo ∈ allw := aw (List.mem_append_right _ (List.mem_of_getElem? (i := 1111) (by decide +kernel))) rfl
theorem mm_X6_save : lkM yX6_save cX6_save 3 (some .int) 1 := ⟨aw (List.mem_append_right _ (List.mem_of_getElem? (i := 7) (by decide +kernel))) rfl, aw (List.mem_append_right _ (List.mem_of_getElem? (i := 1116) (by decide +kernel))) rfl, ⟨by decide +kernel, by decide +kernel, by decide +kernel⟩, by decide⟩
theorem pl_X6_save : plainName yX6_save.cls = true := by decide +kernel
theorem mi_X6_save : Cond.instanceMethod yX6_save ∈ allw := aw (List.mem_append_right _ (List.mem_of_getElem? (i := 1114) (by decide +kernel))) rfl
theorem ml_X6_save : Cond.selects yX6_save.cls yX6_save yX6_save ∈ allw := aw (List.mem_append_right _ (List.mem_of_getElem? (i := 1115) (by decide +kernel))) rfl
theorem mm_X6_restore : lkM yX6_restore cX6_restore 3 (some .int) 1 := ⟨aw (List.mem_append_right _ (List.mem_of_getElem? (i := 7) (by decide +kernel))) rfl, aw (List.mem_append_right _ (List.mem_of_getElem? (i := 1120) (by decide +kernel))) rfl, ⟨by decide +kernel, by decide +kernel, by decide +kernel⟩, by decide⟩
theorem pl_X6_restore : plainName yX6_restore.cls = true := by decide +kernel
theorem mi_X6_restore : Cond.instanceMethod yX6_restore ∈ allw := aw (List.mem_append_right _ (List.mem_of_getElem? (i := 1118) (by decide +kernel))) rfl
theorem ml_X6_restore : Cond.selects yX6_restore.cls yX6_restore yX6_restore ∈ allw := aw (List.mem_append_right _ (List.mem_of_getElem? (i := 1119) (by decide +kernel))) rfl
end
section
theorem mth_i : Cond.initialized "java/lang/Math" ∈ allw := aw (List.mem_append_right _ (List.mem_of_getElem? (i := 10) (by decide +kernel))) rfl
theorem mth_min_s : Cond.static Lib.Math.min.name ∈ allw := aw (List.mem_append_right _ (List.mem_of_getElem? (i := 440) (by decide +kernel))) rfl
theorem mth_min_c : Cond.code Lib.Math.min.name Lib.Math.min.code 2 (some .int) ∈ allw := aw (List.mem_append_right _ (List.mem_of_getElem? (i := 441) (by decide +kernel))) rfl
theorem mth_max_s : Cond.static Lib.Math.max.name ∈ allw := aw (List.mem_append_right _ (List.mem_of_getElem? (i := 451) (by decide +kernel))) rfl
theorem mth_max_c : Cond.code Lib.Math.max.name Lib.Math.max.code 2 (some .int) ∈ allw := aw (List.mem_append_right _ (List.mem_of_getElem? (i := 452) (by decide +kernel))) rfl
theorem oi_1 : Cond.instanceMethod objectInit ∈ allw := aw (by decide +kernel) rfl
theorem oi_2 : Cond.code objectInit ⟨#[0xb1]⟩ 1 none ∈ allw := aw (by decide +kernel) rfl
theorem ac_1 : Cond.native arraycopyName ∈ allw := aw (by decide +kernel) rfl
theorem ac_2 : Cond.static arraycopyName ∈ allw := aw (by decide +kernel) rfl
theorem ac_3 : Cond.initialized "java/lang/System" ∈ allw := aw (by decide +kernel) rfl
theorem na_i : Cond.arrayClass .int ∈ allw := aw (by decide +kernel) rfl
theorem na_z : Cond.arrayClass .boolean ∈ allw := aw (by decide +kernel) rfl
theorem nw_0 : Cond.instantiable (clC 0) (clN 0) ∈ allw := aw (by decide +kernel) rfl
theorem ni_0 : Cond.initialized (clC 0) ∈ allw := aw (by decide +kernel) rfl
theorem nw_1 : Cond.instantiable (clC 1) (clN 1) ∈ allw := aw (by decide +kernel) rfl
theorem ni_1 : Cond.initialized (clC 1) ∈ allw := aw (by decide +kernel) rfl
theorem nw_2 : Cond.instantiable (clC 2) (clN 2) ∈ allw := aw (by decide +kernel) rfl
theorem ni_2 : Cond.initialized (clC 2) ∈ allw := aw (by decide +kernel) rfl
theorem nw_3 : Cond.instantiable (clC 3) (clN 3) ∈ allw := aw (by decide +kernel) rfl
theorem ni_3 : Cond.initialized (clC 3) ∈ allw := aw (by decide +kernel) rfl
theorem nw_4 : Cond.instantiable (clC 4) (clN 4) ∈ allw := aw (by decide +kernel) rfl
theorem ni_4 : Cond.initialized (clC 4) ∈ allw := aw (by decide +kernel) rfl
theorem nw_5 : Cond.instantiable (clC 5) (clN 5) ∈ allw := aw (by decide +kernel) rfl
theorem ni_5 : Cond.initialized (clC 5) ∈ allw := aw (by decide +kernel) rfl
theorem nw_6 : Cond.instantiable (clC 6) (clN 6) ∈ allw := aw (by decide +kernel) rfl
theorem ni_6 : Cond.initialized (clC 6) ∈ allw := aw (by decide +kernel) rfl
theorem m_L_9 : lkI RL 9 yX5_init cX5_init 2 0 := ⟨mm_X5_init, aw (List.mem_append_right _ (List.mem_of_getElem? (i := 18) (by decide +kernel))) rfl, mi_X5_init, rfl⟩
theorem oi_X5_1 : Cond.methodLink RX5 1 objectInit ∈ allw := aw (by decide +kernel) rfl
theorem m_X5_9 : lkI RX5 9 yX0_init cX0_init 2 0 := ⟨mm_X0_init, aw (List.mem_append_right _ (List.mem_of_getElem? (i := 26) (by decide +kernel))) rfl, mi_X0_init, rfl⟩
theorem oi_X0_3 : Cond.methodLink RX0 3 objectInit ∈ allw := aw (by decide +kernel) rfl
theorem oi_X4_3 : Cond.methodLink RX4 3 objectInit ∈ allw := aw (by decide +kernel) rfl
theorem oi_X2_3 : Cond.methodLink RX2 3 objectInit ∈ allw := aw (by decide +kernel) rfl
theorem m_X5_29 : lkI RX5 29 yX1_init cX1_init 2 0 := ⟨mm_X1_init, aw (List.mem_append_right _ (List.mem_of_getElem? (i := 154) (by decide +kernel))) rfl, mi_X1_init, rfl⟩
theorem oi_X1_3 : Cond.methodLink RX1 3 objectInit ∈ allw := aw (by decide +kernel) rfl
theorem m_X1_17 : lkI RX1 17 yX0_init cX0_init 2 0 := ⟨mm_X0_init, aw (List.mem_append_right _ (List.mem_of_getElem? (i := 159) (by decide +kernel))) rfl, mi_X0_init, rfl⟩
theorem oi_X3_3 : Cond.methodLink RX3 3 objectInit ∈ allw := aw (by decide +kernel) rfl
theorem m_L_13 : lkV RL 13 yX5_set cX5_set 3 (some .int) 2 := ⟨mm_X5_set, aw (List.mem_append_right _ (List.mem_of_getElem? (i := 226) (by decide +kernel))) rfl, mi_X5_set, ml_X5_set⟩
theorem m_X5_41 : lkV RX5 41 yX1_note cX1_note 2 none 1 := ⟨mm_X1_note, aw (List.mem_append_right _ (List.mem_of_getElem? (i := 230) (by decide +kernel))) rfl, mi_X1_note, ml_X1_note⟩
theorem m_X1_25 : lkV RX1 25 yX0_copyFrom cX0_copyFrom 3 none 1 := ⟨mm_X0_copyFrom, aw (List.mem_append_right _ (List.mem_of_getElem? (i := 234) (by decide +kernel))) rfl, mi_X0_copyFrom, ml_X0_copyFrom⟩
theorem ac_X0_35 : Cond.methodLink RX0 35 arraycopyName ∈ allw := aw (by decide +kernel) rfl
theorem m_X0_57 : lkV RX0 57 yX4_copyFrom cX4_copyFrom 2 none 1 := ⟨mm_X4_copyFrom, aw (List.mem_append_right _ (List.mem_of_getElem? (i := 241) (by decide +kernel))) rfl, mi_X4_copyFrom, ml_X4_copyFrom⟩
theorem m_X0_61 : lkV RX0 61 yX2_copyFrom cX2_copyFrom 2 none 1 := ⟨mm_X2_copyFrom, aw (List.mem_append_right _ (List.mem_of_getElem? (i := 245) (by decide +kernel))) rfl, mi_X2_copyFrom, ml_X2_copyFrom⟩
theorem m_X5_45 : lkV RX5 45 yX0_changeSetting cX0_changeSetting 4 (some .int) 2 := ⟨mm_X0_changeSetting, aw (List.mem_append_right _ (List.mem_of_getElem? (i := 249) (by decide +kernel))) rfl, mi_X0_changeSetting, ml_X0_changeSetting⟩
theorem m_X5_49 : lkV RX5 49 yX1_keepUnlessError cX1_keepUnlessError 2 (some .int) 1 := ⟨mm_X1_keepUnlessError, aw (List.mem_append_right _ (List.mem_of_getElem? (i := 260) (by decide +kernel))) rfl, mi_X1_keepUnlessError, ml_X1_keepUnlessError⟩
theorem m_L_18 : lkV RL 18 yX5_person cX5_person 2 (some .int) 1 := ⟨mm_X5_person, aw (List.mem_append_right _ (List.mem_of_getElem? (i := 264) (by decide +kernel))) rfl, mi_X5_person, ml_X5_person⟩
theorem m_X5_53 : lkV RX5 53 yX0_addPerson cX0_addPerson 2 (some .int) 1 := ⟨mm_X0_addPerson, aw (List.mem_append_right _ (List.mem_of_getElem? (i := 268) (by decide +kernel))) rfl, mi_X0_addPerson, ml_X0_addPerson⟩
theorem m_X0_74 : lkV RX0 74 yX4_come cX4_come 2 none 1 := ⟨mm_X4_come, aw (List.mem_append_right _ (List.mem_of_getElem? (i := 272) (by decide +kernel))) rfl, mi_X4_come, ml_X4_come⟩
theorem m_L_23 : lkV RL 23 yX5_buy cX5_buy 2 (some .int) 1 := ⟨mm_X5_buy, aw (List.mem_append_right _ (List.mem_of_getElem? (i := 276) (by decide +kernel))) rfl, mi_X5_buy, ml_X5_buy⟩
theorem m_X5_56 : lkV RX5 56 yX0_addStraps cX0_addStraps 2 (some .int) 1 := ⟨mm_X0_addStraps, aw (List.mem_append_right _ (List.mem_of_getElem? (i := 280) (by decide +kernel))) rfl, mi_X0_addStraps, ml_X0_addStraps⟩
theorem m_L_27 : lkV RL 27 yX5_job cX5_job 6 (some .int) 5 := ⟨mm_X5_job, aw (List.mem_append_right _ (List.mem_of_getElem? (i := 287) (by decide +kernel))) rfl, mi_X5_job, ml_X5_job⟩
theorem m_X5_59 : lkV RX5 59 yX0_addJob cX0_addJob 6 (some .int) 5 := ⟨mm_X0_addJob, aw (List.mem_append_right _ (List.mem_of_getElem? (i := 291) (by decide +kernel))) rfl, mi_X0_addJob, ml_X0_addJob⟩
theorem m_X0_82 : lkV RX0 82 yX2_come cX2_come 6 none 5 := ⟨mm_X2_come, aw (List.mem_append_right _ (List.mem_of_getElem? (i := 295) (by decide +kernel))) rfl, mi_X2_come, ml_X2_come⟩
theorem m_L_32 : lkV RL 32 yX5_begin cX5_begin 4 (some .int) 3 := ⟨mm_X5_begin, aw (List.mem_append_right _ (List.mem_of_getElem? (i := 299) (by decide +kernel))) rfl, mi_X5_begin, ml_X5_begin⟩
theorem m_X5_63 : lkV RX5 63 yX0_beginJob cX0_beginJob 6 (some .int) 3 := ⟨mm_X0_beginJob, aw (List.mem_append_right _ (List.mem_of_getElem? (i := 303) (by decide +kernel))) rfl, mi_X0_beginJob, ml_X0_beginJob⟩
theorem m_X0_150 : lkV RX0 150 yX0_whyNot cX0_whyNot 4 (some .int) 3 := ⟨mm_X0_whyNot, aw (List.mem_append_right _ (List.mem_of_getElem? (i := 307) (by decide +kernel))) rfl, mi_X0_whyNot, ml_X0_whyNot⟩
theorem m_X0_114 : lkV RX0 114 yX0_hasJob cX0_hasJob 2 (some .boolean) 1 := ⟨mm_X0_hasJob, aw (List.mem_append_right _ (List.mem_of_getElem? (i := 311) (by decide +kernel))) rfl, mi_X0_hasJob, ml_X0_hasJob⟩
theorem m_X5_111 : lkS RX5 111 yX5_isKind cX5_isKind 1 (some .boolean) 1 := ⟨mm_X5_isKind, aw (List.mem_append_right _ (List.mem_of_getElem? (i := 318) (by decide +kernel))) rfl, ms_X5_isKind⟩
theorem m_X0_123 : lkV RX0 123 yX0_isCrew cX0_isCrew 3 (some .boolean) 1 := ⟨mm_X0_isCrew, aw (List.mem_append_right _ (List.mem_of_getElem? (i := 319) (by decide +kernel))) rfl, mi_X0_isCrew, ml_X0_isCrew⟩
theorem m_X0_108 : lkS RX0 108 yJ6_bitCount_0f7a4 cJ6_bitCount_0f7a4 1 (some .int) 1 := ⟨mm_J6_bitCount_0f7a4, aw (List.mem_append_right _ (List.mem_of_getElem? (i := 323) (by decide +kernel))) rfl, ms_J6_bitCount_0f7a4⟩
theorem m_X0_126 : lkV RX0 126 yX0_busyPeople cX0_busyPeople 3 (some .int) 0 := ⟨mm_X0_busyPeople, aw (List.mem_append_right _ (List.mem_of_getElem? (i := 329) (by decide +kernel))) rfl, mi_X0_busyPeople, ml_X0_busyPeople⟩
theorem m_X0_130 : lkV RX0 130 yX0_canHaveStraps cX0_canHaveStraps 3 (some .boolean) 2 := ⟨mm_X0_canHaveStraps, aw (List.mem_append_right _ (List.mem_of_getElem? (i := 333) (by decide +kernel))) rfl, mi_X0_canHaveStraps, ml_X0_canHaveStraps⟩
theorem m_X0_134 : lkV RX0 134 yX0_strengthOf cX0_strengthOf 4 (some .int) 1 := ⟨mm_X0_strengthOf, aw (List.mem_append_right _ (List.mem_of_getElem? (i := 337) (by decide +kernel))) rfl, mi_X0_strengthOf, ml_X0_strengthOf⟩
theorem m_X0_137 : lkV RX0 137 yX0_loadWith cX0_loadWith 4 (some .int) 2 := ⟨mm_X0_loadWith, aw (List.mem_append_right _ (List.mem_of_getElem? (i := 344) (by decide +kernel))) rfl, mi_X0_loadWith, ml_X0_loadWith⟩
theorem m_X0_94 : lkV RX0 94 yX0_loadNow cX0_loadNow 2 (some .int) 1 := ⟨mm_X0_loadNow, aw (List.mem_append_right _ (List.mem_of_getElem? (i := 350) (by decide +kernel))) rfl, mi_X0_loadNow, ml_X0_loadNow⟩
theorem m_X0_163 : lkV RX0 163 yX0_placeCrew cX0_placeCrew 4 none 2 := ⟨mm_X0_placeCrew, aw (List.mem_append_right _ (List.mem_of_getElem? (i := 354) (by decide +kernel))) rfl, mi_X0_placeCrew, ml_X0_placeCrew⟩
theorem m_L_37 : lkV RL 37 yX5_assign cX5_assign 1 (some .int) 0 := ⟨mm_X5_assign, aw (List.mem_append_right _ (List.mem_of_getElem? (i := 358) (by decide +kernel))) rfl, mi_X5_assign, ml_X5_assign⟩
theorem m_X5_67 : lkV RX5 67 yX0_assignJobs cX0_assignJobs 6 (some .int) 0 := ⟨mm_X0_assignJobs, aw (List.mem_append_right _ (List.mem_of_getElem? (i := 362) (by decide +kernel))) rfl, mi_X0_assignJobs, ml_X0_assignJobs⟩
theorem m_X0_167 : lkV RX0 167 yX0_nextWaiting cX0_nextWaiting 5 (some .int) 1 := ⟨mm_X0_nextWaiting, aw (List.mem_append_right _ (List.mem_of_getElem? (i := 366) (by decide +kernel))) rfl, mi_X0_nextWaiting, ml_X0_nextWaiting⟩
theorem m_X0_180 : lkV RX0 180 yX0_isAhead cX0_isAhead 3 (some .boolean) 2 := ⟨mm_X0_isAhead, aw (List.mem_append_right _ (List.mem_of_getElem? (i := 370) (by decide +kernel))) rfl, mi_X0_isAhead, ml_X0_isAhead⟩
theorem m_X0_176 : lkV RX0 176 yX2_isAheadOfLater cX2_isAheadOfLater 2 (some .boolean) 1 := ⟨mm_X2_isAheadOfLater, aw (List.mem_append_right _ (List.mem_of_getElem? (i := 374) (by decide +kernel))) rfl, mi_X2_isAheadOfLater, ml_X2_isAheadOfLater⟩
theorem m_X0_170 : lkV RX0 170 yX0_fewestPeopleStraps cX0_fewestPeopleStraps 6 (some .int) 1 := ⟨mm_X0_fewestPeopleStraps, aw (List.mem_append_right _ (List.mem_of_getElem? (i := 378) (by decide +kernel))) rfl, mi_X0_fewestPeopleStraps, ml_X0_fewestPeopleStraps⟩
theorem m_X0_147 : lkV RX0 147 yX0_crewByItself cX0_crewByItself 9 (some .int) 2 := ⟨mm_X0_crewByItself, aw (List.mem_append_right _ (List.mem_of_getElem? (i := 382) (by decide +kernel))) rfl, mi_X0_crewByItself, ml_X0_crewByItself⟩
theorem m_X0_141 : lkV RX0 141 yX0_strongestOutside cX0_strongestOutside 5 (some .int) 1 := ⟨mm_X0_strongestOutside, aw (List.mem_append_right _ (List.mem_of_getElem? (i := 386) (by decide +kernel))) rfl, mi_X0_strongestOutside, ml_X0_strongestOutside⟩
theorem m_X0_144 : lkV RX0 144 yX0_hasPerson cX0_hasPerson 2 (some .boolean) 1 := ⟨mm_X0_hasPerson, aw (List.mem_append_right _ (List.mem_of_getElem? (i := 390) (by decide +kernel))) rfl, mi_X0_hasPerson, ml_X0_hasPerson⟩
theorem m_X0_173 : lkV RX0 173 yX0_beginJob cX0_beginJob 6 (some .int) 3 := ⟨mm_X0_beginJob, aw (List.mem_append_right _ (List.mem_of_getElem? (i := 394) (by decide +kernel))) rfl, mi_X0_beginJob, ml_X0_beginJob⟩
theorem m_L_42 : lkV RL 42 yX5_delay cX5_delay 3 (some .int) 2 := ⟨mm_X5_delay, aw (List.mem_append_right _ (List.mem_of_getElem? (i := 395) (by decide +kernel))) rfl, mi_X5_delay, ml_X5_delay⟩
theorem m_X5_71 : lkV RX5 71 yX0_delayJob cX0_delayJob 3 (some .int) 2 := ⟨mm_X0_delayJob, aw (List.mem_append_right _ (List.mem_of_getElem? (i := 399) (by decide +kernel))) rfl, mi_X0_delayJob, ml_X0_delayJob⟩
theorem m_L_46 : lkV RL 46 yX5_callOff cX5_callOff 2 (some .int) 1 := ⟨mm_X5_callOff, aw (List.mem_append_right _ (List.mem_of_getElem? (i := 403) (by decide +kernel))) rfl, mi_X5_callOff, ml_X5_callOff⟩
theorem m_X5_74 : lkV RX5 74 yX0_callOffJob cX0_callOffJob 3 (some .int) 1 := ⟨mm_X0_callOffJob, aw (List.mem_append_right _ (List.mem_of_getElem? (i := 407) (by decide +kernel))) rfl, mi_X0_callOffJob, ml_X0_callOffJob⟩
theorem m_X0_186 : lkV RX0 186 yX0_endJob cX0_endJob 3 none 2 := ⟨mm_X0_endJob, aw (List.mem_append_right _ (List.mem_of_getElem? (i := 411) (by decide +kernel))) rfl, mi_X0_endJob, ml_X0_endJob⟩
theorem m_L_50 : lkV RL 50 yX5_pass cX5_pass 2 (some .int) 1 := ⟨mm_X5_pass, aw (List.mem_append_right _ (List.mem_of_getElem? (i := 415) (by decide +kernel))) rfl, mi_X5_pass, ml_X5_pass⟩
theorem m_X5_77 : lkV RX5 77 yX0_passHours cX0_passHours 4 (some .int) 1 := ⟨mm_X0_passHours, aw (List.mem_append_right _ (List.mem_of_getElem? (i := 419) (by decide +kernel))) rfl, mi_X0_passHours, ml_X0_passHours⟩
theorem m_X0_190 : lkV RX0 190 yX0_passOneHour cX0_passOneHour 4 (some .int) 0 := ⟨mm_X0_passOneHour, aw (List.mem_append_right _ (List.mem_of_getElem? (i := 423) (by decide +kernel))) rfl, mi_X0_passOneHour, ml_X0_passOneHour⟩
theorem m_X0_193 : lkV RX0 193 yX0_workOneHour cX0_workOneHour 3 (some .boolean) 1 := ⟨mm_X0_workOneHour, aw (List.mem_append_right _ (List.mem_of_getElem? (i := 427) (by decide +kernel))) rfl, mi_X0_workOneHour, ml_X0_workOneHour⟩
theorem m_X0_196 : lkV RX0 196 yX0_restPeople cX0_restPeople 3 none 1 := ⟨mm_X0_restPeople, aw (List.mem_append_right _ (List.mem_of_getElem? (i := 431) (by decide +kernel))) rfl, mi_X0_restPeople, ml_X0_restPeople⟩
theorem m_X0_210 : lkV RX0 210 yX4_rest cX4_rest 2 none 1 := ⟨mm_X4_rest, aw (List.mem_append_right _ (List.mem_of_getElem? (i := 435) (by decide +kernel))) rfl, mi_X4_rest, ml_X4_rest⟩
theorem mth_X4_27 : Cond.methodLink RX4 27 Lib.Math.min.name ∈ allw := aw (List.mem_append_right _ (List.mem_of_getElem? (i := 439) (by decide +kernel))) rfl
theorem m_X0_203 : lkV RX0 203 yX0_carryHour cX0_carryHour 4 none 2 := ⟨mm_X0_carryHour, aw (List.mem_append_right _ (List.mem_of_getElem? (i := 442) (by decide +kernel))) rfl, mi_X0_carryHour, ml_X0_carryHour⟩
theorem m_X0_213 : lkV RX0 213 yX4_carry cX4_carry 2 none 1 := ⟨mm_X4_carry, aw (List.mem_append_right _ (List.mem_of_getElem? (i := 446) (by decide +kernel))) rfl, mi_X4_carry, ml_X4_carry⟩
theorem mth_X4_33 : Cond.methodLink RX4 33 Lib.Math.max.name ∈ allw := aw (List.mem_append_right _ (List.mem_of_getElem? (i := 450) (by decide +kernel))) rfl
theorem m_L_54 : lkV RL 54 yX5_of cX5_of 3 (some .int) 2 := ⟨mm_X5_of, aw (List.mem_append_right _ (List.mem_of_getElem? (i := 453) (by decide +kernel))) rfl, mi_X5_of, ml_X5_of⟩
theorem m_X5_80 : lkV RX5 80 yX0_hasPerson cX0_hasPerson 2 (some .boolean) 1 := ⟨mm_X0_hasPerson, aw (List.mem_append_right _ (List.mem_of_getElem? (i := 457) (by decide +kernel))) rfl, mi_X0_hasPerson, ml_X0_hasPerson⟩
theorem m_X5_92 : lkV RX5 92 yX4_tell cX4_tell 3 (some .int) 2 := ⟨mm_X4_tell, aw (List.mem_append_right _ (List.mem_of_getElem? (i := 458) (by decide +kernel))) rfl, mi_X4_tell, ml_X4_tell⟩
theorem m_X4_36 : lkV RX4 36 yX4_hoursOfRest cX4_hoursOfRest 3 (some .int) 1 := ⟨mm_X4_hoursOfRest, aw (List.mem_append_right _ (List.mem_of_getElem? (i := 462) (by decide +kernel))) rfl, mi_X4_hoursOfRest, ml_X4_hoursOfRest⟩
theorem m_L_58 : lkV RL 58 yX5_ofJob cX5_ofJob 3 (some .int) 2 := ⟨mm_X5_ofJob, aw (List.mem_append_right _ (List.mem_of_getElem? (i := 466) (by decide +kernel))) rfl, mi_X5_ofJob, ml_X5_ofJob⟩
theorem m_X5_97 : lkV RX5 97 yX0_hasJob cX0_hasJob 2 (some .boolean) 1 := ⟨mm_X0_hasJob, aw (List.mem_append_right _ (List.mem_of_getElem? (i := 470) (by decide +kernel))) rfl, mi_X0_hasJob, ml_X0_hasJob⟩
theorem m_X5_104 : lkV RX5 104 yX0_tellOfJob cX0_tellOfJob 3 (some .int) 2 := ⟨mm_X0_tellOfJob, aw (List.mem_append_right _ (List.mem_of_getElem? (i := 471) (by decide +kernel))) rfl, mi_X0_tellOfJob, ml_X0_tellOfJob⟩
theorem m_X0_225 : lkV RX0 225 yX2_wasBegun cX2_wasBegun 1 (some .boolean) 0 := ⟨mm_X2_wasBegun, aw (List.mem_append_right _ (List.mem_of_getElem? (i := 475) (by decide +kernel))) rfl, mi_X2_wasBegun, ml_X2_wasBegun⟩
theorem m_X0_229 : lkV RX0 229 yX2_isLate cX2_isLate 2 (some .boolean) 1 := ⟨mm_X2_isLate, aw (List.mem_append_right _ (List.mem_of_getElem? (i := 479) (by decide +kernel))) rfl, mi_X2_isLate, ml_X2_isLate⟩
theorem m_L_62 : lkV RL 62 yX5_waiting cX5_waiting 2 (some .int) 1 := ⟨mm_X5_waiting, aw (List.mem_append_right _ (List.mem_of_getElem? (i := 483) (by decide +kernel))) rfl, mi_X5_waiting, ml_X5_waiting⟩
theorem m_X5_108 : lkV RX5 108 yX0_waitingAt cX0_waitingAt 4 (some .int) 1 := ⟨mm_X0_waitingAt, aw (List.mem_append_right _ (List.mem_of_getElem? (i := 487) (by decide +kernel))) rfl, mi_X0_waitingAt, ml_X0_waitingAt⟩
theorem m_L_66 : lkV RL 66 yX5_straps cX5_straps 3 (some .int) 2 := ⟨mm_X5_straps, aw (List.mem_append_right _ (List.mem_of_getElem? (i := 491) (by decide +kernel))) rfl, mi_X5_straps, ml_X5_straps⟩
theorem m_L_70 : lkV RL 70 yX5_count cX5_count 2 (some .int) 1 := ⟨mm_X5_count, aw (List.mem_append_right _ (List.mem_of_getElem? (i := 495) (by decide +kernel))) rfl, mi_X5_count, ml_X5_count⟩
theorem m_X5_127 : lkV RX5 127 yX0_tellCount cX0_tellCount 2 (some .int) 1 := ⟨mm_X0_tellCount, aw (List.mem_append_right _ (List.mem_of_getElem? (i := 499) (by decide +kernel))) rfl, mi_X0_tellCount, ml_X0_tellCount⟩
theorem m_X0_232 : lkV RX0 232 yX0_jobsInState cX0_jobsInState 4 (some .int) 1 := ⟨mm_X0_jobsInState, aw (List.mem_append_right _ (List.mem_of_getElem? (i := 503) (by decide +kernel))) rfl, mi_X0_jobsInState, ml_X0_jobsInState⟩
theorem m_X0_235 : lkV RX0 235 yX0_lateJobs cX0_lateJobs 3 (some .int) 0 := ⟨mm_X0_lateJobs, aw (List.mem_append_right _ (List.mem_of_getElem? (i := 507) (by decide +kernel))) rfl, mi_X0_lateJobs, ml_X0_lateJobs⟩
theorem m_L_74 : lkV RL 74 yX5_why cX5_why 4 (some .int) 3 := ⟨mm_X5_why, aw (List.mem_append_right _ (List.mem_of_getElem? (i := 511) (by decide +kernel))) rfl, mi_X5_why, ml_X5_why⟩
theorem m_X5_130 : lkV RX5 130 yX0_whyNot cX0_whyNot 4 (some .int) 3 := ⟨mm_X0_whyNot, aw (List.mem_append_right _ (List.mem_of_getElem? (i := 515) (by decide +kernel))) rfl, mi_X0_whyNot, ml_X0_whyNot⟩
theorem m_L_78 : lkV RL 78 yX5_crew cX5_crew 3 (some .int) 2 := ⟨mm_X5_crew, aw (List.mem_append_right _ (List.mem_of_getElem? (i := 516) (by decide +kernel))) rfl, mi_X5_crew, ml_X5_crew⟩
theorem m_X5_133 : lkS RX5 133 yX5_isKindOrNone cX5_isKindOrNone 1 (some .boolean) 1 := ⟨mm_X5_isKindOrNone, aw (List.mem_append_right _ (List.mem_of_getElem? (i := 520) (by decide +kernel))) rfl, ms_X5_isKindOrNone⟩
theorem m_X5_141 : lkV RX5 141 yX0_crewByItself cX0_crewByItself 9 (some .int) 2 := ⟨mm_X0_crewByItself, aw (List.mem_append_right _ (List.mem_of_getElem? (i := 521) (by decide +kernel))) rfl, mi_X0_crewByItself, ml_X0_crewByItself⟩
theorem m_L_82 : lkV RL 82 yX5_bestStraps cX5_bestStraps 2 (some .int) 1 := ⟨mm_X5_bestStraps, aw (List.mem_append_right _ (List.mem_of_getElem? (i := 522) (by decide +kernel))) rfl, mi_X5_bestStraps, ml_X5_bestStraps⟩
theorem m_X5_144 : lkV RX5 144 yX0_fewestPeopleStraps cX0_fewestPeopleStraps 6 (some .int) 1 := ⟨mm_X0_fewestPeopleStraps, aw (List.mem_append_right _ (List.mem_of_getElem? (i := 526) (by decide +kernel))) rfl, mi_X0_fewestPeopleStraps, ml_X0_fewestPeopleStraps⟩
theorem m_L_86 : lkV RL 86 yX5_doneIn cX5_doneIn 3 (some .int) 1 := ⟨mm_X5_doneIn, aw (List.mem_append_right _ (List.mem_of_getElem? (i := 527) (by decide +kernel))) rfl, mi_X5_doneIn, ml_X5_doneIn⟩
theorem m_X5_148 : lkV RX5 148 yX0_copyFrom cX0_copyFrom 3 none 1 := ⟨mm_X0_copyFrom, aw (List.mem_append_right _ (List.mem_of_getElem? (i := 531) (by decide +kernel))) rfl, mi_X0_copyFrom, ml_X0_copyFrom⟩
theorem m_X5_151 : lkV RX5 151 yX0_workOneHour cX0_workOneHour 3 (some .boolean) 1 := ⟨mm_X0_workOneHour, aw (List.mem_append_right _ (List.mem_of_getElem? (i := 532) (by decide +kernel))) rfl, mi_X0_workOneHour, ml_X0_workOneHour⟩
theorem m_L_90 : lkV RL 90 yX5_ifAssigned cX5_ifAssigned 1 (some .int) 0 := ⟨mm_X5_ifAssigned, aw (List.mem_append_right _ (List.mem_of_getElem? (i := 533) (by decide +kernel))) rfl, mi_X5_ifAssigned, ml_X5_ifAssigned⟩
theorem m_L_96 : lkV RL 96 yX5_put cX5_put 3 (some .int) 1 := ⟨mm_X5_put, aw (List.mem_append_right _ (List.mem_of_getElem? (i := 537) (by decide +kernel))) rfl, mi_X5_put, ml_X5_put⟩
theorem m_X5_155 : lkV RX5 155 yX3_append cX3_append 5 (some .int) 1 := ⟨mm_X3_append, aw (List.mem_append_right _ (List.mem_of_getElem? (i := 541) (by decide +kernel))) rfl, mi_X3_append, ml_X3_append⟩
theorem m_X3_18 : lkS RX3 18 yX3_signsIn cX3_signsIn 4 (some .int) 1 := ⟨mm_X3_signsIn, aw (List.mem_append_right _ (List.mem_of_getElem? (i := 545) (by decide +kernel))) rfl, ms_X3_signsIn⟩
theorem m_X3_26 : lkS RX3 26 yX3_signOf cX3_signOf 3 (some .int) 2 := ⟨mm_X3_signOf, aw (List.mem_append_right _ (List.mem_of_getElem? (i := 548) (by decide +kernel))) rfl, ms_X3_signOf⟩
theorem m_L_101 : lkV RL 101 yX5_wipe cX5_wipe 1 (some .int) 0 := ⟨mm_X5_wipe, aw (List.mem_append_right _ (List.mem_of_getElem? (i := 552) (by decide +kernel))) rfl, mi_X5_wipe, ml_X5_wipe⟩
theorem m_X5_159 : lkV RX5 159 yX3_empty cX3_empty 2 (some .int) 0 := ⟨mm_X3_empty, aw (List.mem_append_right _ (List.mem_of_getElem? (i := 556) (by decide +kernel))) rfl, mi_X3_empty, ml_X3_empty⟩
theorem m_L_105 : lkV RL 105 yX5_fault cX5_fault 1 (some .int) 0 := ⟨mm_X5_fault, aw (List.mem_append_right _ (List.mem_of_getElem? (i := 560) (by decide +kernel))) rfl, mi_X5_fault, ml_X5_fault⟩
theorem m_X5_162 : lkV RX5 162 yX3_findFault cX3_findFault 2 (some .int) 0 := ⟨mm_X3_findFault, aw (List.mem_append_right _ (List.mem_of_getElem? (i := 564) (by decide +kernel))) rfl, mi_X3_findFault, ml_X3_findFault⟩
theorem m_X3_40 : lkV RX3 40 yX3_startReading cX3_startReading 1 none 0 := ⟨mm_X3_startReading, aw (List.mem_append_right _ (List.mem_of_getElem? (i := 568) (by decide +kernel))) rfl, mi_X3_startReading, ml_X3_startReading⟩
theorem m_X3_43 : lkV RX3 43 yX3_readOrder cX3_readOrder 1 (some .boolean) 0 := ⟨mm_X3_readOrder, aw (List.mem_append_right _ (List.mem_of_getElem? (i := 572) (by decide +kernel))) rfl, mi_X3_readOrder, ml_X3_readOrder⟩
theorem m_X3_57 : lkV RX3 57 yX3_signHere cX3_signHere 1 (some .int) 0 := ⟨mm_X3_signHere, aw (List.mem_append_right _ (List.mem_of_getElem? (i := 576) (by decide +kernel))) rfl, mi_X3_signHere, ml_X3_signHere⟩
theorem m_X3_66 : lkV RX3 66 yJ0_indexOf_0f7a4 cJ0_indexOf_0f7a4 2 (some .int) 1 := ⟨mm_J0_indexOf_0f7a4, aw (List.mem_append_right _ (List.mem_of_getElem? (i := 581) (by decide +kernel))) rfl, mi_J0_indexOf_0f7a4, ml_J0_indexOf_0f7a4⟩
theorem m_J0_633 : lkV RJ0 633 yJ0_indexOf_7cf53 cJ0_indexOf_7cf53 3 (some .int) 2 := ⟨mm_J0_indexOf_7cf53, aw (List.mem_append_right _ (List.mem_of_getElem? (i := 585) (by decide +kernel))) rfl, mi_J0_indexOf_7cf53, ml_J0_indexOf_7cf53⟩
theorem m_J0_492 : lkV RJ0 492 yJ0_isLatin1_aae02 cJ0_isLatin1_aae02 1 (some .boolean) 0 := ⟨mm_J0_isLatin1_aae02, aw (List.mem_append_right _ (List.mem_of_getElem? (i := 589) (by decide +kernel))) rfl, mi_J0_isLatin1_aae02, ml_J0_isLatin1_aae02⟩
theorem m_J0_505 : lkV RJ0 505 yJ0_length_8abf5 cJ0_length_8abf5 1 (some .int) 0 := ⟨mm_J0_length_8abf5, aw (List.mem_append_right _ (List.mem_of_getElem? (i := 595) (by decide +kernel))) rfl, mi_J0_length_8abf5, ml_J0_length_8abf5⟩
theorem m_J0_335 : lkV RJ0 335 yJ0_coder_7d493 cJ0_coder_7d493 1 (some .byte) 0 := ⟨mm_J0_coder_7d493, aw (List.mem_append_right _ (List.mem_of_getElem? (i := 599) (by decide +kernel))) rfl, mi_J0_coder_7d493, ml_J0_coder_7d493⟩
theorem m_J0_637 : lkS RJ0 637 yJ1_indexOf_4cfef cJ1_indexOf_4cfef 4 (some .int) 4 := ⟨mm_J1_indexOf_4cfef, aw (List.mem_append_right _ (List.mem_of_getElem? (i := 603) (by decide +kernel))) rfl, ms_J1_indexOf_4cfef⟩
theorem m_J1_88 : lkS RJ1 88 yJ1_canEncode_9a6ad cJ1_canEncode_9a6ad 1 (some .boolean) 1 := ⟨mm_J1_canEncode_9a6ad, aw (List.mem_append_right _ (List.mem_of_getElem? (i := 606) (by decide +kernel))) rfl, ms_J1_canEncode_9a6ad⟩
theorem mth_J1_92 : Cond.methodLink RJ1 92 Lib.Math.max.name ∈ allw := aw (List.mem_append_right _ (List.mem_of_getElem? (i := 609) (by decide +kernel))) rfl
theorem mth_J1_38 : Cond.methodLink RJ1 38 Lib.Math.min.name ∈ allw := aw (List.mem_append_right _ (List.mem_of_getElem? (i := 610) (by decide +kernel))) rfl
theorem m_J1_95 : lkS RJ1 95 yJ1_indexOfChar_4cfef cJ1_indexOfChar_4cfef 6 (some .int) 4 := ⟨mm_J1_indexOfChar_4cfef, aw (List.mem_append_right _ (List.mem_of_getElem? (i := 611) (by decide +kernel))) rfl, ms_J1_indexOfChar_4cfef⟩
theorem m_X3_72 : lkS RX3 72 yX3_formOf cX3_formOf 1 (some (.object "java/lang/String")) 1 := ⟨mm_X3_formOf, aw (List.mem_append_right _ (List.mem_of_getElem? (i := 663) (by decide +kernel))) rfl, ms_X3_formOf⟩
theorem m_X3_76 : lkV RX3 76 yX3_readForm cX3_readForm 5 (some .boolean) 1 := ⟨mm_X3_readForm, aw (List.mem_append_right _ (List.mem_of_getElem? (i := 671) (by decide +kernel))) rfl, mi_X3_readForm, ml_X3_readForm⟩
theorem m_X3_93 : lkV RX3 93 yJ0_length_8abf5 cJ0_length_8abf5 1 (some .int) 0 := ⟨mm_J0_length_8abf5, aw (List.mem_append_right _ (List.mem_of_getElem? (i := 675) (by decide +kernel))) rfl, mi_J0_length_8abf5, ml_J0_length_8abf5⟩
theorem m_X3_95 : lkV RX3 95 yJ0_charAt_5068e cJ0_charAt_5068e 2 (some .char) 1 := ⟨mm_J0_charAt_5068e, aw (List.mem_append_right _ (List.mem_of_getElem? (i := 676) (by decide +kernel))) rfl, mi_J0_charAt_5068e, ml_J0_charAt_5068e⟩
theorem m_J0_495 : lkS RJ0 495 yJ1_charAt_3b067 cJ1_charAt_3b067 2 (some .char) 2 := ⟨mm_J1_charAt_3b067, aw (List.mem_append_right _ (List.mem_of_getElem? (i := 680) (by decide +kernel))) rfl, ms_J1_charAt_3b067⟩
theorem m_J1_9 : lkS RJ1 9 yJ0_checkIndex_df160 cJ0_checkIndex_df160 2 none 2 := ⟨mm_J0_checkIndex_df160, aw (List.mem_append_right _ (List.mem_of_getElem? (i := 683) (by decide +kernel))) rfl, ms_J0_checkIndex_df160⟩
theorem m_J0_1059 : lkS RJ0 1059 yJ3_checkIndex_8e157 cJ3_checkIndex_8e157 3 (some .int) 3 := ⟨mm_J3_checkIndex_8e157, aw (List.mem_append_right _ (List.mem_of_getElem? (i := 686) (by decide +kernel))) rfl, ms_J3_checkIndex_8e157⟩
theorem m_X3_99 : lkV RX3 99 yX3_readNumber cX3_readNumber 4 (some .boolean) 1 := ⟨mm_X3_readNumber, aw (List.mem_append_right _ (List.mem_of_getElem? (i := 696) (by decide +kernel))) rfl, mi_X3_readNumber, ml_X3_readNumber⟩
theorem m_X3_102 : lkV RX3 102 yX3_isDigitHere cX3_isDigitHere 1 (some .boolean) 0 := ⟨mm_X3_isDigitHere, aw (List.mem_append_right _ (List.mem_of_getElem? (i := 700) (by decide +kernel))) rfl, mi_X3_isDigitHere, ml_X3_isDigitHere⟩
theorem m_X3_105 : lkV RX3 105 yX3_takeDigit cX3_takeDigit 2 (some .int) 0 := ⟨mm_X3_takeDigit, aw (List.mem_append_right _ (List.mem_of_getElem? (i := 704) (by decide +kernel))) rfl, mi_X3_takeDigit, ml_X3_takeDigit⟩
theorem m_X3_47 : lkV RX3 47 yX3_skip cX3_skip 2 (some .boolean) 1 := ⟨mm_X3_skip, aw (List.mem_append_right _ (List.mem_of_getElem? (i := 708) (by decide +kernel))) rfl, mi_X3_skip, ml_X3_skip⟩
theorem m_X3_80 : lkV RX3 80 yX3_readCrew cX3_readCrew 2 (some .boolean) 0 := ⟨mm_X3_readCrew, aw (List.mem_append_right _ (List.mem_of_getElem? (i := 712) (by decide +kernel))) rfl, mi_X3_readCrew, ml_X3_readCrew⟩
theorem m_L_109 : lkV RL 109 yX5_carryOut cX5_carryOut 2 (some .int) 0 := ⟨mm_X5_carryOut, aw (List.mem_append_right _ (List.mem_of_getElem? (i := 717) (by decide +kernel))) rfl, mi_X5_carryOut, ml_X5_carryOut⟩
theorem m_X5_165 : lkV RX5 165 yX3_startReading cX3_startReading 1 none 0 := ⟨mm_X3_startReading, aw (List.mem_append_right _ (List.mem_of_getElem? (i := 721) (by decide +kernel))) rfl, mi_X3_startReading, ml_X3_startReading⟩
theorem m_X5_168 : lkV RX5 168 yX3_readOrder cX3_readOrder 1 (some .boolean) 0 := ⟨mm_X3_readOrder, aw (List.mem_append_right _ (List.mem_of_getElem? (i := 722) (by decide +kernel))) rfl, mi_X3_readOrder, ml_X3_readOrder⟩
theorem m_X5_172 : lkV RX5 172 yX5_obeyOrder cX5_obeyOrder 2 (some .int) 0 := ⟨mm_X5_obeyOrder, aw (List.mem_append_right _ (List.mem_of_getElem? (i := 723) (by decide +kernel))) rfl, mi_X5_obeyOrder, ml_X5_obeyOrder⟩
theorem m_X5_178 : lkV RX5 178 yX3_number cX3_number 2 (some .int) 1 := ⟨mm_X3_number, aw (List.mem_append_right _ (List.mem_of_getElem? (i := 727) (by decide +kernel))) rfl, mi_X3_number, ml_X3_number⟩
theorem m_X5_175 : lkV RX5 175 yX3_skip cX3_skip 2 (some .boolean) 1 := ⟨mm_X3_skip, aw (List.mem_append_right _ (List.mem_of_getElem? (i := 731) (by decide +kernel))) rfl, mi_X3_skip, ml_X3_skip⟩
theorem m_L_113 : lkV RL 113 yX5_undo cX5_undo 1 (some .int) 0 := ⟨mm_X5_undo, aw (List.mem_append_right _ (List.mem_of_getElem? (i := 732) (by decide +kernel))) rfl, mi_X5_undo, ml_X5_undo⟩
theorem m_X5_190 : lkV RX5 190 yX1_takeBack cX1_takeBack 2 (some .int) 1 := ⟨mm_X1_takeBack, aw (List.mem_append_right _ (List.mem_of_getElem? (i := 736) (by decide +kernel))) rfl, mi_X1_takeBack, ml_X1_takeBack⟩
theorem m_L_117 : lkV RL 117 yX5_save cX5_save 2 (some .int) 1 := ⟨mm_X5_save, aw (List.mem_append_right _ (List.mem_of_getElem? (i := 740) (by decide +kernel))) rfl, mi_X5_save, ml_X5_save⟩
theorem m_X5_194 : lkS RX5 194 yX5_isSlot cX5_isSlot 1 (some .boolean) 1 := ⟨mm_X5_isSlot, aw (List.mem_append_right _ (List.mem_of_getElem? (i := 744) (by decide +kernel))) rfl, ms_X5_isSlot⟩
theorem m_X5_200 : lkS RX5 200 yX5_isWithin cX5_isWithin 3 (some .boolean) 3 := ⟨mm_X5_isWithin, aw (List.mem_append_right _ (List.mem_of_getElem? (i := 747) (by decide +kernel))) rfl, ms_X5_isWithin⟩
theorem m_L_121 : lkV RL 121 yX5_restore cX5_restore 2 (some .int) 1 := ⟨mm_X5_restore, aw (List.mem_append_right _ (List.mem_of_getElem? (i := 748) (by decide +kernel))) rfl, mi_X5_restore, ml_X5_restore⟩
theorem m_L_12 : lkI RL 12 yX6_init cX6_init 2 0 := ⟨mm_X6_init, aw (List.mem_append_right _ (List.mem_of_getElem? (i := 754) (by decide +kernel))) rfl, mi_X6_init, rfl⟩
theorem oi_X6_1 : Cond.methodLink RX6 1 objectInit ∈ allw := aw (by decide +kernel) rfl
theorem m_L_17 : lkV RL 17 yX6_set cX6_set 4 (some .int) 2 := ⟨mm_X6_set, aw (List.mem_append_right _ (List.mem_of_getElem? (i := 798) (by decide +kernel))) rfl, mi_X6_set, ml_X6_set⟩
theorem m_X6_36 : lkS RX6 36 yX6_in cX6_in 3 (some .boolean) 3 := ⟨mm_X6_in, aw (List.mem_append_right _ (List.mem_of_getElem? (i := 802) (by decide +kernel))) rfl, ms_X6_in⟩
theorem m_X6_111 : lkS RX6 111 yX6_leastOf cX6_leastOf 1 (some .int) 1 := ⟨mm_X6_leastOf, aw (List.mem_append_right _ (List.mem_of_getElem? (i := 805) (by decide +kernel))) rfl, ms_X6_leastOf⟩
theorem m_X6_114 : lkS RX6 114 yX6_mostOf cX6_mostOf 1 (some .int) 1 := ⟨mm_X6_mostOf, aw (List.mem_append_right _ (List.mem_of_getElem? (i := 808) (by decide +kernel))) rfl, ms_X6_mostOf⟩
theorem m_X6_117 : lkV RX6 117 yX6_records cX6_records 2 none 0 := ⟨mm_X6_records, aw (List.mem_append_right _ (List.mem_of_getElem? (i := 811) (by decide +kernel))) rfl, mi_X6_records, ml_X6_records⟩
theorem m_L_22 : lkV RL 22 yX6_person cX6_person 3 (some .int) 1 := ⟨mm_X6_person, aw (List.mem_append_right _ (List.mem_of_getElem? (i := 815) (by decide +kernel))) rfl, mi_X6_person, ml_X6_person⟩
theorem m_X6_120 : lkV RX6 120 yX6_refusesPerson cX6_refusesPerson 2 (some .int) 1 := ⟨mm_X6_refusesPerson, aw (List.mem_append_right _ (List.mem_of_getElem? (i := 819) (by decide +kernel))) rfl, mi_X6_refusesPerson, ml_X6_refusesPerson⟩
theorem m_X6_123 : lkV RX6 123 yX6_addsPerson cX6_addsPerson 3 (some .int) 1 := ⟨mm_X6_addsPerson, aw (List.mem_append_right _ (List.mem_of_getElem? (i := 823) (by decide +kernel))) rfl, mi_X6_addsPerson, ml_X6_addsPerson⟩
theorem m_X6_94 : lkV RX6 94 yX6_layPerson cX6_layPerson 4 none 3 := ⟨mm_X6_layPerson, aw (List.mem_append_right _ (List.mem_of_getElem? (i := 827) (by decide +kernel))) rfl, mi_X6_layPerson, ml_X6_layPerson⟩
theorem m_L_26 : lkV RL 26 yX6_buy cX6_buy 2 (some .int) 1 := ⟨mm_X6_buy, aw (List.mem_append_right _ (List.mem_of_getElem? (i := 831) (by decide +kernel))) rfl, mi_X6_buy, ml_X6_buy⟩
theorem m_L_31 : lkV RL 31 yX6_job cX6_job 7 (some .int) 5 := ⟨mm_X6_job, aw (List.mem_append_right _ (List.mem_of_getElem? (i := 835) (by decide +kernel))) rfl, mi_X6_job, ml_X6_job⟩
theorem m_X6_126 : lkV RX6 126 yX6_refusesJob cX6_refusesJob 7 (some .int) 5 := ⟨mm_X6_refusesJob, aw (List.mem_append_right _ (List.mem_of_getElem? (i := 839) (by decide +kernel))) rfl, mi_X6_refusesJob, ml_X6_refusesJob⟩
theorem m_X6_130 : lkV RX6 130 yX6_addsJob cX6_addsJob 7 (some .int) 5 := ⟨mm_X6_addsJob, aw (List.mem_append_right _ (List.mem_of_getElem? (i := 843) (by decide +kernel))) rfl, mi_X6_addsJob, ml_X6_addsJob⟩
theorem m_X6_77 : lkV RX6 77 yX6_lay cX6_lay 4 none 3 := ⟨mm_X6_lay, aw (List.mem_append_right _ (List.mem_of_getElem? (i := 847) (by decide +kernel))) rfl, mi_X6_lay, ml_X6_lay⟩
theorem m_L_36 : lkV RL 36 yX6_begin cX6_begin 5 (some .int) 3 := ⟨mm_X6_begin, aw (List.mem_append_right _ (List.mem_of_getElem? (i := 851) (by decide +kernel))) rfl, mi_X6_begin, ml_X6_begin⟩
theorem m_X6_142 : lkV RX6 142 yX6_refusesBegin cX6_refusesBegin 4 (some .int) 3 := ⟨mm_X6_refusesBegin, aw (List.mem_append_right _ (List.mem_of_getElem? (i := 855) (by decide +kernel))) rfl, mi_X6_refusesBegin, ml_X6_refusesBegin⟩
theorem m_X6_133 : lkV RX6 133 yX6_isJob cX6_isJob 2 (some .boolean) 1 := ⟨mm_X6_isJob, aw (List.mem_append_right _ (List.mem_of_getElem? (i := 859) (by decide +kernel))) rfl, mi_X6_isJob, ml_X6_isJob⟩
theorem m_X6_136 : lkS RX6 136 yX6_isStraps cX6_isStraps 1 (some .boolean) 1 := ⟨mm_X6_isStraps, aw (List.mem_append_right _ (List.mem_of_getElem? (i := 863) (by decide +kernel))) rfl, ms_X6_isStraps⟩
theorem m_X6_139 : lkV RX6 139 yX6_reason cX6_reason 4 (some .int) 3 := ⟨mm_X6_reason, aw (List.mem_append_right _ (List.mem_of_getElem? (i := 866) (by decide +kernel))) rfl, mi_X6_reason, ml_X6_reason⟩
theorem m_X6_43 : lkV RX6 43 yX6_ofJobs cX6_ofJobs 3 (some .int) 2 := ⟨mm_X6_ofJobs, aw (List.mem_append_right _ (List.mem_of_getElem? (i := 870) (by decide +kernel))) rfl, mi_X6_ofJobs, ml_X6_ofJobs⟩
theorem m_X6_54 : lkS RX6 54 yX6_ones cX6_ones 3 (some .int) 1 := ⟨mm_X6_ones, aw (List.mem_append_right _ (List.mem_of_getElem? (i := 874) (by decide +kernel))) rfl, ms_X6_ones⟩
theorem m_X6_57 : lkV RX6 57 yX6_busy cX6_busy 3 (some .int) 0 := ⟨mm_X6_busy, aw (List.mem_append_right _ (List.mem_of_getElem? (i := 877) (by decide +kernel))) rfl, mi_X6_busy, ml_X6_busy⟩
theorem m_X6_61 : lkV RX6 61 yX6_canHave cX6_canHave 3 (some .boolean) 2 := ⟨mm_X6_canHave, aw (List.mem_append_right _ (List.mem_of_getElem? (i := 881) (by decide +kernel))) rfl, mi_X6_canHave, ml_X6_canHave⟩
theorem m_X6_50 : lkV RX6 50 yX6_freeStraps cX6_freeStraps 4 (some .int) 1 := ⟨mm_X6_freeStraps, aw (List.mem_append_right _ (List.mem_of_getElem? (i := 885) (by decide +kernel))) rfl, mi_X6_freeStraps, ml_X6_freeStraps⟩
theorem m_X6_65 : lkV RX6 65 yX6_strength cX6_strength 4 (some .int) 1 := ⟨mm_X6_strength, aw (List.mem_append_right _ (List.mem_of_getElem? (i := 889) (by decide +kernel))) rfl, mi_X6_strength, ml_X6_strength⟩
theorem m_X6_47 : lkV RX6 47 yX6_ofPerson cX6_ofPerson 3 (some .int) 2 := ⟨mm_X6_ofPerson, aw (List.mem_append_right _ (List.mem_of_getElem? (i := 893) (by decide +kernel))) rfl, mi_X6_ofPerson, ml_X6_ofPerson⟩
theorem m_X6_68 : lkV RX6 68 yX6_loadBy cX6_loadBy 5 (some .int) 2 := ⟨mm_X6_loadBy, aw (List.mem_append_right _ (List.mem_of_getElem? (i := 897) (by decide +kernel))) rfl, mi_X6_loadBy, ml_X6_loadBy⟩
theorem m_X6_90 : lkV RX6 90 yX6_begins cX6_begins 5 (some .int) 3 := ⟨mm_X6_begins, aw (List.mem_append_right _ (List.mem_of_getElem? (i := 901) (by decide +kernel))) rfl, mi_X6_begins, ml_X6_begins⟩
theorem m_L_41 : lkV RL 41 yX6_assign cX6_assign 1 (some .int) 0 := ⟨mm_X6_assign, aw (List.mem_append_right _ (List.mem_of_getElem? (i := 905) (by decide +kernel))) rfl, mi_X6_assign, ml_X6_assign⟩
theorem m_X6_145 : lkV RX6 145 yX6_assigns cX6_assigns 6 (some .int) 0 := ⟨mm_X6_assigns, aw (List.mem_append_right _ (List.mem_of_getElem? (i := 909) (by decide +kernel))) rfl, mi_X6_assigns, ml_X6_assigns⟩
theorem m_X6_84 : lkV RX6 84 yX6_waitingAt cX6_waitingAt 7 (some .int) 2 := ⟨mm_X6_waitingAt, aw (List.mem_append_right _ (List.mem_of_getElem? (i := 913) (by decide +kernel))) rfl, mi_X6_waitingAt, ml_X6_waitingAt⟩
theorem m_X6_81 : lkV RX6 81 yX6_isAhead cX6_isAhead 4 (some .boolean) 2 := ⟨mm_X6_isAhead, aw (List.mem_append_right _ (List.mem_of_getElem? (i := 917) (by decide +kernel))) rfl, mi_X6_isAhead, ml_X6_isAhead⟩
theorem m_X6_87 : lkV RX6 87 yX6_strapsFor cX6_strapsFor 7 (some .int) 1 := ⟨mm_X6_strapsFor, aw (List.mem_append_right _ (List.mem_of_getElem? (i := 921) (by decide +kernel))) rfl, mi_X6_strapsFor, ml_X6_strapsFor⟩
theorem m_X6_74 : lkV RX6 74 yX6_crewFor cX6_crewFor 7 (some .int) 2 := ⟨mm_X6_crewFor, aw (List.mem_append_right _ (List.mem_of_getElem? (i := 925) (by decide +kernel))) rfl, mi_X6_crewFor, ml_X6_crewFor⟩
theorem m_X6_71 : lkV RX6 71 yX6_strongestBut cX6_strongestBut 5 (some .int) 1 := ⟨mm_X6_strongestBut, aw (List.mem_append_right _ (List.mem_of_getElem? (i := 929) (by decide +kernel))) rfl, mi_X6_strongestBut, ml_X6_strongestBut⟩
theorem m_L_45 : lkV RL 45 yX6_delay cX6_delay 4 (some .int) 2 := ⟨mm_X6_delay, aw (List.mem_append_right _ (List.mem_of_getElem? (i := 933) (by decide +kernel))) rfl, mi_X6_delay, ml_X6_delay⟩
theorem m_X6_148 : lkV RX6 148 yX6_refusesDelay cX6_refusesDelay 3 (some .int) 2 := ⟨mm_X6_refusesDelay, aw (List.mem_append_right _ (List.mem_of_getElem? (i := 937) (by decide +kernel))) rfl, mi_X6_refusesDelay, ml_X6_refusesDelay⟩
theorem m_X6_151 : lkV RX6 151 yX6_delays cX6_delays 3 (some .int) 2 := ⟨mm_X6_delays, aw (List.mem_append_right _ (List.mem_of_getElem? (i := 941) (by decide +kernel))) rfl, mi_X6_delays, ml_X6_delays⟩
theorem m_L_49 : lkV RL 49 yX6_callOff cX6_callOff 3 (some .int) 1 := ⟨mm_X6_callOff, aw (List.mem_append_right _ (List.mem_of_getElem? (i := 945) (by decide +kernel))) rfl, mi_X6_callOff, ml_X6_callOff⟩
theorem m_X6_154 : lkV RX6 154 yX6_refusesCall cX6_refusesCall 2 (some .int) 1 := ⟨mm_X6_refusesCall, aw (List.mem_append_right _ (List.mem_of_getElem? (i := 949) (by decide +kernel))) rfl, mi_X6_refusesCall, ml_X6_refusesCall⟩
theorem m_X6_157 : lkV RX6 157 yX6_callsOff cX6_callsOff 3 (some .int) 1 := ⟨mm_X6_callsOff, aw (List.mem_append_right _ (List.mem_of_getElem? (i := 953) (by decide +kernel))) rfl, mi_X6_callsOff, ml_X6_callsOff⟩
theorem m_L_53 : lkV RL 53 yX6_pass cX6_pass 3 (some .int) 1 := ⟨mm_X6_pass, aw (List.mem_append_right _ (List.mem_of_getElem? (i := 957) (by decide +kernel))) rfl, mi_X6_pass, ml_X6_pass⟩
theorem m_X6_163 : lkV RX6 163 yX6_refusesHours cX6_refusesHours 2 (some .int) 1 := ⟨mm_X6_refusesHours, aw (List.mem_append_right _ (List.mem_of_getElem? (i := 961) (by decide +kernel))) rfl, mi_X6_refusesHours, ml_X6_refusesHours⟩
theorem m_X6_166 : lkV RX6 166 yX6_passes cX6_passes 4 (some .int) 1 := ⟨mm_X6_passes, aw (List.mem_append_right _ (List.mem_of_getElem? (i := 965) (by decide +kernel))) rfl, mi_X6_passes, ml_X6_passes⟩
theorem m_X6_160 : lkV RX6 160 yX6_goesBy cX6_goesBy 4 (some .int) 0 := ⟨mm_X6_goesBy, aw (List.mem_append_right _ (List.mem_of_getElem? (i := 969) (by decide +kernel))) rfl, mi_X6_goesBy, ml_X6_goesBy⟩
theorem m_X6_107 : lkV RX6 107 yX6_works cX6_works 3 (some .boolean) 1 := ⟨mm_X6_works, aw (List.mem_append_right _ (List.mem_of_getElem? (i := 973) (by decide +kernel))) rfl, mi_X6_works, ml_X6_works⟩
theorem m_X6_97 : lkV RX6 97 yX6_rest cX6_rest 5 none 1 := ⟨mm_X6_rest, aw (List.mem_append_right _ (List.mem_of_getElem? (i := 977) (by decide +kernel))) rfl, mi_X6_rest, ml_X6_rest⟩
theorem m_X6_101 : lkV RX6 101 yX6_carry cX6_carry 4 none 1 := ⟨mm_X6_carry, aw (List.mem_append_right _ (List.mem_of_getElem? (i := 981) (by decide +kernel))) rfl, mi_X6_carry, ml_X6_carry⟩
theorem m_X6_104 : lkV RX6 104 yX6_ends cX6_ends 3 none 1 := ⟨mm_X6_ends, aw (List.mem_append_right _ (List.mem_of_getElem? (i := 985) (by decide +kernel))) rfl, mi_X6_ends, ml_X6_ends⟩
theorem m_L_57 : lkV RL 57 yX6_of cX6_of 3 (some .int) 2 := ⟨mm_X6_of, aw (List.mem_append_right _ (List.mem_of_getElem? (i := 989) (by decide +kernel))) rfl, mi_X6_of, ml_X6_of⟩
theorem m_X6_169 : lkV RX6 169 yX6_jobOf cX6_jobOf 4 (some .int) 1 := ⟨mm_X6_jobOf, aw (List.mem_append_right _ (List.mem_of_getElem? (i := 993) (by decide +kernel))) rfl, mi_X6_jobOf, ml_X6_jobOf⟩
theorem m_L_61 : lkV RL 61 yX6_ofJob cX6_ofJob 3 (some .int) 2 := ⟨mm_X6_ofJob, aw (List.mem_append_right _ (List.mem_of_getElem? (i := 997) (by decide +kernel))) rfl, mi_X6_ofJob, ml_X6_ofJob⟩
theorem m_X6_172 : lkV RX6 172 yX6_isLate cX6_isLate 3 (some .boolean) 1 := ⟨mm_X6_isLate, aw (List.mem_append_right _ (List.mem_of_getElem? (i := 1001) (by decide +kernel))) rfl, mi_X6_isLate, ml_X6_isLate⟩
theorem m_L_65 : lkV RL 65 yX6_waiting cX6_waiting 3 (some .int) 1 := ⟨mm_X6_waiting, aw (List.mem_append_right _ (List.mem_of_getElem? (i := 1005) (by decide +kernel))) rfl, mi_X6_waiting, ml_X6_waiting⟩
theorem m_L_69 : lkV RL 69 yX6_straps cX6_straps 3 (some .int) 2 := ⟨mm_X6_straps, aw (List.mem_append_right _ (List.mem_of_getElem? (i := 1009) (by decide +kernel))) rfl, mi_X6_straps, ml_X6_straps⟩
theorem m_L_73 : lkV RL 73 yX6_count cX6_count 2 (some .int) 1 := ⟨mm_X6_count, aw (List.mem_append_right _ (List.mem_of_getElem? (i := 1013) (by decide +kernel))) rfl, mi_X6_count, ml_X6_count⟩
theorem m_X6_175 : lkV RX6 175 yX6_jobsThat cX6_jobsThat 5 (some .int) 1 := ⟨mm_X6_jobsThat, aw (List.mem_append_right _ (List.mem_of_getElem? (i := 1017) (by decide +kernel))) rfl, mi_X6_jobsThat, ml_X6_jobsThat⟩
theorem m_L_77 : lkV RL 77 yX6_why cX6_why 4 (some .int) 3 := ⟨mm_X6_why, aw (List.mem_append_right _ (List.mem_of_getElem? (i := 1021) (by decide +kernel))) rfl, mi_X6_why, ml_X6_why⟩
theorem m_L_81 : lkV RL 81 yX6_crew cX6_crew 3 (some .int) 2 := ⟨mm_X6_crew, aw (List.mem_append_right _ (List.mem_of_getElem? (i := 1025) (by decide +kernel))) rfl, mi_X6_crew, ml_X6_crew⟩
theorem m_L_85 : lkV RL 85 yX6_bestStraps cX6_bestStraps 2 (some .int) 1 := ⟨mm_X6_bestStraps, aw (List.mem_append_right _ (List.mem_of_getElem? (i := 1029) (by decide +kernel))) rfl, mi_X6_bestStraps, ml_X6_bestStraps⟩
theorem m_L_89 : lkV RL 89 yX6_doneIn cX6_doneIn 4 (some .int) 1 := ⟨mm_X6_doneIn, aw (List.mem_append_right _ (List.mem_of_getElem? (i := 1033) (by decide +kernel))) rfl, mi_X6_doneIn, ml_X6_doneIn⟩
theorem m_X6_181 : lkV RX6 181 yX6_putAside cX6_putAside 2 none 0 := ⟨mm_X6_putAside, aw (List.mem_append_right _ (List.mem_of_getElem? (i := 1037) (by decide +kernel))) rfl, mi_X6_putAside, ml_X6_putAside⟩
theorem m_X6_184 : lkV RX6 184 yX6_takeBack cX6_takeBack 2 none 0 := ⟨mm_X6_takeBack, aw (List.mem_append_right _ (List.mem_of_getElem? (i := 1041) (by decide +kernel))) rfl, mi_X6_takeBack, ml_X6_takeBack⟩
theorem m_L_93 : lkV RL 93 yX6_ifAssigned cX6_ifAssigned 2 (some .int) 0 := ⟨mm_X6_ifAssigned, aw (List.mem_append_right _ (List.mem_of_getElem? (i := 1045) (by decide +kernel))) rfl, mi_X6_ifAssigned, ml_X6_ifAssigned⟩
theorem m_L_100 : lkV RL 100 yX6_put cX6_put 8 (some .int) 1 := ⟨mm_X6_put, aw (List.mem_append_right _ (List.mem_of_getElem? (i := 1049) (by decide +kernel))) rfl, mi_X6_put, ml_X6_put⟩
theorem m_L_104 : lkV RL 104 yX6_wipe cX6_wipe 2 (some .int) 0 := ⟨mm_X6_wipe, aw (List.mem_append_right _ (List.mem_of_getElem? (i := 1054) (by decide +kernel))) rfl, mi_X6_wipe, ml_X6_wipe⟩
theorem m_L_108 : lkV RL 108 yX6_fault cX6_fault 1 (some .int) 0 := ⟨mm_X6_fault, aw (List.mem_append_right _ (List.mem_of_getElem? (i := 1058) (by decide +kernel))) rfl, mi_X6_fault, ml_X6_fault⟩
theorem m_X6_223 : lkV RX6 223 yX6_reads cX6_reads 1 (some .int) 0 := ⟨mm_X6_reads, aw (List.mem_append_right _ (List.mem_of_getElem? (i := 1062) (by decide +kernel))) rfl, mi_X6_reads, ml_X6_reads⟩
theorem m_X6_220 : lkV RX6 220 yX6_readsOrder cX6_readsOrder 3 none 0 := ⟨mm_X6_readsOrder, aw (List.mem_append_right _ (List.mem_of_getElem? (i := 1066) (by decide +kernel))) rfl, mi_X6_readsOrder, ml_X6_readsOrder⟩
theorem m_X6_196 : lkV RX6 196 yX6_letter cX6_letter 1 (some .int) 0 := ⟨mm_X6_letter, aw (List.mem_append_right _ (List.mem_of_getElem? (i := 1070) (by decide +kernel))) rfl, mi_X6_letter, ml_X6_letter⟩
theorem m_X6_211 : lkS RX6 211 yX6_isOrder cX6_isOrder 1 (some .boolean) 1 := ⟨mm_X6_isOrder, aw (List.mem_append_right _ (List.mem_of_getElem? (i := 1074) (by decide +kernel))) rfl, ms_X6_isOrder⟩
theorem m_X6_205 : lkV RX6 205 yX6_number cX6_number 2 (some .int) 0 := ⟨mm_X6_number, aw (List.mem_append_right _ (List.mem_of_getElem? (i := 1077) (by decide +kernel))) rfl, mi_X6_number, ml_X6_number⟩
theorem m_X6_199 : lkV RX6 199 yX6_digit cX6_digit 2 (some .int) 0 := ⟨mm_X6_digit, aw (List.mem_append_right _ (List.mem_of_getElem? (i := 1081) (by decide +kernel))) rfl, mi_X6_digit, ml_X6_digit⟩
theorem m_X6_214 : lkV RX6 214 yX6_readsJob cX6_readsJob 3 none 1 := ⟨mm_X6_readsJob, aw (List.mem_append_right _ (List.mem_of_getElem? (i := 1085) (by decide +kernel))) rfl, mi_X6_readsJob, ml_X6_readsJob⟩
theorem m_X6_202 : lkV RX6 202 yX6_wants cX6_wants 2 none 1 := ⟨mm_X6_wants, aw (List.mem_append_right _ (List.mem_of_getElem? (i := 1089) (by decide +kernel))) rfl, mi_X6_wants, ml_X6_wants⟩
theorem m_X6_217 : lkV RX6 217 yX6_readsCrew cX6_readsCrew 3 none 1 := ⟨mm_X6_readsCrew, aw (List.mem_append_right _ (List.mem_of_getElem? (i := 1093) (by decide +kernel))) rfl, mi_X6_readsCrew, ml_X6_readsCrew⟩
theorem m_L_112 : lkV RL 112 yX6_carryOut cX6_carryOut 2 (some .int) 0 := ⟨mm_X6_carryOut, aw (List.mem_append_right _ (List.mem_of_getElem? (i := 1097) (by decide +kernel))) rfl, mi_X6_carryOut, ml_X6_carryOut⟩
theorem m_X6_226 : lkV RX6 226 yX6_refuses cX6_refuses 4 (some .int) 1 := ⟨mm_X6_refuses, aw (List.mem_append_right _ (List.mem_of_getElem? (i := 1101) (by decide +kernel))) rfl, mi_X6_refuses, ml_X6_refuses⟩
theorem m_X6_229 : lkV RX6 229 yX6_does cX6_does 4 none 1 := ⟨mm_X6_does, aw (List.mem_append_right _ (List.mem_of_getElem? (i := 1105) (by decide +kernel))) rfl, mi_X6_does, ml_X6_does⟩
theorem m_L_116 : lkV RL 116 yX6_undo cX6_undo 2 (some .int) 0 := ⟨mm_X6_undo, aw (List.mem_append_right _ (List.mem_of_getElem? (i := 1109) (by decide +kernel))) rfl, mi_X6_undo, ml_X6_undo⟩
theorem m_L_120 : lkV RL 120 yX6_save cX6_save 3 (some .int) 1 := ⟨mm_X6_save, aw (List.mem_append_right _ (List.mem_of_getElem? (i := 1113) (by decide +kernel))) rfl, mi_X6_save, ml_X6_save⟩
theorem m_L_124 : lkV RL 124 yX6_restore cX6_restore 3 (some .int) 1 := ⟨mm_X6_restore, aw (List.mem_append_right _ (List.mem_of_getElem? (i := 1117) (by decide +kernel))) rfl, mi_X6_restore, ml_X6_restore⟩
theorem m_X0_33 : lkIN RX0 33 yX4_init cX4_init 1 0 := ⟨mm_X4_init, (by decide +kernel), mi_X4_init, rfl⟩
theorem m_X0_34 : lkIN RX0 34 yX2_init cX2_init 1 0 := ⟨mm_X2_init, (by decide +kernel), mi_X2_init, rfl⟩
theorem m_X5_36 : lkIN RX5 36 yX3_init cX3_init 1 0 := ⟨mm_X3_init, (by decide +kernel), mi_X3_init, rfl⟩
theorem m_X0_64 : lkSN RX0 64 yX5_isWithin cX5_isWithin 3 (some .boolean) 3 := ⟨mm_X5_isWithin, (by decide +kernel), ms_X5_isWithin⟩
theorem m_X0_78 : lkSN RX0 78 yX5_isKind cX5_isKind 1 (some .boolean) 1 := ⟨mm_X5_isKind, (by decide +kernel), ms_X5_isKind⟩
theorem m_X0_117 : lkSN RX0 117 yX5_isKindOrNone cX5_isKindOrNone 1 (some .boolean) 1 := ⟨mm_X5_isKindOrNone, (by decide +kernel), ms_X5_isKindOrNone⟩
theorem m_X0_101 : lkSN RX0 101 yX5_isIn cX5_isIn 2 (some .boolean) 2 := ⟨mm_X5_isIn, (by decide +kernel), ms_X5_isIn⟩
theorem m_X3_30 : lkSN RX3 30 yX5_isWithin cX5_isWithin 3 (some .boolean) 3 := ⟨mm_X5_isWithin, (by decide +kernel), ms_X5_isWithin⟩
theorem f_X4_9 : lk RX4 9 4 0 := ⟨by decide, by decide, aw (List.mem_append_right _ (List.mem_of_getElem? (i := 39) (by decide +kernel))) rfl⟩
theorem f_X4_15 : lk RX4 15 4 1 := ⟨by decide, by decide, aw (List.mem_append_right _ (List.mem_of_getElem? (i := 40) (by decide +kernel))) rfl⟩
theorem f_X0_105 : lk RX0 105 4 1 := ⟨by decide, by decide, aw (List.mem_append_right _ (List.mem_of_getElem? (i := 41) (by decide +kernel))) rfl⟩
theorem f_X4_18 : lk RX4 18 4 2 := ⟨by decide, by decide, aw (List.mem_append_right _ (List.mem_of_getElem? (i := 42) (by decide +kernel))) rfl⟩
theorem f_X0_98 : lk RX0 98 4 2 := ⟨by decide, by decide, aw (List.mem_append_right _ (List.mem_of_getElem? (i := 43) (by decide +kernel))) rfl⟩
theorem f_X4_21 : lk RX4 21 4 3 := ⟨by decide, by decide, aw (List.mem_append_right _ (List.mem_of_getElem? (i := 44) (by decide +kernel))) rfl⟩
theorem f_X4_24 : lk RX4 24 4 4 := ⟨by decide, by decide, aw (List.mem_append_right _ (List.mem_of_getElem? (i := 45) (by decide +kernel))) rfl⟩
theorem f_X0_216 : lk RX0 216 4 4 := ⟨by decide, by decide, aw (List.mem_append_right _ (List.mem_of_getElem? (i := 46) (by decide +kernel))) rfl⟩
theorem f_X2_9 : lk RX2 9 2 0 := ⟨by decide, by decide, aw (List.mem_append_right _ (List.mem_of_getElem? (i := 64) (by decide +kernel))) rfl⟩
theorem f_X0_85 : lk RX0 85 2 0 := ⟨by decide, by decide, aw (List.mem_append_right _ (List.mem_of_getElem? (i := 65) (by decide +kernel))) rfl⟩
theorem f_X2_15 : lk RX2 15 2 1 := ⟨by decide, by decide, aw (List.mem_append_right _ (List.mem_of_getElem? (i := 66) (by decide +kernel))) rfl⟩
theorem f_X0_88 : lk RX0 88 2 1 := ⟨by decide, by decide, aw (List.mem_append_right _ (List.mem_of_getElem? (i := 67) (by decide +kernel))) rfl⟩
theorem f_X2_18 : lk RX2 18 2 2 := ⟨by decide, by decide, aw (List.mem_append_right _ (List.mem_of_getElem? (i := 68) (by decide +kernel))) rfl⟩
theorem f_X0_200 : lk RX0 200 2 2 := ⟨by decide, by decide, aw (List.mem_append_right _ (List.mem_of_getElem? (i := 69) (by decide +kernel))) rfl⟩
theorem f_X2_21 : lk RX2 21 2 3 := ⟨by decide, by decide, aw (List.mem_append_right _ (List.mem_of_getElem? (i := 70) (by decide +kernel))) rfl⟩
theorem f_X0_219 : lk RX0 219 2 3 := ⟨by decide, by decide, aw (List.mem_append_right _ (List.mem_of_getElem? (i := 71) (by decide +kernel))) rfl⟩
theorem f_X2_24 : lk RX2 24 2 4 := ⟨by decide, by decide, aw (List.mem_append_right _ (List.mem_of_getElem? (i := 72) (by decide +kernel))) rfl⟩
theorem f_X0_222 : lk RX0 222 2 4 := ⟨by decide, by decide, aw (List.mem_append_right _ (List.mem_of_getElem? (i := 73) (by decide +kernel))) rfl⟩
theorem f_X2_27 : lk RX2 27 2 5 := ⟨by decide, by decide, aw (List.mem_append_right _ (List.mem_of_getElem? (i := 74) (by decide +kernel))) rfl⟩
theorem f_X0_120 : lk RX0 120 2 5 := ⟨by decide, by decide, aw (List.mem_append_right _ (List.mem_of_getElem? (i := 75) (by decide +kernel))) rfl⟩
theorem f_X5_136 : lk RX5 136 2 5 := ⟨by decide, by decide, aw (List.mem_append_right _ (List.mem_of_getElem? (i := 76) (by decide +kernel))) rfl⟩
theorem f_X2_30 : lk RX2 30 2 6 := ⟨by decide, by decide, aw (List.mem_append_right _ (List.mem_of_getElem? (i := 77) (by decide +kernel))) rfl⟩
theorem f_X0_154 : lk RX0 154 2 6 := ⟨by decide, by decide, aw (List.mem_append_right _ (List.mem_of_getElem? (i := 78) (by decide +kernel))) rfl⟩
theorem f_X2_33 : lk RX2 33 2 7 := ⟨by decide, by decide, aw (List.mem_append_right _ (List.mem_of_getElem? (i := 79) (by decide +kernel))) rfl⟩
theorem f_X0_157 : lk RX0 157 2 7 := ⟨by decide, by decide, aw (List.mem_append_right _ (List.mem_of_getElem? (i := 80) (by decide +kernel))) rfl⟩
theorem f_X2_36 : lk RX2 36 2 8 := ⟨by decide, by decide, aw (List.mem_append_right _ (List.mem_of_getElem? (i := 81) (by decide +kernel))) rfl⟩
theorem f_X0_160 : lk RX0 160 2 8 := ⟨by decide, by decide, aw (List.mem_append_right _ (List.mem_of_getElem? (i := 82) (by decide +kernel))) rfl⟩
theorem f_X2_39 : lk RX2 39 2 9 := ⟨by decide, by decide, aw (List.mem_append_right _ (List.mem_of_getElem? (i := 83) (by decide +kernel))) rfl⟩
theorem f_X0_183 : lk RX0 183 2 9 := ⟨by decide, by decide, aw (List.mem_append_right _ (List.mem_of_getElem? (i := 84) (by decide +kernel))) rfl⟩
theorem f_X2_42 : lk RX2 42 2 10 := ⟨by decide, by decide, aw (List.mem_append_right _ (List.mem_of_getElem? (i := 85) (by decide +kernel))) rfl⟩
theorem f_X0_199 : lk RX0 199 2 10 := ⟨by decide, by decide, aw (List.mem_append_right _ (List.mem_of_getElem? (i := 86) (by decide +kernel))) rfl⟩
theorem f_X2_45 : lk RX2 45 2 11 := ⟨by decide, by decide, aw (List.mem_append_right _ (List.mem_of_getElem? (i := 87) (by decide +kernel))) rfl⟩
theorem f_X0_207 : lk RX0 207 2 11 := ⟨by decide, by decide, aw (List.mem_append_right _ (List.mem_of_getElem? (i := 88) (by decide +kernel))) rfl⟩
theorem f_X0_9 : lk RX0 9 0 0 := ⟨by decide, by decide, aw (List.mem_append_right _ (List.mem_of_getElem? (i := 114) (by decide +kernel))) rfl⟩
theorem f_X5_88 : lk RX5 88 0 0 := ⟨by decide, by decide, aw (List.mem_append_right _ (List.mem_of_getElem? (i := 115) (by decide +kernel))) rfl⟩
theorem f_X0_15 : lk RX0 15 0 1 := ⟨by decide, by decide, aw (List.mem_append_right _ (List.mem_of_getElem? (i := 116) (by decide +kernel))) rfl⟩
theorem f_X5_114 : lk RX5 114 0 1 := ⟨by decide, by decide, aw (List.mem_append_right _ (List.mem_of_getElem? (i := 117) (by decide +kernel))) rfl⟩
theorem f_X0_18 : lk RX0 18 0 2 := ⟨by decide, by decide, aw (List.mem_append_right _ (List.mem_of_getElem? (i := 118) (by decide +kernel))) rfl⟩
theorem f_X5_117 : lk RX5 117 0 2 := ⟨by decide, by decide, aw (List.mem_append_right _ (List.mem_of_getElem? (i := 119) (by decide +kernel))) rfl⟩
theorem f_X0_23 : lk RX0 23 0 3 := ⟨by decide, by decide, aw (List.mem_append_right _ (List.mem_of_getElem? (i := 120) (by decide +kernel))) rfl⟩
theorem f_X5_84 : lk RX5 84 0 3 := ⟨by decide, by decide, aw (List.mem_append_right _ (List.mem_of_getElem? (i := 121) (by decide +kernel))) rfl⟩
theorem f_X0_29 : lk RX0 29 0 4 := ⟨by decide, by decide, aw (List.mem_append_right _ (List.mem_of_getElem? (i := 122) (by decide +kernel))) rfl⟩
theorem f_X5_100 : lk RX5 100 0 4 := ⟨by decide, by decide, aw (List.mem_append_right _ (List.mem_of_getElem? (i := 123) (by decide +kernel))) rfl⟩
theorem f_X0_41 : lk RX0 41 0 5 := ⟨by decide, by decide, aw (List.mem_append_right _ (List.mem_of_getElem? (i := 124) (by decide +kernel))) rfl⟩
theorem f_X0_45 : lk RX0 45 0 6 := ⟨by decide, by decide, aw (List.mem_append_right _ (List.mem_of_getElem? (i := 125) (by decide +kernel))) rfl⟩
theorem f_X5_197 : lk RX5 197 0 6 := ⟨by decide, by decide, aw (List.mem_append_right _ (List.mem_of_getElem? (i := 126) (by decide +kernel))) rfl⟩
theorem f_X0_48 : lk RX0 48 0 7 := ⟨by decide, by decide, aw (List.mem_append_right _ (List.mem_of_getElem? (i := 127) (by decide +kernel))) rfl⟩
theorem f_X0_51 : lk RX0 51 0 8 := ⟨by decide, by decide, aw (List.mem_append_right _ (List.mem_of_getElem? (i := 128) (by decide +kernel))) rfl⟩
theorem f_X0_54 : lk RX0 54 0 9 := ⟨by decide, by decide, aw (List.mem_append_right _ (List.mem_of_getElem? (i := 129) (by decide +kernel))) rfl⟩
theorem f_X1_13 : lk RX1 13 1 0 := ⟨by decide, by decide, aw (List.mem_append_right _ (List.mem_of_getElem? (i := 160) (by decide +kernel))) rfl⟩
theorem f_X1_18 : lk RX1 18 1 1 := ⟨by decide, by decide, aw (List.mem_append_right _ (List.mem_of_getElem? (i := 161) (by decide +kernel))) rfl⟩
theorem f_X1_22 : lk RX1 22 1 2 := ⟨by decide, by decide, aw (List.mem_append_right _ (List.mem_of_getElem? (i := 162) (by decide +kernel))) rfl⟩
theorem f_X5_124 : lk RX5 124 1 2 := ⟨by decide, by decide, aw (List.mem_append_right _ (List.mem_of_getElem? (i := 163) (by decide +kernel))) rfl⟩
theorem f_X3_9 : lk RX3 9 3 0 := ⟨by decide, by decide, aw (List.mem_append_right _ (List.mem_of_getElem? (i := 178) (by decide +kernel))) rfl⟩
theorem f_X3_15 : lk RX3 15 3 1 := ⟨by decide, by decide, aw (List.mem_append_right _ (List.mem_of_getElem? (i := 179) (by decide +kernel))) rfl⟩
theorem f_X3_37 : lk RX3 37 3 2 := ⟨by decide, by decide, aw (List.mem_append_right _ (List.mem_of_getElem? (i := 180) (by decide +kernel))) rfl⟩
theorem f_X3_34 : lk RX3 34 3 3 := ⟨by decide, by decide, aw (List.mem_append_right _ (List.mem_of_getElem? (i := 181) (by decide +kernel))) rfl⟩
theorem f_X3_22 : lk RX3 22 3 4 := ⟨by decide, by decide, aw (List.mem_append_right _ (List.mem_of_getElem? (i := 182) (by decide +kernel))) rfl⟩
theorem f_X5_120 : lk RX5 120 3 4 := ⟨by decide, by decide, aw (List.mem_append_right _ (List.mem_of_getElem? (i := 183) (by decide +kernel))) rfl⟩
theorem f_X3_61 : lk RX3 61 3 5 := ⟨by decide, by decide, aw (List.mem_append_right _ (List.mem_of_getElem? (i := 184) (by decide +kernel))) rfl⟩
theorem f_X5_181 : lk RX5 181 3 5 := ⟨by decide, by decide, aw (List.mem_append_right _ (List.mem_of_getElem? (i := 185) (by decide +kernel))) rfl⟩
theorem f_X3_51 : lk RX3 51 3 6 := ⟨by decide, by decide, aw (List.mem_append_right _ (List.mem_of_getElem? (i := 186) (by decide +kernel))) rfl⟩
theorem f_X5_184 : lk RX5 184 3 6 := ⟨by decide, by decide, aw (List.mem_append_right _ (List.mem_of_getElem? (i := 187) (by decide +kernel))) rfl⟩
theorem f_X3_54 : lk RX3 54 3 7 := ⟨by decide, by decide, aw (List.mem_append_right _ (List.mem_of_getElem? (i := 188) (by decide +kernel))) rfl⟩
theorem f_X5_187 : lk RX5 187 3 7 := ⟨by decide, by decide, aw (List.mem_append_right _ (List.mem_of_getElem? (i := 189) (by decide +kernel))) rfl⟩
theorem f_X5_10 : lk RX5 10 5 0 := ⟨by decide, by decide, aw (List.mem_append_right _ (List.mem_of_getElem? (i := 207) (by decide +kernel))) rfl⟩
theorem f_X5_16 : lk RX5 16 5 1 := ⟨by decide, by decide, aw (List.mem_append_right _ (List.mem_of_getElem? (i := 208) (by decide +kernel))) rfl⟩
theorem f_X5_19 : lk RX5 19 5 2 := ⟨by decide, by decide, aw (List.mem_append_right _ (List.mem_of_getElem? (i := 209) (by decide +kernel))) rfl⟩
theorem f_X5_23 : lk RX5 23 5 3 := ⟨by decide, by decide, aw (List.mem_append_right _ (List.mem_of_getElem? (i := 210) (by decide +kernel))) rfl⟩
theorem f_X5_30 : lk RX5 30 5 4 := ⟨by decide, by decide, aw (List.mem_append_right _ (List.mem_of_getElem? (i := 211) (by decide +kernel))) rfl⟩
theorem f_X5_37 : lk RX5 37 5 5 := ⟨by decide, by decide, aw (List.mem_append_right _ (List.mem_of_getElem? (i := 212) (by decide +kernel))) rfl⟩
theorem f_X6_32 : lk RX6 32 6 0 := ⟨by decide, by decide, aw (List.mem_append_right _ (List.mem_of_getElem? (i := 758) (by decide +kernel))) rfl⟩
theorem f_X6_7 : lk RX6 7 6 1 := ⟨by decide, by decide, aw (List.mem_append_right _ (List.mem_of_getElem? (i := 759) (by decide +kernel))) rfl⟩
theorem f_X6_13 : lk RX6 13 6 2 := ⟨by decide, by decide, aw (List.mem_append_right _ (List.mem_of_getElem? (i := 760) (by decide +kernel))) rfl⟩
theorem f_X6_16 : lk RX6 16 6 3 := ⟨by decide, by decide, aw (List.mem_append_right _ (List.mem_of_getElem? (i := 761) (by decide +kernel))) rfl⟩
theorem f_X6_40 : lk RX6 40 6 4 := ⟨by decide, by decide, aw (List.mem_append_right _ (List.mem_of_getElem? (i := 762) (by decide +kernel))) rfl⟩
theorem f_X6_19 : lk RX6 19 6 5 := ⟨by decide, by decide, aw (List.mem_append_right _ (List.mem_of_getElem? (i := 763) (by decide +kernel))) rfl⟩
theorem f_X6_22 : lk RX6 22 6 6 := ⟨by decide, by decide, aw (List.mem_append_right _ (List.mem_of_getElem? (i := 764) (by decide +kernel))) rfl⟩
theorem f_X6_26 : lk RX6 26 6 7 := ⟨by decide, by decide, aw (List.mem_append_right _ (List.mem_of_getElem? (i := 765) (by decide +kernel))) rfl⟩
theorem f_X6_178 : lk RX6 178 6 8 := ⟨by decide, by decide, aw (List.mem_append_right _ (List.mem_of_getElem? (i := 766) (by decide +kernel))) rfl⟩
theorem f_X6_189 : lk RX6 189 6 9 := ⟨by decide, by decide, aw (List.mem_append_right _ (List.mem_of_getElem? (i := 767) (by decide +kernel))) rfl⟩
theorem f_X6_192 : lk RX6 192 6 10 := ⟨by decide, by decide, aw (List.mem_append_right _ (List.mem_of_getElem? (i := 768) (by decide +kernel))) rfl⟩
theorem f_X6_29 : lk RX6 29 6 11 := ⟨by decide, by decide, aw (List.mem_append_right _ (List.mem_of_getElem? (i := 769) (by decide +kernel))) rfl⟩
theorem f_X6_208 : lk RX6 208 6 12 := ⟨by decide, by decide, aw (List.mem_append_right _ (List.mem_of_getElem? (i := 770) (by decide +kernel))) rfl⟩
theorem k_L_7 : Cond.classLink RL 7 (clC 5) ∈ allw := aw (List.mem_append_right _ (List.mem_of_getElem? (i := 16) (by decide +kernel))) rfl
theorem k_X5_7 : Cond.classLink RX5 7 (clC 0) ∈ allw := aw (List.mem_append_right _ (List.mem_of_getElem? (i := 24) (by decide +kernel))) rfl
theorem k_X0_21 : Cond.classLink RX0 21 (clC 4) ∈ allw := aw (List.mem_append_right _ (List.mem_of_getElem? (i := 30) (by decide +kernel))) rfl
theorem k_X0_27 : Cond.classLink RX0 27 (clC 2) ∈ allw := aw (List.mem_append_right _ (List.mem_of_getElem? (i := 32) (by decide +kernel))) rfl
theorem k_X5_27 : Cond.classLink RX5 27 (clC 1) ∈ allw := aw (List.mem_append_right _ (List.mem_of_getElem? (i := 152) (by decide +kernel))) rfl
theorem k_X1_11 : Cond.classLink RX1 11 (clC 0) ∈ allw := aw (List.mem_append_right _ (List.mem_of_getElem? (i := 158) (by decide +kernel))) rfl
theorem k_X5_34 : Cond.classLink RX5 34 (clC 3) ∈ allw := aw (List.mem_append_right _ (List.mem_of_getElem? (i := 172) (by decide +kernel))) rfl
theorem k_L_10 : Cond.classLink RL 10 (clC 6) ∈ allw := aw (List.mem_append_right _ (List.mem_of_getElem? (i := 752) (by decide +kernel))) rfl
end
