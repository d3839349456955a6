theorem dX0_init_0 : decode cX0_init 0 = .ok (.aload_n 0, 1) := by decide +kernel
theorem dX0_init_1 : decode cX0_init 1 = .ok (.invokespecial 3, 3) := by decide +kernel
theorem dX0_init_4 : decode cX0_init 4 = .ok (.aload_n 0, 1) := by decide +kernel
theorem dX0_init_5 : decode cX0_init 5 = .ok (.iconst 4, 1) := by decide +kernel
theorem dX0_init_6 : decode cX0_init 6 = .ok (.newarray .int, 2) := by decide +kernel
theorem dX0_init_8 : decode cX0_init 8 = .ok (.dup, 1) := by decide +kernel
theorem dX0_init_9 : decode cX0_init 9 = .ok (.iconst 0, 1) := by decide +kernel
theorem dX0_init_10 : decode cX0_init 10 = .ok (.bipush 10, 2) := by decide +kernel
theorem dX0_init_12 : decode cX0_init 12 = .ok (.iastore, 1) := by decide +kernel
theorem dX0_init_13 : decode cX0_init 13 = .ok (.dup, 1) := by decide +kernel
theorem dX0_init_14 : decode cX0_init 14 = .ok (.iconst 1, 1) := by decide +kernel
theorem dX0_init_15 : decode cX0_init 15 = .ok (.iconst 5, 1) := by decide +kernel
theorem dX0_init_16 : decode cX0_init 16 = .ok (.iastore, 1) := by decide +kernel
theorem dX0_init_17 : decode cX0_init 17 = .ok (.dup, 1) := by decide +kernel
theorem dX0_init_18 : decode cX0_init 18 = .ok (.iconst 2, 1) := by decide +kernel
theorem dX0_init_19 : decode cX0_init 19 = .ok (.iconst 4, 1) := by decide +kernel
theorem dX0_init_20 : decode cX0_init 20 = .ok (.iastore, 1) := by decide +kernel
theorem dX0_init_21 : decode cX0_init 21 = .ok (.dup, 1) := by decide +kernel
theorem dX0_init_22 : decode cX0_init 22 = .ok (.iconst 3, 1) := by decide +kernel
theorem dX0_init_23 : decode cX0_init 23 = .ok (.iconst 4, 1) := by decide +kernel
theorem dX0_init_24 : decode cX0_init 24 = .ok (.iastore, 1) := by decide +kernel
theorem dX0_init_25 : decode cX0_init 25 = .ok (.putfield 9, 3) := by decide +kernel
theorem dX0_init_28 : decode cX0_init 28 = .ok (.aload_n 0, 1) := by decide +kernel
theorem dX0_init_29 : decode cX0_init 29 = .ok (.iconst 3, 1) := by decide +kernel
theorem dX0_init_30 : decode cX0_init 30 = .ok (.newarray .int, 2) := by decide +kernel
theorem dX0_init_32 : decode cX0_init 32 = .ok (.dup, 1) := by decide +kernel
theorem dX0_init_33 : decode cX0_init 33 = .ok (.iconst 0, 1) := by decide +kernel
theorem dX0_init_34 : decode cX0_init 34 = .ok (.iconst 2, 1) := by decide +kernel
theorem dX0_init_35 : decode cX0_init 35 = .ok (.iastore, 1) := by decide +kernel
theorem dX0_init_36 : decode cX0_init 36 = .ok (.dup, 1) := by decide +kernel
theorem dX0_init_37 : decode cX0_init 37 = .ok (.iconst 1, 1) := by decide +kernel
theorem dX0_init_38 : decode cX0_init 38 = .ok (.iconst 2, 1) := by decide +kernel
theorem dX0_init_39 : decode cX0_init 39 = .ok (.iastore, 1) := by decide +kernel
theorem dX0_init_40 : decode cX0_init 40 = .ok (.dup, 1) := by decide +kernel
theorem dX0_init_41 : decode cX0_init 41 = .ok (.iconst 2, 1) := by decide +kernel
theorem dX0_init_42 : decode cX0_init 42 = .ok (.iconst 2, 1) := by decide +kernel
theorem dX0_init_43 : decode cX0_init 43 = .ok (.iastore, 1) := by decide +kernel
theorem dX0_init_44 : decode cX0_init 44 = .ok (.putfield 15, 3) := by decide +kernel
theorem dX0_init_47 : decode cX0_init 47 = .ok (.aload_n 0, 1) := by decide +kernel
theorem dX0_init_48 : decode cX0_init 48 = .ok (.iconst 3, 1) := by decide +kernel
theorem dX0_init_49 : decode cX0_init 49 = .ok (.newarray .int, 2) := by decide +kernel
theorem dX0_init_51 : decode cX0_init 51 = .ok (.dup, 1) := by decide +kernel
theorem dX0_init_52 : decode cX0_init 52 = .ok (.iconst 0, 1) := by decide +kernel
theorem dX0_init_53 : decode cX0_init 53 = .ok (.iconst 2, 1) := by decide +kernel
theorem dX0_init_54 : decode cX0_init 54 = .ok (.iastore, 1) := by decide +kernel
theorem dX0_init_55 : decode cX0_init 55 = .ok (.dup, 1) := by decide +kernel
theorem dX0_init_56 : decode cX0_init 56 = .ok (.iconst 1, 1) := by decide +kernel
theorem dX0_init_57 : decode cX0_init 57 = .ok (.iconst 2, 1) := by decide +kernel
theorem dX0_init_58 : decode cX0_init 58 = .ok (.iastore, 1) := by decide +kernel
theorem dX0_init_59 : decode cX0_init 59 = .ok (.dup, 1) := by decide +kernel
theorem dX0_init_60 : decode cX0_init 60 = .ok (.iconst 2, 1) := by decide +kernel
theorem dX0_init_61 : decode cX0_init 61 = .ok (.iconst 2, 1) := by decide +kernel
theorem dX0_init_62 : decode cX0_init 62 = .ok (.iastore, 1) := by decide +kernel
theorem dX0_init_63 : decode cX0_init 63 = .ok (.putfield 18, 3) := by decide +kernel
theorem dX0_init_66 : decode cX0_init 66 = .ok (.aload_n 0, 1) := by decide +kernel
theorem dX0_init_67 : decode cX0_init 67 = .ok (.bipush 10, 2) := by decide +kernel
theorem dX0_init_69 : decode cX0_init 69 = .ok (.anewarray 21, 3) := by decide +kernel
theorem dX0_init_72 : decode cX0_init 72 = .ok (.putfield 23, 3) := by decide +kernel
theorem dX0_init_75 : decode cX0_init 75 = .ok (.aload_n 0, 1) := by decide +kernel
theorem dX0_init_76 : decode cX0_init 76 = .ok (.bipush 16, 2) := by decide +kernel
theorem dX0_init_78 : decode cX0_init 78 = .ok (.anewarray 27, 3) := by decide +kernel
theorem dX0_init_81 : decode cX0_init 81 = .ok (.putfield 29, 3) := by decide +kernel
theorem dX0_init_84 : decode cX0_init 84 = .ok (.iconst 0, 1) := by decide +kernel
theorem dX0_init_85 : decode cX0_init 85 = .ok (.istore_n 1, 1) := by decide +kernel
theorem dX0_init_86 : decode cX0_init 86 = .ok (.iload_n 1, 1) := by decide +kernel
theorem dX0_init_87 : decode cX0_init 87 = .ok (.bipush 10, 2) := by decide +kernel
theorem dX0_init_89 : decode cX0_init 89 = .ok (.if_icmp .ge 22, 3) := by decide +kernel
theorem dX0_init_92 : decode cX0_init 92 = .ok (.aload_n 0, 1) := by decide +kernel
theorem dX0_init_93 : decode cX0_init 93 = .ok (.getfield 23, 3) := by decide +kernel
theorem dX0_init_96 : decode cX0_init 96 = .ok (.iload_n 1, 1) := by decide +kernel
theorem dX0_init_97 : decode cX0_init 97 = .ok (.new 21, 3) := by decide +kernel
theorem dX0_init_100 : decode cX0_init 100 = .ok (.dup, 1) := by decide +kernel
theorem dX0_init_101 : decode cX0_init 101 = .ok (.invokespecial 33, 3) := by decide +kernel
theorem dX0_init_104 : decode cX0_init 104 = .ok (.aastore, 1) := by decide +kernel
theorem dX0_init_105 : decode cX0_init 105 = .ok (.iinc 1 1, 3) := by decide +kernel
theorem dX0_init_108 : decode cX0_init 108 = .ok (.goto (-22), 3) := by decide +kernel
theorem dX0_init_111 : decode cX0_init 111 = .ok (.iconst 0, 1) := by decide +kernel
theorem dX0_init_112 : decode cX0_init 112 = .ok (.istore_n 1, 1) := by decide +kernel
theorem dX0_init_113 : decode cX0_init 113 = .ok (.iload_n 1, 1) := by decide +kernel
theorem dX0_init_114 : decode cX0_init 114 = .ok (.bipush 16, 2) := by decide +kernel
theorem dX0_init_116 : decode cX0_init 116 = .ok (.if_icmp .ge 22, 3) := by decide +kernel
theorem dX0_init_119 : decode cX0_init 119 = .ok (.aload_n 0, 1) := by decide +kernel
theorem dX0_init_120 : decode cX0_init 120 = .ok (.getfield 29, 3) := by decide +kernel
theorem dX0_init_123 : decode cX0_init 123 = .ok (.iload_n 1, 1) := by decide +kernel
theorem dX0_init_124 : decode cX0_init 124 = .ok (.new 27, 3) := by decide +kernel
theorem dX0_init_127 : decode cX0_init 127 = .ok (.dup, 1) := by decide +kernel
theorem dX0_init_128 : decode cX0_init 128 = .ok (.invokespecial 34, 3) := by decide +kernel
theorem dX0_init_131 : decode cX0_init 131 = .ok (.aastore, 1) := by decide +kernel
theorem dX0_init_132 : decode cX0_init 132 = .ok (.iinc 1 1, 3) := by decide +kernel
theorem dX0_init_135 : decode cX0_init 135 = .ok (.goto (-22), 3) := by decide +kernel
theorem dX0_init_138 : decode cX0_init 138 = .ok (.return_, 1) := by decide +kernel
theorem dX0_copyFrom_0 : decode cX0_copyFrom 0 = .ok (.aload_n 1, 1) := by decide +kernel
theorem dX0_copyFrom_1 : decode cX0_copyFrom 1 = .ok (.getfield 9, 3) := by decide +kernel
theorem dX0_copyFrom_4 : decode cX0_copyFrom 4 = .ok (.iconst 0, 1) := by decide +kernel
theorem dX0_copyFrom_5 : decode cX0_copyFrom 5 = .ok (.aload_n 0, 1) := by decide +kernel
theorem dX0_copyFrom_6 : decode cX0_copyFrom 6 = .ok (.getfield 9, 3) := by decide +kernel
theorem dX0_copyFrom_9 : decode cX0_copyFrom 9 = .ok (.iconst 0, 1) := by decide +kernel
theorem dX0_copyFrom_10 : decode cX0_copyFrom 10 = .ok (.aload_n 0, 1) := by decide +kernel
theorem dX0_copyFrom_11 : decode cX0_copyFrom 11 = .ok (.getfield 9, 3) := by decide +kernel
theorem dX0_copyFrom_14 : decode cX0_copyFrom 14 = .ok (.arraylength, 1) := by decide +kernel
theorem dX0_copyFrom_15 : decode cX0_copyFrom 15 = .ok (.invokestatic 35, 3) := by decide +kernel
theorem dX0_copyFrom_18 : decode cX0_copyFrom 18 = .ok (.aload_n 1, 1) := by decide +kernel
theorem dX0_copyFrom_19 : decode cX0_copyFrom 19 = .ok (.getfield 15, 3) := by decide +kernel
theorem dX0_copyFrom_22 : decode cX0_copyFrom 22 = .ok (.iconst 0, 1) := by decide +kernel
theorem dX0_copyFrom_23 : decode cX0_copyFrom 23 = .ok (.aload_n 0, 1) := by decide +kernel
theorem dX0_copyFrom_24 : decode cX0_copyFrom 24 = .ok (.getfield 15, 3) := by decide +kernel
theorem dX0_copyFrom_27 : decode cX0_copyFrom 27 = .ok (.iconst 0, 1) := by decide +kernel
theorem dX0_copyFrom_28 : decode cX0_copyFrom 28 = .ok (.iconst 3, 1) := by decide +kernel
theorem dX0_copyFrom_29 : decode cX0_copyFrom 29 = .ok (.invokestatic 35, 3) := by decide +kernel
theorem dX0_copyFrom_32 : decode cX0_copyFrom 32 = .ok (.aload_n 1, 1) := by decide +kernel
theorem dX0_copyFrom_33 : decode cX0_copyFrom 33 = .ok (.getfield 18, 3) := by decide +kernel
theorem dX0_copyFrom_36 : decode cX0_copyFrom 36 = .ok (.iconst 0, 1) := by decide +kernel
theorem dX0_copyFrom_37 : decode cX0_copyFrom 37 = .ok (.aload_n 0, 1) := by decide +kernel
theorem dX0_copyFrom_38 : decode cX0_copyFrom 38 = .ok (.getfield 18, 3) := by decide +kernel
theorem dX0_copyFrom_41 : decode cX0_copyFrom 41 = .ok (.iconst 0, 1) := by decide +kernel
theorem dX0_copyFrom_42 : decode cX0_copyFrom 42 = .ok (.iconst 3, 1) := by decide +kernel
theorem dX0_copyFrom_43 : decode cX0_copyFrom 43 = .ok (.invokestatic 35, 3) := by decide +kernel
theorem dX0_copyFrom_46 : decode cX0_copyFrom 46 = .ok (.aload_n 0, 1) := by decide +kernel
theorem dX0_copyFrom_47 : decode cX0_copyFrom 47 = .ok (.aload_n 1, 1) := by decide +kernel
theorem dX0_copyFrom_48 : decode cX0_copyFrom 48 = .ok (.getfield 41, 3) := by decide +kernel
theorem dX0_copyFrom_51 : decode cX0_copyFrom 51 = .ok (.putfield 41, 3) := by decide +kernel
theorem dX0_copyFrom_54 : decode cX0_copyFrom 54 = .ok (.aload_n 0, 1) := by decide +kernel
theorem dX0_copyFrom_55 : decode cX0_copyFrom 55 = .ok (.aload_n 1, 1) := by decide +kernel
theorem dX0_copyFrom_56 : decode cX0_copyFrom 56 = .ok (.getfield 45, 3) := by decide +kernel
theorem dX0_copyFrom_59 : decode cX0_copyFrom 59 = .ok (.putfield 45, 3) := by decide +kernel
theorem dX0_copyFrom_62 : decode cX0_copyFrom 62 = .ok (.aload_n 0, 1) := by decide +kernel
theorem dX0_copyFrom_63 : decode cX0_copyFrom 63 = .ok (.aload_n 1, 1) := by decide +kernel
theorem dX0_copyFrom_64 : decode cX0_copyFrom 64 = .ok (.getfield 48, 3) := by decide +kernel
theorem dX0_copyFrom_67 : decode cX0_copyFrom 67 = .ok (.putfield 48, 3) := by decide +kernel
theorem dX0_copyFrom_70 : decode cX0_copyFrom 70 = .ok (.aload_n 0, 1) := by decide +kernel
theorem dX0_copyFrom_71 : decode cX0_copyFrom 71 = .ok (.aload_n 1, 1) := by decide +kernel
theorem dX0_copyFrom_72 : decode cX0_copyFrom 72 = .ok (.getfield 51, 3) := by decide +kernel
theorem dX0_copyFrom_75 : decode cX0_copyFrom 75 = .ok (.putfield 51, 3) := by decide +kernel
theorem dX0_copyFrom_78 : decode cX0_copyFrom 78 = .ok (.aload_n 0, 1) := by decide +kernel
theorem dX0_copyFrom_79 : decode cX0_copyFrom 79 = .ok (.aload_n 1, 1) := by decide +kernel
theorem dX0_copyFrom_80 : decode cX0_copyFrom 80 = .ok (.getfield 54, 3) := by decide +kernel
theorem dX0_copyFrom_83 : decode cX0_copyFrom 83 = .ok (.putfield 54, 3) := by decide +kernel
theorem dX0_copyFrom_86 : decode cX0_copyFrom 86 = .ok (.iconst 0, 1) := by decide +kernel
theorem dX0_copyFrom_87 : decode cX0_copyFrom 87 = .ok (.istore_n 2, 1) := by decide +kernel
theorem dX0_copyFrom_88 : decode cX0_copyFrom 88 = .ok (.iload_n 2, 1) := by decide +kernel
theorem dX0_copyFrom_89 : decode cX0_copyFrom 89 = .ok (.aload_n 0, 1) := by decide +kernel
theorem dX0_copyFrom_90 : decode cX0_copyFrom 90 = .ok (.getfield 41, 3) := by decide +kernel
theorem dX0_copyFrom_93 : decode cX0_copyFrom 93 = .ok (.if_icmp .ge 24, 3) := by decide +kernel
theorem dX0_copyFrom_96 : decode cX0_copyFrom 96 = .ok (.aload_n 0, 1) := by decide +kernel
theorem dX0_copyFrom_97 : decode cX0_copyFrom 97 = .ok (.getfield 23, 3) := by decide +kernel
theorem dX0_copyFrom_100 : decode cX0_copyFrom 100 = .ok (.iload_n 2, 1) := by decide +kernel
theorem dX0_copyFrom_101 : decode cX0_copyFrom 101 = .ok (.aaload, 1) := by decide +kernel
theorem dX0_copyFrom_102 : decode cX0_copyFrom 102 = .ok (.aload_n 1, 1) := by decide +kernel
theorem dX0_copyFrom_103 : decode cX0_copyFrom 103 = .ok (.getfield 23, 3) := by decide +kernel
theorem dX0_copyFrom_106 : decode cX0_copyFrom 106 = .ok (.iload_n 2, 1) := by decide +kernel
theorem dX0_copyFrom_107 : decode cX0_copyFrom 107 = .ok (.aaload, 1) := by decide +kernel
theorem dX0_copyFrom_108 : decode cX0_copyFrom 108 = .ok (.invokevirtual 57, 3) := by decide +kernel
theorem dX0_copyFrom_111 : decode cX0_copyFrom 111 = .ok (.iinc 2 1, 3) := by decide +kernel
theorem dX0_copyFrom_114 : decode cX0_copyFrom 114 = .ok (.goto (-26), 3) := by decide +kernel
theorem dX0_copyFrom_117 : decode cX0_copyFrom 117 = .ok (.iconst 0, 1) := by decide +kernel
theorem dX0_copyFrom_118 : decode cX0_copyFrom 118 = .ok (.istore_n 2, 1) := by decide +kernel
theorem dX0_copyFrom_119 : decode cX0_copyFrom 119 = .ok (.iload_n 2, 1) := by decide +kernel
theorem dX0_copyFrom_120 : decode cX0_copyFrom 120 = .ok (.aload_n 0, 1) := by decide +kernel
theorem dX0_copyFrom_121 : decode cX0_copyFrom 121 = .ok (.getfield 45, 3) := by decide +kernel
theorem dX0_copyFrom_124 : decode cX0_copyFrom 124 = .ok (.if_icmp .ge 24, 3) := by decide +kernel
theorem dX0_copyFrom_127 : decode cX0_copyFrom 127 = .ok (.aload_n 0, 1) := by decide +kernel
theorem dX0_copyFrom_128 : decode cX0_copyFrom 128 = .ok (.getfield 29, 3) := by decide +kernel
theorem dX0_copyFrom_131 : decode cX0_copyFrom 131 = .ok (.iload_n 2, 1) := by decide +kernel
theorem dX0_copyFrom_132 : decode cX0_copyFrom 132 = .ok (.aaload, 1) := by decide +kernel
theorem dX0_copyFrom_133 : decode cX0_copyFrom 133 = .ok (.aload_n 1, 1) := by decide +kernel
theorem dX0_copyFrom_134 : decode cX0_copyFrom 134 = .ok (.getfield 29, 3) := by decide +kernel
theorem dX0_copyFrom_137 : decode cX0_copyFrom 137 = .ok (.iload_n 2, 1) := by decide +kernel
theorem dX0_copyFrom_138 : decode cX0_copyFrom 138 = .ok (.aaload, 1) := by decide +kernel
theorem dX0_copyFrom_139 : decode cX0_copyFrom 139 = .ok (.invokevirtual 61, 3) := by decide +kernel
theorem dX0_copyFrom_142 : decode cX0_copyFrom 142 = .ok (.iinc 2 1, 3) := by decide +kernel
theorem dX0_copyFrom_145 : decode cX0_copyFrom 145 = .ok (.goto (-26), 3) := by decide +kernel
theorem dX0_copyFrom_148 : decode cX0_copyFrom 148 = .ok (.return_, 1) := by decide +kernel
theorem dX0_hasPerson_0 : decode cX0_hasPerson 0 = .ok (.iload_n 1, 1) := by decide +kernel
theorem dX0_hasPerson_1 : decode cX0_hasPerson 1 = .ok (.ifCond .lt 15, 3) := by decide +kernel
theorem dX0_hasPerson_4 : decode cX0_hasPerson 4 = .ok (.iload_n 1, 1) := by decide +kernel
theorem dX0_hasPerson_5 : decode cX0_hasPerson 5 = .ok (.aload_n 0, 1) := by decide +kernel
theorem dX0_hasPerson_6 : decode cX0_hasPerson 6 = .ok (.getfield 41, 3) := by decide +kernel
theorem dX0_hasPerson_9 : decode cX0_hasPerson 9 = .ok (.if_icmp .ge 7, 3) := by decide +kernel
theorem dX0_hasPerson_12 : decode cX0_hasPerson 12 = .ok (.iconst 1, 1) := by decide +kernel
theorem dX0_hasPerson_13 : decode cX0_hasPerson 13 = .ok (.goto 4, 3) := by decide +kernel
theorem dX0_hasPerson_16 : decode cX0_hasPerson 16 = .ok (.iconst 0, 1) := by decide +kernel
theorem dX0_hasPerson_17 : decode cX0_hasPerson 17 = .ok (.ireturn, 1) := by decide +kernel
theorem dX0_hasJob_0 : decode cX0_hasJob 0 = .ok (.iload_n 1, 1) := by decide +kernel
theorem dX0_hasJob_1 : decode cX0_hasJob 1 = .ok (.ifCond .lt 15, 3) := by decide +kernel
theorem dX0_hasJob_4 : decode cX0_hasJob 4 = .ok (.iload_n 1, 1) := by decide +kernel
theorem dX0_hasJob_5 : decode cX0_hasJob 5 = .ok (.aload_n 0, 1) := by decide +kernel
theorem dX0_hasJob_6 : decode cX0_hasJob 6 = .ok (.getfield 45, 3) := by decide +kernel
theorem dX0_hasJob_9 : decode cX0_hasJob 9 = .ok (.if_icmp .ge 7, 3) := by decide +kernel
theorem dX0_hasJob_12 : decode cX0_hasJob 12 = .ok (.iconst 1, 1) := by decide +kernel
theorem dX0_hasJob_13 : decode cX0_hasJob 13 = .ok (.goto 4, 3) := by decide +kernel
theorem dX0_hasJob_16 : decode cX0_hasJob 16 = .ok (.iconst 0, 1) := by decide +kernel
theorem dX0_hasJob_17 : decode cX0_hasJob 17 = .ok (.ireturn, 1) := by decide +kernel
theorem dX0_changeSetting_0 : decode cX0_changeSetting 0 = .ok (.iload_n 1, 1) := by decide +kernel
theorem dX0_changeSetting_1 : decode cX0_changeSetting 1 = .ok (.iconst 0, 1) := by decide +kernel
theorem dX0_changeSetting_2 : decode cX0_changeSetting 2 = .ok (.aload_n 0, 1) := by decide +kernel
theorem dX0_changeSetting_3 : decode cX0_changeSetting 3 = .ok (.getfield 9, 3) := by decide +kernel
theorem dX0_changeSetting_6 : decode cX0_changeSetting 6 = .ok (.arraylength, 1) := by decide +kernel
theorem dX0_changeSetting_7 : decode cX0_changeSetting 7 = .ok (.iconst 1, 1) := by decide +kernel
theorem dX0_changeSetting_8 : decode cX0_changeSetting 8 = .ok (.isub, 1) := by decide +kernel
theorem dX0_changeSetting_9 : decode cX0_changeSetting 9 = .ok (.invokestatic 64, 3) := by decide +kernel
theorem dX0_changeSetting_12 : decode cX0_changeSetting 12 = .ok (.ifCond .eq 20, 3) := by decide +kernel
theorem dX0_changeSetting_15 : decode cX0_changeSetting 15 = .ok (.iload_n 2, 1) := by decide +kernel
theorem dX0_changeSetting_16 : decode cX0_changeSetting 16 = .ok (.getstatic 68, 3) := by decide +kernel
theorem dX0_changeSetting_19 : decode cX0_changeSetting 19 = .ok (.iload_n 1, 1) := by decide +kernel
theorem dX0_changeSetting_20 : decode cX0_changeSetting 20 = .ok (.iaload, 1) := by decide +kernel
theorem dX0_changeSetting_21 : decode cX0_changeSetting 21 = .ok (.getstatic 71, 3) := by decide +kernel
theorem dX0_changeSetting_24 : decode cX0_changeSetting 24 = .ok (.iload_n 1, 1) := by decide +kernel
theorem dX0_changeSetting_25 : decode cX0_changeSetting 25 = .ok (.iaload, 1) := by decide +kernel
theorem dX0_changeSetting_26 : decode cX0_changeSetting 26 = .ok (.invokestatic 64, 3) := by decide +kernel
theorem dX0_changeSetting_29 : decode cX0_changeSetting 29 = .ok (.ifCond .ne 6, 3) := by decide +kernel
theorem dX0_changeSetting_32 : decode cX0_changeSetting 32 = .ok (.bipush (-2), 2) := by decide +kernel
theorem dX0_changeSetting_34 : decode cX0_changeSetting 34 = .ok (.ireturn, 1) := by decide +kernel
theorem dX0_changeSetting_35 : decode cX0_changeSetting 35 = .ok (.aload_n 0, 1) := by decide +kernel
theorem dX0_changeSetting_36 : decode cX0_changeSetting 36 = .ok (.getfield 9, 3) := by decide +kernel
theorem dX0_changeSetting_39 : decode cX0_changeSetting 39 = .ok (.iload_n 1, 1) := by decide +kernel
theorem dX0_changeSetting_40 : decode cX0_changeSetting 40 = .ok (.iaload, 1) := by decide +kernel
theorem dX0_changeSetting_41 : decode cX0_changeSetting 41 = .ok (.istore_n 3, 1) := by decide +kernel
theorem dX0_changeSetting_42 : decode cX0_changeSetting 42 = .ok (.aload_n 0, 1) := by decide +kernel
theorem dX0_changeSetting_43 : decode cX0_changeSetting 43 = .ok (.getfield 9, 3) := by decide +kernel
theorem dX0_changeSetting_46 : decode cX0_changeSetting 46 = .ok (.iload_n 1, 1) := by decide +kernel
theorem dX0_changeSetting_47 : decode cX0_changeSetting 47 = .ok (.iload_n 2, 1) := by decide +kernel
theorem dX0_changeSetting_48 : decode cX0_changeSetting 48 = .ok (.iastore, 1) := by decide +kernel
theorem dX0_changeSetting_49 : decode cX0_changeSetting 49 = .ok (.iload_n 3, 1) := by decide +kernel
theorem dX0_changeSetting_50 : decode cX0_changeSetting 50 = .ok (.ireturn, 1) := by decide +kernel
theorem dX0_addPerson_0 : decode cX0_addPerson 0 = .ok (.iload_n 1, 1) := by decide +kernel
theorem dX0_addPerson_1 : decode cX0_addPerson 1 = .ok (.bipush 10, 2) := by decide +kernel
theorem dX0_addPerson_3 : decode cX0_addPerson 3 = .ok (.sipush 150, 3) := by decide +kernel
theorem dX0_addPerson_6 : decode cX0_addPerson 6 = .ok (.invokestatic 64, 3) := by decide +kernel
theorem dX0_addPerson_9 : decode cX0_addPerson 9 = .ok (.ifCond .ne 6, 3) := by decide +kernel
theorem dX0_addPerson_12 : decode cX0_addPerson 12 = .ok (.bipush (-2), 2) := by decide +kernel
theorem dX0_addPerson_14 : decode cX0_addPerson 14 = .ok (.ireturn, 1) := by decide +kernel
theorem dX0_addPerson_15 : decode cX0_addPerson 15 = .ok (.aload_n 0, 1) := by decide +kernel
theorem dX0_addPerson_16 : decode cX0_addPerson 16 = .ok (.getfield 41, 3) := by decide +kernel
theorem dX0_addPerson_19 : decode cX0_addPerson 19 = .ok (.bipush 10, 2) := by decide +kernel
theorem dX0_addPerson_21 : decode cX0_addPerson 21 = .ok (.if_icmp .lt 6, 3) := by decide +kernel
theorem dX0_addPerson_24 : decode cX0_addPerson 24 = .ok (.bipush (-4), 2) := by decide +kernel
theorem dX0_addPerson_26 : decode cX0_addPerson 26 = .ok (.ireturn, 1) := by decide +kernel
theorem dX0_addPerson_27 : decode cX0_addPerson 27 = .ok (.aload_n 0, 1) := by decide +kernel
theorem dX0_addPerson_28 : decode cX0_addPerson 28 = .ok (.getfield 23, 3) := by decide +kernel
theorem dX0_addPerson_31 : decode cX0_addPerson 31 = .ok (.aload_n 0, 1) := by decide +kernel
theorem dX0_addPerson_32 : decode cX0_addPerson 32 = .ok (.getfield 41, 3) := by decide +kernel
theorem dX0_addPerson_35 : decode cX0_addPerson 35 = .ok (.aaload, 1) := by decide +kernel
theorem dX0_addPerson_36 : decode cX0_addPerson 36 = .ok (.iload_n 1, 1) := by decide +kernel
theorem dX0_addPerson_37 : decode cX0_addPerson 37 = .ok (.invokevirtual 74, 3) := by decide +kernel
theorem dX0_addPerson_40 : decode cX0_addPerson 40 = .ok (.aload_n 0, 1) := by decide +kernel
theorem dX0_addPerson_41 : decode cX0_addPerson 41 = .ok (.dup, 1) := by decide +kernel
theorem dX0_addPerson_42 : decode cX0_addPerson 42 = .ok (.getfield 41, 3) := by decide +kernel
theorem dX0_addPerson_45 : decode cX0_addPerson 45 = .ok (.iconst 1, 1) := by decide +kernel
theorem dX0_addPerson_46 : decode cX0_addPerson 46 = .ok (.iadd, 1) := by decide +kernel
theorem dX0_addPerson_47 : decode cX0_addPerson 47 = .ok (.putfield 41, 3) := by decide +kernel
theorem dX0_addPerson_50 : decode cX0_addPerson 50 = .ok (.aload_n 0, 1) := by decide +kernel
theorem dX0_addPerson_51 : decode cX0_addPerson 51 = .ok (.getfield 41, 3) := by decide +kernel
theorem dX0_addPerson_54 : decode cX0_addPerson 54 = .ok (.iconst 1, 1) := by decide +kernel
theorem dX0_addPerson_55 : decode cX0_addPerson 55 = .ok (.isub, 1) := by decide +kernel
theorem dX0_addPerson_56 : decode cX0_addPerson 56 = .ok (.ireturn, 1) := by decide +kernel
theorem dX0_addStraps_0 : decode cX0_addStraps 0 = .ok (.iload_n 1, 1) := by decide +kernel
theorem dX0_addStraps_1 : decode cX0_addStraps 1 = .ok (.invokestatic 78, 3) := by decide +kernel
theorem dX0_addStraps_4 : decode cX0_addStraps 4 = .ok (.ifCond .ne 5, 3) := by decide +kernel
theorem dX0_addStraps_7 : decode cX0_addStraps 7 = .ok (.iconst (-1), 1) := by decide +kernel
theorem dX0_addStraps_8 : decode cX0_addStraps 8 = .ok (.ireturn, 1) := by decide +kernel
theorem dX0_addStraps_9 : decode cX0_addStraps 9 = .ok (.aload_n 0, 1) := by decide +kernel
theorem dX0_addStraps_10 : decode cX0_addStraps 10 = .ok (.getfield 15, 3) := by decide +kernel
theorem dX0_addStraps_13 : decode cX0_addStraps 13 = .ok (.iload_n 1, 1) := by decide +kernel
theorem dX0_addStraps_14 : decode cX0_addStraps 14 = .ok (.iaload, 1) := by decide +kernel
theorem dX0_addStraps_15 : decode cX0_addStraps 15 = .ok (.bipush 9, 2) := by decide +kernel
theorem dX0_addStraps_17 : decode cX0_addStraps 17 = .ok (.if_icmp .lt 6, 3) := by decide +kernel
theorem dX0_addStraps_20 : decode cX0_addStraps 20 = .ok (.bipush (-4), 2) := by decide +kernel
theorem dX0_addStraps_22 : decode cX0_addStraps 22 = .ok (.ireturn, 1) := by decide +kernel
theorem dX0_addStraps_23 : decode cX0_addStraps 23 = .ok (.aload_n 0, 1) := by decide +kernel
theorem dX0_addStraps_24 : decode cX0_addStraps 24 = .ok (.getfield 15, 3) := by decide +kernel
theorem dX0_addStraps_27 : decode cX0_addStraps 27 = .ok (.iload_n 1, 1) := by decide +kernel
theorem dX0_addStraps_28 : decode cX0_addStraps 28 = .ok (.dup2, 1) := by decide +kernel
theorem dX0_addStraps_29 : decode cX0_addStraps 29 = .ok (.iaload, 1) := by decide +kernel
theorem dX0_addStraps_30 : decode cX0_addStraps 30 = .ok (.iconst 1, 1) := by decide +kernel
theorem dX0_addStraps_31 : decode cX0_addStraps 31 = .ok (.iadd, 1) := by decide +kernel
theorem dX0_addStraps_32 : decode cX0_addStraps 32 = .ok (.iastore, 1) := by decide +kernel
theorem dX0_addStraps_33 : decode cX0_addStraps 33 = .ok (.aload_n 0, 1) := by decide +kernel
theorem dX0_addStraps_34 : decode cX0_addStraps 34 = .ok (.getfield 18, 3) := by decide +kernel
theorem dX0_addStraps_37 : decode cX0_addStraps 37 = .ok (.iload_n 1, 1) := by decide +kernel
theorem dX0_addStraps_38 : decode cX0_addStraps 38 = .ok (.dup2, 1) := by decide +kernel
theorem dX0_addStraps_39 : decode cX0_addStraps 39 = .ok (.iaload, 1) := by decide +kernel
theorem dX0_addStraps_40 : decode cX0_addStraps 40 = .ok (.iconst 1, 1) := by decide +kernel
theorem dX0_addStraps_41 : decode cX0_addStraps 41 = .ok (.iadd, 1) := by decide +kernel
theorem dX0_addStraps_42 : decode cX0_addStraps 42 = .ok (.iastore, 1) := by decide +kernel
theorem dX0_addStraps_43 : decode cX0_addStraps 43 = .ok (.aload_n 0, 1) := by decide +kernel
theorem dX0_addStraps_44 : decode cX0_addStraps 44 = .ok (.getfield 15, 3) := by decide +kernel
theorem dX0_addStraps_47 : decode cX0_addStraps 47 = .ok (.iload_n 1, 1) := by decide +kernel
theorem dX0_addStraps_48 : decode cX0_addStraps 48 = .ok (.iaload, 1) := by decide +kernel
theorem dX0_addStraps_49 : decode cX0_addStraps 49 = .ok (.ireturn, 1) := by decide +kernel
theorem dX0_addJob_0 : decode cX0_addJob 0 = .ok (.iload_n 1, 1) := by decide +kernel
theorem dX0_addJob_1 : decode cX0_addJob 1 = .ok (.bipush 50, 2) := by decide +kernel
theorem dX0_addJob_3 : decode cX0_addJob 3 = .ok (.sipush 600, 3) := by decide +kernel
theorem dX0_addJob_6 : decode cX0_addJob 6 = .ok (.invokestatic 64, 3) := by decide +kernel
theorem dX0_addJob_9 : decode cX0_addJob 9 = .ok (.ifCond .eq 45, 3) := by decide +kernel
theorem dX0_addJob_12 : decode cX0_addJob 12 = .ok (.iload_n 2, 1) := by decide +kernel
theorem dX0_addJob_13 : decode cX0_addJob 13 = .ok (.iconst 0, 1) := by decide +kernel
theorem dX0_addJob_14 : decode cX0_addJob 14 = .ok (.bipush 9, 2) := by decide +kernel
theorem dX0_addJob_16 : decode cX0_addJob 16 = .ok (.invokestatic 64, 3) := by decide +kernel
theorem dX0_addJob_19 : decode cX0_addJob 19 = .ok (.ifCond .eq 35, 3) := by decide +kernel
theorem dX0_addJob_22 : decode cX0_addJob 22 = .ok (.iload_n 3, 1) := by decide +kernel
theorem dX0_addJob_23 : decode cX0_addJob 23 = .ok (.iconst 1, 1) := by decide +kernel
theorem dX0_addJob_24 : decode cX0_addJob 24 = .ok (.bipush 9, 2) := by decide +kernel
theorem dX0_addJob_26 : decode cX0_addJob 26 = .ok (.invokestatic 64, 3) := by decide +kernel
theorem dX0_addJob_29 : decode cX0_addJob 29 = .ok (.ifCond .eq 25, 3) := by decide +kernel
theorem dX0_addJob_32 : decode cX0_addJob 32 = .ok (.iload 4, 2) := by decide +kernel
theorem dX0_addJob_34 : decode cX0_addJob 34 = .ok (.iconst 0, 1) := by decide +kernel
theorem dX0_addJob_35 : decode cX0_addJob 35 = .ok (.iconst 3, 1) := by decide +kernel
theorem dX0_addJob_36 : decode cX0_addJob 36 = .ok (.invokestatic 64, 3) := by decide +kernel
theorem dX0_addJob_39 : decode cX0_addJob 39 = .ok (.ifCond .eq 15, 3) := by decide +kernel
theorem dX0_addJob_42 : decode cX0_addJob 42 = .ok (.iload 5, 2) := by decide +kernel
theorem dX0_addJob_44 : decode cX0_addJob 44 = .ok (.iconst 0, 1) := by decide +kernel
theorem dX0_addJob_45 : decode cX0_addJob 45 = .ok (.sipush 999, 3) := by decide +kernel
theorem dX0_addJob_48 : decode cX0_addJob 48 = .ok (.invokestatic 64, 3) := by decide +kernel
theorem dX0_addJob_51 : decode cX0_addJob 51 = .ok (.ifCond .ne 6, 3) := by decide +kernel
theorem dX0_addJob_54 : decode cX0_addJob 54 = .ok (.bipush (-2), 2) := by decide +kernel
theorem dX0_addJob_56 : decode cX0_addJob 56 = .ok (.ireturn, 1) := by decide +kernel
theorem dX0_addJob_57 : decode cX0_addJob 57 = .ok (.aload_n 0, 1) := by decide +kernel
theorem dX0_addJob_58 : decode cX0_addJob 58 = .ok (.getfield 45, 3) := by decide +kernel
theorem dX0_addJob_61 : decode cX0_addJob 61 = .ok (.bipush 16, 2) := by decide +kernel
theorem dX0_addJob_63 : decode cX0_addJob 63 = .ok (.if_icmp .lt 6, 3) := by decide +kernel
theorem dX0_addJob_66 : decode cX0_addJob 66 = .ok (.bipush (-4), 2) := by decide +kernel
theorem dX0_addJob_68 : decode cX0_addJob 68 = .ok (.ireturn, 1) := by decide +kernel
theorem dX0_addJob_69 : decode cX0_addJob 69 = .ok (.aload_n 0, 1) := by decide +kernel
theorem dX0_addJob_70 : decode cX0_addJob 70 = .ok (.getfield 29, 3) := by decide +kernel
theorem dX0_addJob_73 : decode cX0_addJob 73 = .ok (.aload_n 0, 1) := by decide +kernel
theorem dX0_addJob_74 : decode cX0_addJob 74 = .ok (.getfield 45, 3) := by decide +kernel
theorem dX0_addJob_77 : decode cX0_addJob 77 = .ok (.aaload, 1) := by decide +kernel
theorem dX0_addJob_78 : decode cX0_addJob 78 = .ok (.iload_n 1, 1) := by decide +kernel
theorem dX0_addJob_79 : decode cX0_addJob 79 = .ok (.iload_n 2, 1) := by decide +kernel
theorem dX0_addJob_80 : decode cX0_addJob 80 = .ok (.iload_n 3, 1) := by decide +kernel
theorem dX0_addJob_81 : decode cX0_addJob 81 = .ok (.iload 4, 2) := by decide +kernel
theorem dX0_addJob_83 : decode cX0_addJob 83 = .ok (.iload 5, 2) := by decide +kernel
theorem dX0_addJob_85 : decode cX0_addJob 85 = .ok (.invokevirtual 82, 3) := by decide +kernel
theorem dX0_addJob_88 : decode cX0_addJob 88 = .ok (.aload_n 0, 1) := by decide +kernel
theorem dX0_addJob_89 : decode cX0_addJob 89 = .ok (.dup, 1) := by decide +kernel
theorem dX0_addJob_90 : decode cX0_addJob 90 = .ok (.getfield 45, 3) := by decide +kernel
theorem dX0_addJob_93 : decode cX0_addJob 93 = .ok (.iconst 1, 1) := by decide +kernel
theorem dX0_addJob_94 : decode cX0_addJob 94 = .ok (.iadd, 1) := by decide +kernel
theorem dX0_addJob_95 : decode cX0_addJob 95 = .ok (.putfield 45, 3) := by decide +kernel
theorem dX0_addJob_98 : decode cX0_addJob 98 = .ok (.aload_n 0, 1) := by decide +kernel
theorem dX0_addJob_99 : decode cX0_addJob 99 = .ok (.getfield 45, 3) := by decide +kernel
theorem dX0_addJob_102 : decode cX0_addJob 102 = .ok (.iconst 1, 1) := by decide +kernel
theorem dX0_addJob_103 : decode cX0_addJob 103 = .ok (.isub, 1) := by decide +kernel
theorem dX0_addJob_104 : decode cX0_addJob 104 = .ok (.ireturn, 1) := by decide +kernel
theorem dX0_loadNow_0 : decode cX0_loadNow 0 = .ok (.aload_n 1, 1) := by decide +kernel
theorem dX0_loadNow_1 : decode cX0_loadNow 1 = .ok (.getfield 85, 3) := by decide +kernel
theorem dX0_loadNow_4 : decode cX0_loadNow 4 = .ok (.bipush 100, 2) := by decide +kernel
theorem dX0_loadNow_6 : decode cX0_loadNow 6 = .ok (.aload_n 0, 1) := by decide +kernel
theorem dX0_loadNow_7 : decode cX0_loadNow 7 = .ok (.getfield 9, 3) := by decide +kernel
theorem dX0_loadNow_10 : decode cX0_loadNow 10 = .ok (.iconst 0, 1) := by decide +kernel
theorem dX0_loadNow_11 : decode cX0_loadNow 11 = .ok (.iaload, 1) := by decide +kernel
theorem dX0_loadNow_12 : decode cX0_loadNow 12 = .ok (.aload_n 1, 1) := by decide +kernel
theorem dX0_loadNow_13 : decode cX0_loadNow 13 = .ok (.getfield 88, 3) := by decide +kernel
theorem dX0_loadNow_16 : decode cX0_loadNow 16 = .ok (.imul, 1) := by decide +kernel
theorem dX0_loadNow_17 : decode cX0_loadNow 17 = .ok (.iadd, 1) := by decide +kernel
theorem dX0_loadNow_18 : decode cX0_loadNow 18 = .ok (.imul, 1) := by decide +kernel
theorem dX0_loadNow_19 : decode cX0_loadNow 19 = .ok (.bipush 100, 2) := by decide +kernel
theorem dX0_loadNow_21 : decode cX0_loadNow 21 = .ok (.idiv, 1) := by decide +kernel
theorem dX0_loadNow_22 : decode cX0_loadNow 22 = .ok (.ireturn, 1) := by decide +kernel
theorem dX0_loadWith_0 : decode cX0_loadWith 0 = .ok (.iload_n 2, 1) := by decide +kernel
theorem dX0_loadWith_1 : decode cX0_loadWith 1 = .ok (.invokestatic 78, 3) := by decide +kernel
theorem dX0_loadWith_4 : decode cX0_loadWith 4 = .ok (.ifCond .eq 11, 3) := by decide +kernel
theorem dX0_loadWith_7 : decode cX0_loadWith 7 = .ok (.getstatic 91, 3) := by decide +kernel
theorem dX0_loadWith_10 : decode cX0_loadWith 10 = .ok (.iload_n 2, 1) := by decide +kernel
theorem dX0_loadWith_11 : decode cX0_loadWith 11 = .ok (.iaload, 1) := by decide +kernel
theorem dX0_loadWith_12 : decode cX0_loadWith 12 = .ok (.goto 4, 3) := by decide +kernel
theorem dX0_loadWith_15 : decode cX0_loadWith 15 = .ok (.iconst 0, 1) := by decide +kernel
theorem dX0_loadWith_16 : decode cX0_loadWith 16 = .ok (.istore_n 3, 1) := by decide +kernel
theorem dX0_loadWith_17 : decode cX0_loadWith 17 = .ok (.aload_n 0, 1) := by decide +kernel
theorem dX0_loadWith_18 : decode cX0_loadWith 18 = .ok (.aload_n 1, 1) := by decide +kernel
theorem dX0_loadWith_19 : decode cX0_loadWith 19 = .ok (.invokevirtual 94, 3) := by decide +kernel
theorem dX0_loadWith_22 : decode cX0_loadWith 22 = .ok (.bipush 100, 2) := by decide +kernel
theorem dX0_loadWith_24 : decode cX0_loadWith 24 = .ok (.iload_n 3, 1) := by decide +kernel
theorem dX0_loadWith_25 : decode cX0_loadWith 25 = .ok (.isub, 1) := by decide +kernel
theorem dX0_loadWith_26 : decode cX0_loadWith 26 = .ok (.imul, 1) := by decide +kernel
theorem dX0_loadWith_27 : decode cX0_loadWith 27 = .ok (.bipush 100, 2) := by decide +kernel
theorem dX0_loadWith_29 : decode cX0_loadWith 29 = .ok (.idiv, 1) := by decide +kernel
theorem dX0_loadWith_30 : decode cX0_loadWith 30 = .ok (.ireturn, 1) := by decide +kernel
theorem dX0_canHaveStraps_0 : decode cX0_canHaveStraps 0 = .ok (.iload_n 2, 1) := by decide +kernel
theorem dX0_canHaveStraps_1 : decode cX0_canHaveStraps 1 = .ok (.invokestatic 78, 3) := by decide +kernel
theorem dX0_canHaveStraps_4 : decode cX0_canHaveStraps 4 = .ok (.ifCond .ne 5, 3) := by decide +kernel
theorem dX0_canHaveStraps_7 : decode cX0_canHaveStraps 7 = .ok (.iconst 1, 1) := by decide +kernel
theorem dX0_canHaveStraps_8 : decode cX0_canHaveStraps 8 = .ok (.ireturn, 1) := by decide +kernel
theorem dX0_canHaveStraps_9 : decode cX0_canHaveStraps 9 = .ok (.aload_n 0, 1) := by decide +kernel
theorem dX0_canHaveStraps_10 : decode cX0_canHaveStraps 10 = .ok (.getfield 18, 3) := by decide +kernel
theorem dX0_canHaveStraps_13 : decode cX0_canHaveStraps 13 = .ok (.iload_n 2, 1) := by decide +kernel
theorem dX0_canHaveStraps_14 : decode cX0_canHaveStraps 14 = .ok (.iaload, 1) := by decide +kernel
theorem dX0_canHaveStraps_15 : decode cX0_canHaveStraps 15 = .ok (.ifCond .le 19, 3) := by decide +kernel
theorem dX0_canHaveStraps_18 : decode cX0_canHaveStraps 18 = .ok (.iload_n 2, 1) := by decide +kernel
theorem dX0_canHaveStraps_19 : decode cX0_canHaveStraps 19 = .ok (.iconst 2, 1) := by decide +kernel
theorem dX0_canHaveStraps_20 : decode cX0_canHaveStraps 20 = .ok (.if_icmp .ne 10, 3) := by decide +kernel
theorem dX0_canHaveStraps_23 : decode cX0_canHaveStraps 23 = .ok (.aload_n 1, 1) := by decide +kernel
theorem dX0_canHaveStraps_24 : decode cX0_canHaveStraps 24 = .ok (.getfield 88, 3) := by decide +kernel
theorem dX0_canHaveStraps_27 : decode cX0_canHaveStraps 27 = .ok (.ifCond .ne 7, 3) := by decide +kernel
theorem dX0_canHaveStraps_30 : decode cX0_canHaveStraps 30 = .ok (.iconst 1, 1) := by decide +kernel
theorem dX0_canHaveStraps_31 : decode cX0_canHaveStraps 31 = .ok (.goto 4, 3) := by decide +kernel
theorem dX0_canHaveStraps_34 : decode cX0_canHaveStraps 34 = .ok (.iconst 0, 1) := by decide +kernel
theorem dX0_canHaveStraps_35 : decode cX0_canHaveStraps 35 = .ok (.ireturn, 1) := by decide +kernel
theorem dX0_busyPeople_0 : decode cX0_busyPeople 0 = .ok (.iconst 0, 1) := by decide +kernel
theorem dX0_busyPeople_1 : decode cX0_busyPeople 1 = .ok (.istore_n 1, 1) := by decide +kernel
theorem dX0_busyPeople_2 : decode cX0_busyPeople 2 = .ok (.iconst 0, 1) := by decide +kernel
theorem dX0_busyPeople_3 : decode cX0_busyPeople 3 = .ok (.istore_n 2, 1) := by decide +kernel
theorem dX0_busyPeople_4 : decode cX0_busyPeople 4 = .ok (.iload_n 2, 1) := by decide +kernel
theorem dX0_busyPeople_5 : decode cX0_busyPeople 5 = .ok (.aload_n 0, 1) := by decide +kernel
theorem dX0_busyPeople_6 : decode cX0_busyPeople 6 = .ok (.getfield 41, 3) := by decide +kernel
theorem dX0_busyPeople_9 : decode cX0_busyPeople 9 = .ok (.if_icmp .ge 29, 3) := by decide +kernel
theorem dX0_busyPeople_12 : decode cX0_busyPeople 12 = .ok (.aload_n 0, 1) := by decide +kernel
theorem dX0_busyPeople_13 : decode cX0_busyPeople 13 = .ok (.getfield 23, 3) := by decide +kernel
theorem dX0_busyPeople_16 : decode cX0_busyPeople 16 = .ok (.iload_n 2, 1) := by decide +kernel
theorem dX0_busyPeople_17 : decode cX0_busyPeople 17 = .ok (.aaload, 1) := by decide +kernel
theorem dX0_busyPeople_18 : decode cX0_busyPeople 18 = .ok (.getfield 98, 3) := by decide +kernel
theorem dX0_busyPeople_21 : decode cX0_busyPeople 21 = .ok (.bipush (-6), 2) := by decide +kernel
theorem dX0_busyPeople_23 : decode cX0_busyPeople 23 = .ok (.if_icmp .eq 9, 3) := by decide +kernel
theorem dX0_busyPeople_26 : decode cX0_busyPeople 26 = .ok (.iload_n 1, 1) := by decide +kernel
theorem dX0_busyPeople_27 : decode cX0_busyPeople 27 = .ok (.iconst 1, 1) := by decide +kernel
theorem dX0_busyPeople_28 : decode cX0_busyPeople 28 = .ok (.iload_n 2, 1) := by decide +kernel
theorem dX0_busyPeople_29 : decode cX0_busyPeople 29 = .ok (.ishl, 1) := by decide +kernel
theorem dX0_busyPeople_30 : decode cX0_busyPeople 30 = .ok (.ior, 1) := by decide +kernel
theorem dX0_busyPeople_31 : decode cX0_busyPeople 31 = .ok (.istore_n 1, 1) := by decide +kernel
theorem dX0_busyPeople_32 : decode cX0_busyPeople 32 = .ok (.iinc 2 1, 3) := by decide +kernel
theorem dX0_busyPeople_35 : decode cX0_busyPeople 35 = .ok (.goto (-31), 3) := by decide +kernel
theorem dX0_busyPeople_38 : decode cX0_busyPeople 38 = .ok (.iload_n 1, 1) := by decide +kernel
theorem dX0_busyPeople_39 : decode cX0_busyPeople 39 = .ok (.ireturn, 1) := by decide +kernel
theorem dX0_strengthOf_0 : decode cX0_strengthOf 0 = .ok (.iconst 0, 1) := by decide +kernel
theorem dX0_strengthOf_1 : decode cX0_strengthOf 1 = .ok (.istore_n 2, 1) := by decide +kernel
theorem dX0_strengthOf_2 : decode cX0_strengthOf 2 = .ok (.iconst 0, 1) := by decide +kernel
theorem dX0_strengthOf_3 : decode cX0_strengthOf 3 = .ok (.istore_n 3, 1) := by decide +kernel
theorem dX0_strengthOf_4 : decode cX0_strengthOf 4 = .ok (.iload_n 3, 1) := by decide +kernel
theorem dX0_strengthOf_5 : decode cX0_strengthOf 5 = .ok (.aload_n 0, 1) := by decide +kernel
theorem dX0_strengthOf_6 : decode cX0_strengthOf 6 = .ok (.getfield 41, 3) := by decide +kernel
theorem dX0_strengthOf_9 : decode cX0_strengthOf 9 = .ok (.if_icmp .ge 29, 3) := by decide +kernel
theorem dX0_strengthOf_12 : decode cX0_strengthOf 12 = .ok (.iload_n 3, 1) := by decide +kernel
theorem dX0_strengthOf_13 : decode cX0_strengthOf 13 = .ok (.iload_n 1, 1) := by decide +kernel
theorem dX0_strengthOf_14 : decode cX0_strengthOf 14 = .ok (.invokestatic 101, 3) := by decide +kernel
theorem dX0_strengthOf_17 : decode cX0_strengthOf 17 = .ok (.ifCond .eq 15, 3) := by decide +kernel
theorem dX0_strengthOf_20 : decode cX0_strengthOf 20 = .ok (.iload_n 2, 1) := by decide +kernel
theorem dX0_strengthOf_21 : decode cX0_strengthOf 21 = .ok (.aload_n 0, 1) := by decide +kernel
theorem dX0_strengthOf_22 : decode cX0_strengthOf 22 = .ok (.getfield 23, 3) := by decide +kernel
theorem dX0_strengthOf_25 : decode cX0_strengthOf 25 = .ok (.iload_n 3, 1) := by decide +kernel
theorem dX0_strengthOf_26 : decode cX0_strengthOf 26 = .ok (.aaload, 1) := by decide +kernel
theorem dX0_strengthOf_27 : decode cX0_strengthOf 27 = .ok (.getfield 105, 3) := by decide +kernel
theorem dX0_strengthOf_30 : decode cX0_strengthOf 30 = .ok (.iadd, 1) := by decide +kernel
theorem dX0_strengthOf_31 : decode cX0_strengthOf 31 = .ok (.istore_n 2, 1) := by decide +kernel
theorem dX0_strengthOf_32 : decode cX0_strengthOf 32 = .ok (.iinc 3 1, 3) := by decide +kernel
theorem dX0_strengthOf_35 : decode cX0_strengthOf 35 = .ok (.goto (-31), 3) := by decide +kernel
theorem dX0_strengthOf_38 : decode cX0_strengthOf 38 = .ok (.iload_n 2, 1) := by decide +kernel
theorem dX0_strengthOf_39 : decode cX0_strengthOf 39 = .ok (.ireturn, 1) := by decide +kernel
theorem dX0_isCrew_0 : decode cX0_isCrew 0 = .ok (.iconst 1, 1) := by decide +kernel
theorem dX0_isCrew_1 : decode cX0_isCrew 1 = .ok (.aload_n 0, 1) := by decide +kernel
theorem dX0_isCrew_2 : decode cX0_isCrew 2 = .ok (.getfield 41, 3) := by decide +kernel
theorem dX0_isCrew_5 : decode cX0_isCrew 5 = .ok (.ishl, 1) := by decide +kernel
theorem dX0_isCrew_6 : decode cX0_isCrew 6 = .ok (.iconst 1, 1) := by decide +kernel
theorem dX0_isCrew_7 : decode cX0_isCrew 7 = .ok (.isub, 1) := by decide +kernel
theorem dX0_isCrew_8 : decode cX0_isCrew 8 = .ok (.istore_n 2, 1) := by decide +kernel
theorem dX0_isCrew_9 : decode cX0_isCrew 9 = .ok (.iload_n 1, 1) := by decide +kernel
theorem dX0_isCrew_10 : decode cX0_isCrew 10 = .ok (.ifCond .eq 28, 3) := by decide +kernel
theorem dX0_isCrew_13 : decode cX0_isCrew 13 = .ok (.iload_n 1, 1) := by decide +kernel
theorem dX0_isCrew_14 : decode cX0_isCrew 14 = .ok (.iload_n 2, 1) := by decide +kernel
theorem dX0_isCrew_15 : decode cX0_isCrew 15 = .ok (.iconst (-1), 1) := by decide +kernel
theorem dX0_isCrew_16 : decode cX0_isCrew 16 = .ok (.ixor, 1) := by decide +kernel
theorem dX0_isCrew_17 : decode cX0_isCrew 17 = .ok (.iand, 1) := by decide +kernel
theorem dX0_isCrew_18 : decode cX0_isCrew 18 = .ok (.ifCond .ne 20, 3) := by decide +kernel
theorem dX0_isCrew_21 : decode cX0_isCrew 21 = .ok (.iload_n 1, 1) := by decide +kernel
theorem dX0_isCrew_22 : decode cX0_isCrew 22 = .ok (.invokestatic 108, 3) := by decide +kernel
theorem dX0_isCrew_25 : decode cX0_isCrew 25 = .ok (.aload_n 0, 1) := by decide +kernel
theorem dX0_isCrew_26 : decode cX0_isCrew 26 = .ok (.getfield 9, 3) := by decide +kernel
theorem dX0_isCrew_29 : decode cX0_isCrew 29 = .ok (.iconst 3, 1) := by decide +kernel
theorem dX0_isCrew_30 : decode cX0_isCrew 30 = .ok (.iaload, 1) := by decide +kernel
theorem dX0_isCrew_31 : decode cX0_isCrew 31 = .ok (.if_icmp .gt 7, 3) := by decide +kernel
theorem dX0_isCrew_34 : decode cX0_isCrew 34 = .ok (.iconst 1, 1) := by decide +kernel
theorem dX0_isCrew_35 : decode cX0_isCrew 35 = .ok (.goto 4, 3) := by decide +kernel
theorem dX0_isCrew_38 : decode cX0_isCrew 38 = .ok (.iconst 0, 1) := by decide +kernel
theorem dX0_isCrew_39 : decode cX0_isCrew 39 = .ok (.ireturn, 1) := by decide +kernel
theorem dX0_whyNot_0 : decode cX0_whyNot 0 = .ok (.aload_n 0, 1) := by decide +kernel
theorem dX0_whyNot_1 : decode cX0_whyNot 1 = .ok (.iload_n 1, 1) := by decide +kernel
theorem dX0_whyNot_2 : decode cX0_whyNot 2 = .ok (.invokevirtual 114, 3) := by decide +kernel
theorem dX0_whyNot_5 : decode cX0_whyNot 5 = .ok (.ifCond .ne 5, 3) := by decide +kernel
theorem dX0_whyNot_8 : decode cX0_whyNot 8 = .ok (.iconst (-1), 1) := by decide +kernel
theorem dX0_whyNot_9 : decode cX0_whyNot 9 = .ok (.ireturn, 1) := by decide +kernel
theorem dX0_whyNot_10 : decode cX0_whyNot 10 = .ok (.iload_n 3, 1) := by decide +kernel
theorem dX0_whyNot_11 : decode cX0_whyNot 11 = .ok (.invokestatic 117, 3) := by decide +kernel
theorem dX0_whyNot_14 : decode cX0_whyNot 14 = .ok (.ifCond .ne 6, 3) := by decide +kernel
theorem dX0_whyNot_17 : decode cX0_whyNot 17 = .ok (.bipush (-2), 2) := by decide +kernel
theorem dX0_whyNot_19 : decode cX0_whyNot 19 = .ok (.ireturn, 1) := by decide +kernel
theorem dX0_whyNot_20 : decode cX0_whyNot 20 = .ok (.aload_n 0, 1) := by decide +kernel
theorem dX0_whyNot_21 : decode cX0_whyNot 21 = .ok (.getfield 29, 3) := by decide +kernel
theorem dX0_whyNot_24 : decode cX0_whyNot 24 = .ok (.iload_n 1, 1) := by decide +kernel
theorem dX0_whyNot_25 : decode cX0_whyNot 25 = .ok (.aaload, 1) := by decide +kernel
theorem dX0_whyNot_26 : decode cX0_whyNot 26 = .ok (.getfield 120, 3) := by decide +kernel
theorem dX0_whyNot_29 : decode cX0_whyNot 29 = .ok (.ifCond .eq 5, 3) := by decide +kernel
theorem dX0_whyNot_32 : decode cX0_whyNot 32 = .ok (.iconst 1, 1) := by decide +kernel
theorem dX0_whyNot_33 : decode cX0_whyNot 33 = .ok (.ireturn, 1) := by decide +kernel
theorem dX0_whyNot_34 : decode cX0_whyNot 34 = .ok (.aload_n 0, 1) := by decide +kernel
theorem dX0_whyNot_35 : decode cX0_whyNot 35 = .ok (.iload_n 2, 1) := by decide +kernel
theorem dX0_whyNot_36 : decode cX0_whyNot 36 = .ok (.invokevirtual 123, 3) := by decide +kernel
theorem dX0_whyNot_39 : decode cX0_whyNot 39 = .ok (.ifCond .ne 5, 3) := by decide +kernel
theorem dX0_whyNot_42 : decode cX0_whyNot 42 = .ok (.iconst 2, 1) := by decide +kernel
theorem dX0_whyNot_43 : decode cX0_whyNot 43 = .ok (.ireturn, 1) := by decide +kernel
theorem dX0_whyNot_44 : decode cX0_whyNot 44 = .ok (.iload_n 2, 1) := by decide +kernel
theorem dX0_whyNot_45 : decode cX0_whyNot 45 = .ok (.aload_n 0, 1) := by decide +kernel
theorem dX0_whyNot_46 : decode cX0_whyNot 46 = .ok (.invokevirtual 126, 3) := by decide +kernel
theorem dX0_whyNot_49 : decode cX0_whyNot 49 = .ok (.iand, 1) := by decide +kernel
theorem dX0_whyNot_50 : decode cX0_whyNot 50 = .ok (.ifCond .eq 5, 3) := by decide +kernel
theorem dX0_whyNot_53 : decode cX0_whyNot 53 = .ok (.iconst 3, 1) := by decide +kernel
theorem dX0_whyNot_54 : decode cX0_whyNot 54 = .ok (.ireturn, 1) := by decide +kernel
theorem dX0_whyNot_55 : decode cX0_whyNot 55 = .ok (.aload_n 0, 1) := by decide +kernel
theorem dX0_whyNot_56 : decode cX0_whyNot 56 = .ok (.aload_n 0, 1) := by decide +kernel
theorem dX0_whyNot_57 : decode cX0_whyNot 57 = .ok (.getfield 29, 3) := by decide +kernel
theorem dX0_whyNot_60 : decode cX0_whyNot 60 = .ok (.iload_n 1, 1) := by decide +kernel
theorem dX0_whyNot_61 : decode cX0_whyNot 61 = .ok (.aaload, 1) := by decide +kernel
theorem dX0_whyNot_62 : decode cX0_whyNot 62 = .ok (.iload_n 3, 1) := by decide +kernel
theorem dX0_whyNot_63 : decode cX0_whyNot 63 = .ok (.invokevirtual 130, 3) := by decide +kernel
theorem dX0_whyNot_66 : decode cX0_whyNot 66 = .ok (.ifCond .ne 5, 3) := by decide +kernel
theorem dX0_whyNot_69 : decode cX0_whyNot 69 = .ok (.iconst 4, 1) := by decide +kernel
theorem dX0_whyNot_70 : decode cX0_whyNot 70 = .ok (.ireturn, 1) := by decide +kernel
theorem dX0_whyNot_71 : decode cX0_whyNot 71 = .ok (.aload_n 0, 1) := by decide +kernel
theorem dX0_whyNot_72 : decode cX0_whyNot 72 = .ok (.iload_n 2, 1) := by decide +kernel
theorem dX0_whyNot_73 : decode cX0_whyNot 73 = .ok (.invokevirtual 134, 3) := by decide +kernel
theorem dX0_whyNot_76 : decode cX0_whyNot 76 = .ok (.aload_n 0, 1) := by decide +kernel
theorem dX0_whyNot_77 : decode cX0_whyNot 77 = .ok (.aload_n 0, 1) := by decide +kernel
theorem dX0_whyNot_78 : decode cX0_whyNot 78 = .ok (.getfield 29, 3) := by decide +kernel
theorem dX0_whyNot_81 : decode cX0_whyNot 81 = .ok (.iload_n 1, 1) := by decide +kernel
theorem dX0_whyNot_82 : decode cX0_whyNot 82 = .ok (.aaload, 1) := by decide +kernel
theorem dX0_whyNot_83 : decode cX0_whyNot 83 = .ok (.iload_n 3, 1) := by decide +kernel
theorem dX0_whyNot_84 : decode cX0_whyNot 84 = .ok (.invokevirtual 137, 3) := by decide +kernel
theorem dX0_whyNot_87 : decode cX0_whyNot 87 = .ok (.if_icmp .ge 7, 3) := by decide +kernel
theorem dX0_whyNot_90 : decode cX0_whyNot 90 = .ok (.iconst 5, 1) := by decide +kernel
theorem dX0_whyNot_91 : decode cX0_whyNot 91 = .ok (.goto 4, 3) := by decide +kernel
theorem dX0_whyNot_94 : decode cX0_whyNot 94 = .ok (.iconst 0, 1) := by decide +kernel
theorem dX0_whyNot_95 : decode cX0_whyNot 95 = .ok (.ireturn, 1) := by decide +kernel
theorem dX0_strongestOutside_0 : decode cX0_strongestOutside 0 = .ok (.bipush (-6), 2) := by decide +kernel
theorem dX0_strongestOutside_2 : decode cX0_strongestOutside 2 = .ok (.istore_n 2, 1) := by decide +kernel
theorem dX0_strongestOutside_3 : decode cX0_strongestOutside 3 = .ok (.iconst (-1), 1) := by decide +kernel
theorem dX0_strongestOutside_4 : decode cX0_strongestOutside 4 = .ok (.istore_n 3, 1) := by decide +kernel
theorem dX0_strongestOutside_5 : decode cX0_strongestOutside 5 = .ok (.iconst 0, 1) := by decide +kernel
theorem dX0_strongestOutside_6 : decode cX0_strongestOutside 6 = .ok (.istore 4, 2) := by decide +kernel
theorem dX0_strongestOutside_8 : decode cX0_strongestOutside 8 = .ok (.iload 4, 2) := by decide +kernel
theorem dX0_strongestOutside_10 : decode cX0_strongestOutside 10 = .ok (.aload_n 0, 1) := by decide +kernel
theorem dX0_strongestOutside_11 : decode cX0_strongestOutside 11 = .ok (.getfield 41, 3) := by decide +kernel
theorem dX0_strongestOutside_14 : decode cX0_strongestOutside 14 = .ok (.if_icmp .ge 46, 3) := by decide +kernel
theorem dX0_strongestOutside_17 : decode cX0_strongestOutside 17 = .ok (.iload 4, 2) := by decide +kernel
theorem dX0_strongestOutside_19 : decode cX0_strongestOutside 19 = .ok (.iload_n 1, 1) := by decide +kernel
theorem dX0_strongestOutside_20 : decode cX0_strongestOutside 20 = .ok (.invokestatic 101, 3) := by decide +kernel
theorem dX0_strongestOutside_23 : decode cX0_strongestOutside 23 = .ok (.ifCond .ne 31, 3) := by decide +kernel
theorem dX0_strongestOutside_26 : decode cX0_strongestOutside 26 = .ok (.aload_n 0, 1) := by decide +kernel
theorem dX0_strongestOutside_27 : decode cX0_strongestOutside 27 = .ok (.getfield 23, 3) := by decide +kernel
theorem dX0_strongestOutside_30 : decode cX0_strongestOutside 30 = .ok (.iload 4, 2) := by decide +kernel
theorem dX0_strongestOutside_32 : decode cX0_strongestOutside 32 = .ok (.aaload, 1) := by decide +kernel
theorem dX0_strongestOutside_33 : decode cX0_strongestOutside 33 = .ok (.getfield 105, 3) := by decide +kernel
theorem dX0_strongestOutside_36 : decode cX0_strongestOutside 36 = .ok (.iload_n 3, 1) := by decide +kernel
theorem dX0_strongestOutside_37 : decode cX0_strongestOutside 37 = .ok (.if_icmp .le 17, 3) := by decide +kernel
theorem dX0_strongestOutside_40 : decode cX0_strongestOutside 40 = .ok (.iload 4, 2) := by decide +kernel
theorem dX0_strongestOutside_42 : decode cX0_strongestOutside 42 = .ok (.istore_n 2, 1) := by decide +kernel
theorem dX0_strongestOutside_43 : decode cX0_strongestOutside 43 = .ok (.aload_n 0, 1) := by decide +kernel
theorem dX0_strongestOutside_44 : decode cX0_strongestOutside 44 = .ok (.getfield 23, 3) := by decide +kernel
theorem dX0_strongestOutside_47 : decode cX0_strongestOutside 47 = .ok (.iload 4, 2) := by decide +kernel
theorem dX0_strongestOutside_49 : decode cX0_strongestOutside 49 = .ok (.aaload, 1) := by decide +kernel
theorem dX0_strongestOutside_50 : decode cX0_strongestOutside 50 = .ok (.getfield 105, 3) := by decide +kernel
theorem dX0_strongestOutside_53 : decode cX0_strongestOutside 53 = .ok (.istore_n 3, 1) := by decide +kernel
theorem dX0_strongestOutside_54 : decode cX0_strongestOutside 54 = .ok (.iinc 4 1, 3) := by decide +kernel
theorem dX0_strongestOutside_57 : decode cX0_strongestOutside 57 = .ok (.goto (-49), 3) := by decide +kernel
theorem dX0_strongestOutside_60 : decode cX0_strongestOutside 60 = .ok (.iload_n 2, 1) := by decide +kernel
theorem dX0_strongestOutside_61 : decode cX0_strongestOutside 61 = .ok (.ireturn, 1) := by decide +kernel
theorem dX0_crewByItself_0 : decode cX0_crewByItself 0 = .ok (.aload_n 0, 1) := by decide +kernel
theorem dX0_crewByItself_1 : decode cX0_crewByItself 1 = .ok (.aload_n 1, 1) := by decide +kernel
theorem dX0_crewByItself_2 : decode cX0_crewByItself 2 = .ok (.iload_n 2, 1) := by decide +kernel
theorem dX0_crewByItself_3 : decode cX0_crewByItself 3 = .ok (.invokevirtual 130, 3) := by decide +kernel
theorem dX0_crewByItself_6 : decode cX0_crewByItself 6 = .ok (.ifCond .ne 6, 3) := by decide +kernel
theorem dX0_crewByItself_9 : decode cX0_crewByItself 9 = .ok (.bipush (-6), 2) := by decide +kernel
theorem dX0_crewByItself_11 : decode cX0_crewByItself 11 = .ok (.ireturn, 1) := by decide +kernel
theorem dX0_crewByItself_12 : decode cX0_crewByItself 12 = .ok (.aload_n 0, 1) := by decide +kernel
theorem dX0_crewByItself_13 : decode cX0_crewByItself 13 = .ok (.aload_n 1, 1) := by decide +kernel
theorem dX0_crewByItself_14 : decode cX0_crewByItself 14 = .ok (.iload_n 2, 1) := by decide +kernel
theorem dX0_crewByItself_15 : decode cX0_crewByItself 15 = .ok (.invokevirtual 137, 3) := by decide +kernel
theorem dX0_crewByItself_18 : decode cX0_crewByItself 18 = .ok (.istore_n 3, 1) := by decide +kernel
theorem dX0_crewByItself_19 : decode cX0_crewByItself 19 = .ok (.aload_n 0, 1) := by decide +kernel
theorem dX0_crewByItself_20 : decode cX0_crewByItself 20 = .ok (.invokevirtual 126, 3) := by decide +kernel
theorem dX0_crewByItself_23 : decode cX0_crewByItself 23 = .ok (.istore 4, 2) := by decide +kernel
theorem dX0_crewByItself_25 : decode cX0_crewByItself 25 = .ok (.iconst 0, 1) := by decide +kernel
theorem dX0_crewByItself_26 : decode cX0_crewByItself 26 = .ok (.istore 5, 2) := by decide +kernel
theorem dX0_crewByItself_28 : decode cX0_crewByItself 28 = .ok (.iconst 0, 1) := by decide +kernel
theorem dX0_crewByItself_29 : decode cX0_crewByItself 29 = .ok (.istore 6, 2) := by decide +kernel
theorem dX0_crewByItself_31 : decode cX0_crewByItself 31 = .ok (.iconst 0, 1) := by decide +kernel
theorem dX0_crewByItself_32 : decode cX0_crewByItself 32 = .ok (.istore 7, 2) := by decide +kernel
theorem dX0_crewByItself_34 : decode cX0_crewByItself 34 = .ok (.iload 7, 2) := by decide +kernel
theorem dX0_crewByItself_36 : decode cX0_crewByItself 36 = .ok (.aload_n 0, 1) := by decide +kernel
theorem dX0_crewByItself_37 : decode cX0_crewByItself 37 = .ok (.getfield 9, 3) := by decide +kernel
theorem dX0_crewByItself_40 : decode cX0_crewByItself 40 = .ok (.iconst 3, 1) := by decide +kernel
theorem dX0_crewByItself_41 : decode cX0_crewByItself 41 = .ok (.iaload, 1) := by decide +kernel
theorem dX0_crewByItself_42 : decode cX0_crewByItself 42 = .ok (.if_icmp .ge 65, 3) := by decide +kernel
theorem dX0_crewByItself_45 : decode cX0_crewByItself 45 = .ok (.aload_n 0, 1) := by decide +kernel
theorem dX0_crewByItself_46 : decode cX0_crewByItself 46 = .ok (.iload 4, 2) := by decide +kernel
theorem dX0_crewByItself_48 : decode cX0_crewByItself 48 = .ok (.iload 5, 2) := by decide +kernel
theorem dX0_crewByItself_50 : decode cX0_crewByItself 50 = .ok (.ior, 1) := by decide +kernel
theorem dX0_crewByItself_51 : decode cX0_crewByItself 51 = .ok (.invokevirtual 141, 3) := by decide +kernel
theorem dX0_crewByItself_54 : decode cX0_crewByItself 54 = .ok (.istore 8, 2) := by decide +kernel
theorem dX0_crewByItself_56 : decode cX0_crewByItself 56 = .ok (.aload_n 0, 1) := by decide +kernel
theorem dX0_crewByItself_57 : decode cX0_crewByItself 57 = .ok (.iload 8, 2) := by decide +kernel
theorem dX0_crewByItself_59 : decode cX0_crewByItself 59 = .ok (.invokevirtual 144, 3) := by decide +kernel
theorem dX0_crewByItself_62 : decode cX0_crewByItself 62 = .ok (.ifCond .ne 6, 3) := by decide +kernel
theorem dX0_crewByItself_65 : decode cX0_crewByItself 65 = .ok (.bipush (-6), 2) := by decide +kernel
theorem dX0_crewByItself_67 : decode cX0_crewByItself 67 = .ok (.ireturn, 1) := by decide +kernel
theorem dX0_crewByItself_68 : decode cX0_crewByItself 68 = .ok (.iload 5, 2) := by decide +kernel
theorem dX0_crewByItself_70 : decode cX0_crewByItself 70 = .ok (.iconst 1, 1) := by decide +kernel
theorem dX0_crewByItself_71 : decode cX0_crewByItself 71 = .ok (.iload 8, 2) := by decide +kernel
theorem dX0_crewByItself_73 : decode cX0_crewByItself 73 = .ok (.ishl, 1) := by decide +kernel
theorem dX0_crewByItself_74 : decode cX0_crewByItself 74 = .ok (.ior, 1) := by decide +kernel
theorem dX0_crewByItself_75 : decode cX0_crewByItself 75 = .ok (.istore 5, 2) := by decide +kernel
theorem dX0_crewByItself_77 : decode cX0_crewByItself 77 = .ok (.iload 6, 2) := by decide +kernel
theorem dX0_crewByItself_79 : decode cX0_crewByItself 79 = .ok (.aload_n 0, 1) := by decide +kernel
theorem dX0_crewByItself_80 : decode cX0_crewByItself 80 = .ok (.getfield 23, 3) := by decide +kernel
theorem dX0_crewByItself_83 : decode cX0_crewByItself 83 = .ok (.iload 8, 2) := by decide +kernel
theorem dX0_crewByItself_85 : decode cX0_crewByItself 85 = .ok (.aaload, 1) := by decide +kernel
theorem dX0_crewByItself_86 : decode cX0_crewByItself 86 = .ok (.getfield 105, 3) := by decide +kernel
theorem dX0_crewByItself_89 : decode cX0_crewByItself 89 = .ok (.iadd, 1) := by decide +kernel
theorem dX0_crewByItself_90 : decode cX0_crewByItself 90 = .ok (.istore 6, 2) := by decide +kernel
theorem dX0_crewByItself_92 : decode cX0_crewByItself 92 = .ok (.iload 6, 2) := by decide +kernel
theorem dX0_crewByItself_94 : decode cX0_crewByItself 94 = .ok (.iload_n 3, 1) := by decide +kernel
theorem dX0_crewByItself_95 : decode cX0_crewByItself 95 = .ok (.if_icmp .lt 6, 3) := by decide +kernel
theorem dX0_crewByItself_98 : decode cX0_crewByItself 98 = .ok (.iload 5, 2) := by decide +kernel
theorem dX0_crewByItself_100 : decode cX0_crewByItself 100 = .ok (.ireturn, 1) := by decide +kernel
theorem dX0_crewByItself_101 : decode cX0_crewByItself 101 = .ok (.iinc 7 1, 3) := by decide +kernel
theorem dX0_crewByItself_104 : decode cX0_crewByItself 104 = .ok (.goto (-70), 3) := by decide +kernel
theorem dX0_crewByItself_107 : decode cX0_crewByItself 107 = .ok (.bipush (-6), 2) := by decide +kernel
theorem dX0_crewByItself_109 : decode cX0_crewByItself 109 = .ok (.ireturn, 1) := by decide +kernel
theorem dX0_fewestPeopleStraps_0 : decode cX0_fewestPeopleStraps 0 = .ok (.bipush (-6), 2) := by decide +kernel
theorem dX0_fewestPeopleStraps_2 : decode cX0_fewestPeopleStraps 2 = .ok (.istore_n 2, 1) := by decide +kernel
theorem dX0_fewestPeopleStraps_3 : decode cX0_fewestPeopleStraps 3 = .ok (.bipush 11, 2) := by decide +kernel
theorem dX0_fewestPeopleStraps_5 : decode cX0_fewestPeopleStraps 5 = .ok (.istore_n 3, 1) := by decide +kernel
theorem dX0_fewestPeopleStraps_6 : decode cX0_fewestPeopleStraps 6 = .ok (.aload_n 0, 1) := by decide +kernel
theorem dX0_fewestPeopleStraps_7 : decode cX0_fewestPeopleStraps 7 = .ok (.aload_n 1, 1) := by decide +kernel
theorem dX0_fewestPeopleStraps_8 : decode cX0_fewestPeopleStraps 8 = .ok (.bipush (-6), 2) := by decide +kernel
theorem dX0_fewestPeopleStraps_10 : decode cX0_fewestPeopleStraps 10 = .ok (.invokevirtual 147, 3) := by decide +kernel
theorem dX0_fewestPeopleStraps_13 : decode cX0_fewestPeopleStraps 13 = .ok (.istore 4, 2) := by decide +kernel
theorem dX0_fewestPeopleStraps_15 : decode cX0_fewestPeopleStraps 15 = .ok (.iload 4, 2) := by decide +kernel
theorem dX0_fewestPeopleStraps_17 : decode cX0_fewestPeopleStraps 17 = .ok (.bipush (-6), 2) := by decide +kernel
theorem dX0_fewestPeopleStraps_19 : decode cX0_fewestPeopleStraps 19 = .ok (.if_icmp .eq 11, 3) := by decide +kernel
theorem dX0_fewestPeopleStraps_22 : decode cX0_fewestPeopleStraps 22 = .ok (.iconst 3, 1) := by decide +kernel
theorem dX0_fewestPeopleStraps_23 : decode cX0_fewestPeopleStraps 23 = .ok (.istore_n 2, 1) := by decide +kernel
theorem dX0_fewestPeopleStraps_24 : decode cX0_fewestPeopleStraps 24 = .ok (.iload 4, 2) := by decide +kernel
theorem dX0_fewestPeopleStraps_26 : decode cX0_fewestPeopleStraps 26 = .ok (.invokestatic 108, 3) := by decide +kernel
theorem dX0_fewestPeopleStraps_29 : decode cX0_fewestPeopleStraps 29 = .ok (.istore_n 3, 1) := by decide +kernel
theorem dX0_fewestPeopleStraps_30 : decode cX0_fewestPeopleStraps 30 = .ok (.iconst 0, 1) := by decide +kernel
theorem dX0_fewestPeopleStraps_31 : decode cX0_fewestPeopleStraps 31 = .ok (.istore 5, 2) := by decide +kernel
theorem dX0_fewestPeopleStraps_33 : decode cX0_fewestPeopleStraps 33 = .ok (.iload 5, 2) := by decide +kernel
theorem dX0_fewestPeopleStraps_35 : decode cX0_fewestPeopleStraps 35 = .ok (.iconst 3, 1) := by decide +kernel
theorem dX0_fewestPeopleStraps_36 : decode cX0_fewestPeopleStraps 36 = .ok (.if_icmp .ge 43, 3) := by decide +kernel
theorem dX0_fewestPeopleStraps_39 : decode cX0_fewestPeopleStraps 39 = .ok (.aload_n 0, 1) := by decide +kernel
theorem dX0_fewestPeopleStraps_40 : decode cX0_fewestPeopleStraps 40 = .ok (.aload_n 1, 1) := by decide +kernel
theorem dX0_fewestPeopleStraps_41 : decode cX0_fewestPeopleStraps 41 = .ok (.iload 5, 2) := by decide +kernel
theorem dX0_fewestPeopleStraps_43 : decode cX0_fewestPeopleStraps 43 = .ok (.invokevirtual 147, 3) := by decide +kernel
theorem dX0_fewestPeopleStraps_46 : decode cX0_fewestPeopleStraps 46 = .ok (.istore 4, 2) := by decide +kernel
theorem dX0_fewestPeopleStraps_48 : decode cX0_fewestPeopleStraps 48 = .ok (.iload 4, 2) := by decide +kernel
theorem dX0_fewestPeopleStraps_50 : decode cX0_fewestPeopleStraps 50 = .ok (.bipush (-6), 2) := by decide +kernel
theorem dX0_fewestPeopleStraps_52 : decode cX0_fewestPeopleStraps 52 = .ok (.if_icmp .eq 21, 3) := by decide +kernel
theorem dX0_fewestPeopleStraps_55 : decode cX0_fewestPeopleStraps 55 = .ok (.iload 4, 2) := by decide +kernel
theorem dX0_fewestPeopleStraps_57 : decode cX0_fewestPeopleStraps 57 = .ok (.invokestatic 108, 3) := by decide +kernel
theorem dX0_fewestPeopleStraps_60 : decode cX0_fewestPeopleStraps 60 = .ok (.iload_n 3, 1) := by decide +kernel
theorem dX0_fewestPeopleStraps_61 : decode cX0_fewestPeopleStraps 61 = .ok (.if_icmp .ge 12, 3) := by decide +kernel
theorem dX0_fewestPeopleStraps_64 : decode cX0_fewestPeopleStraps 64 = .ok (.iload 5, 2) := by decide +kernel
theorem dX0_fewestPeopleStraps_66 : decode cX0_fewestPeopleStraps 66 = .ok (.istore_n 2, 1) := by decide +kernel
theorem dX0_fewestPeopleStraps_67 : decode cX0_fewestPeopleStraps 67 = .ok (.iload 4, 2) := by decide +kernel
theorem dX0_fewestPeopleStraps_69 : decode cX0_fewestPeopleStraps 69 = .ok (.invokestatic 108, 3) := by decide +kernel
theorem dX0_fewestPeopleStraps_72 : decode cX0_fewestPeopleStraps 72 = .ok (.istore_n 3, 1) := by decide +kernel
theorem dX0_fewestPeopleStraps_73 : decode cX0_fewestPeopleStraps 73 = .ok (.iinc 5 1, 3) := by decide +kernel
theorem dX0_fewestPeopleStraps_76 : decode cX0_fewestPeopleStraps 76 = .ok (.goto (-43), 3) := by decide +kernel
theorem dX0_fewestPeopleStraps_79 : decode cX0_fewestPeopleStraps 79 = .ok (.iload_n 2, 1) := by decide +kernel
theorem dX0_fewestPeopleStraps_80 : decode cX0_fewestPeopleStraps 80 = .ok (.ireturn, 1) := by decide +kernel
theorem dX0_beginJob_0 : decode cX0_beginJob 0 = .ok (.aload_n 0, 1) := by decide +kernel
theorem dX0_beginJob_1 : decode cX0_beginJob 1 = .ok (.iload_n 1, 1) := by decide +kernel
theorem dX0_beginJob_2 : decode cX0_beginJob 2 = .ok (.iload_n 2, 1) := by decide +kernel
theorem dX0_beginJob_3 : decode cX0_beginJob 3 = .ok (.iload_n 3, 1) := by decide +kernel
theorem dX0_beginJob_4 : decode cX0_beginJob 4 = .ok (.invokevirtual 150, 3) := by decide +kernel
theorem dX0_beginJob_7 : decode cX0_beginJob 7 = .ok (.istore 4, 2) := by decide +kernel
theorem dX0_beginJob_9 : decode cX0_beginJob 9 = .ok (.iload 4, 2) := by decide +kernel
theorem dX0_beginJob_11 : decode cX0_beginJob 11 = .ok (.ifCond .eq 16, 3) := by decide +kernel
theorem dX0_beginJob_14 : decode cX0_beginJob 14 = .ok (.iload 4, 2) := by decide +kernel
theorem dX0_beginJob_16 : decode cX0_beginJob 16 = .ok (.ifCond .ge 8, 3) := by decide +kernel
theorem dX0_beginJob_19 : decode cX0_beginJob 19 = .ok (.iload 4, 2) := by decide +kernel
theorem dX0_beginJob_21 : decode cX0_beginJob 21 = .ok (.goto 5, 3) := by decide +kernel
theorem dX0_beginJob_24 : decode cX0_beginJob 24 = .ok (.bipush (-5), 2) := by decide +kernel
theorem dX0_beginJob_26 : decode cX0_beginJob 26 = .ok (.ireturn, 1) := by decide +kernel
theorem dX0_beginJob_27 : decode cX0_beginJob 27 = .ok (.aload_n 0, 1) := by decide +kernel
theorem dX0_beginJob_28 : decode cX0_beginJob 28 = .ok (.getfield 29, 3) := by decide +kernel
theorem dX0_beginJob_31 : decode cX0_beginJob 31 = .ok (.iload_n 1, 1) := by decide +kernel
theorem dX0_beginJob_32 : decode cX0_beginJob 32 = .ok (.aaload, 1) := by decide +kernel
theorem dX0_beginJob_33 : decode cX0_beginJob 33 = .ok (.astore 5, 2) := by decide +kernel
theorem dX0_beginJob_35 : decode cX0_beginJob 35 = .ok (.aload 5, 2) := by decide +kernel
theorem dX0_beginJob_37 : decode cX0_beginJob 37 = .ok (.aload_n 0, 1) := by decide +kernel
theorem dX0_beginJob_38 : decode cX0_beginJob 38 = .ok (.aload 5, 2) := by decide +kernel
theorem dX0_beginJob_40 : decode cX0_beginJob 40 = .ok (.iload_n 3, 1) := by decide +kernel
theorem dX0_beginJob_41 : decode cX0_beginJob 41 = .ok (.invokevirtual 137, 3) := by decide +kernel
theorem dX0_beginJob_44 : decode cX0_beginJob 44 = .ok (.putfield 154, 3) := by decide +kernel
theorem dX0_beginJob_47 : decode cX0_beginJob 47 = .ok (.aload 5, 2) := by decide +kernel
theorem dX0_beginJob_49 : decode cX0_beginJob 49 = .ok (.iconst 1, 1) := by decide +kernel
theorem dX0_beginJob_50 : decode cX0_beginJob 50 = .ok (.putfield 120, 3) := by decide +kernel
theorem dX0_beginJob_53 : decode cX0_beginJob 53 = .ok (.aload 5, 2) := by decide +kernel
theorem dX0_beginJob_55 : decode cX0_beginJob 55 = .ok (.iload_n 2, 1) := by decide +kernel
theorem dX0_beginJob_56 : decode cX0_beginJob 56 = .ok (.putfield 157, 3) := by decide +kernel
theorem dX0_beginJob_59 : decode cX0_beginJob 59 = .ok (.aload 5, 2) := by decide +kernel
theorem dX0_beginJob_61 : decode cX0_beginJob 61 = .ok (.iload_n 3, 1) := by decide +kernel
theorem dX0_beginJob_62 : decode cX0_beginJob 62 = .ok (.putfield 160, 3) := by decide +kernel
theorem dX0_beginJob_65 : decode cX0_beginJob 65 = .ok (.iload_n 3, 1) := by decide +kernel
theorem dX0_beginJob_66 : decode cX0_beginJob 66 = .ok (.invokestatic 78, 3) := by decide +kernel
theorem dX0_beginJob_69 : decode cX0_beginJob 69 = .ok (.ifCond .eq 13, 3) := by decide +kernel
theorem dX0_beginJob_72 : decode cX0_beginJob 72 = .ok (.aload_n 0, 1) := by decide +kernel
theorem dX0_beginJob_73 : decode cX0_beginJob 73 = .ok (.getfield 18, 3) := by decide +kernel
theorem dX0_beginJob_76 : decode cX0_beginJob 76 = .ok (.iload_n 3, 1) := by decide +kernel
theorem dX0_beginJob_77 : decode cX0_beginJob 77 = .ok (.dup2, 1) := by decide +kernel
theorem dX0_beginJob_78 : decode cX0_beginJob 78 = .ok (.iaload, 1) := by decide +kernel
theorem dX0_beginJob_79 : decode cX0_beginJob 79 = .ok (.iconst 1, 1) := by decide +kernel
theorem dX0_beginJob_80 : decode cX0_beginJob 80 = .ok (.isub, 1) := by decide +kernel
theorem dX0_beginJob_81 : decode cX0_beginJob 81 = .ok (.iastore, 1) := by decide +kernel
theorem dX0_beginJob_82 : decode cX0_beginJob 82 = .ok (.aload_n 0, 1) := by decide +kernel
theorem dX0_beginJob_83 : decode cX0_beginJob 83 = .ok (.iload_n 2, 1) := by decide +kernel
theorem dX0_beginJob_84 : decode cX0_beginJob 84 = .ok (.iload_n 1, 1) := by decide +kernel
theorem dX0_beginJob_85 : decode cX0_beginJob 85 = .ok (.invokevirtual 163, 3) := by decide +kernel
theorem dX0_beginJob_88 : decode cX0_beginJob 88 = .ok (.aload 5, 2) := by decide +kernel
theorem dX0_beginJob_90 : decode cX0_beginJob 90 = .ok (.getfield 154, 3) := by decide +kernel
theorem dX0_beginJob_93 : decode cX0_beginJob 93 = .ok (.ireturn, 1) := by decide +kernel
theorem dX0_placeCrew_0 : decode cX0_placeCrew 0 = .ok (.iconst 0, 1) := by decide +kernel
theorem dX0_placeCrew_1 : decode cX0_placeCrew 1 = .ok (.istore_n 3, 1) := by decide +kernel
theorem dX0_placeCrew_2 : decode cX0_placeCrew 2 = .ok (.iload_n 3, 1) := by decide +kernel
theorem dX0_placeCrew_3 : decode cX0_placeCrew 3 = .ok (.aload_n 0, 1) := by decide +kernel
theorem dX0_placeCrew_4 : decode cX0_placeCrew 4 = .ok (.getfield 41, 3) := by decide +kernel
theorem dX0_placeCrew_7 : decode cX0_placeCrew 7 = .ok (.if_icmp .ge 27, 3) := by decide +kernel
theorem dX0_placeCrew_10 : decode cX0_placeCrew 10 = .ok (.iload_n 3, 1) := by decide +kernel
theorem dX0_placeCrew_11 : decode cX0_placeCrew 11 = .ok (.iload_n 1, 1) := by decide +kernel
theorem dX0_placeCrew_12 : decode cX0_placeCrew 12 = .ok (.invokestatic 101, 3) := by decide +kernel
theorem dX0_placeCrew_15 : decode cX0_placeCrew 15 = .ok (.ifCond .eq 13, 3) := by decide +kernel
theorem dX0_placeCrew_18 : decode cX0_placeCrew 18 = .ok (.aload_n 0, 1) := by decide +kernel
theorem dX0_placeCrew_19 : decode cX0_placeCrew 19 = .ok (.getfield 23, 3) := by decide +kernel
theorem dX0_placeCrew_22 : decode cX0_placeCrew 22 = .ok (.iload_n 3, 1) := by decide +kernel
theorem dX0_placeCrew_23 : decode cX0_placeCrew 23 = .ok (.aaload, 1) := by decide +kernel
theorem dX0_placeCrew_24 : decode cX0_placeCrew 24 = .ok (.iload_n 2, 1) := by decide +kernel
theorem dX0_placeCrew_25 : decode cX0_placeCrew 25 = .ok (.putfield 98, 3) := by decide +kernel
theorem dX0_placeCrew_28 : decode cX0_placeCrew 28 = .ok (.iinc 3 1, 3) := by decide +kernel
theorem dX0_placeCrew_31 : decode cX0_placeCrew 31 = .ok (.goto (-29), 3) := by decide +kernel
theorem dX0_placeCrew_34 : decode cX0_placeCrew 34 = .ok (.return_, 1) := by decide +kernel
theorem dX0_assignJobs_0 : decode cX0_assignJobs 0 = .ok (.iconst 0, 1) := by decide +kernel
theorem dX0_assignJobs_1 : decode cX0_assignJobs 1 = .ok (.istore_n 1, 1) := by decide +kernel
theorem dX0_assignJobs_2 : decode cX0_assignJobs 2 = .ok (.aload_n 0, 1) := by decide +kernel
theorem dX0_assignJobs_3 : decode cX0_assignJobs 3 = .ok (.iconst (-1), 1) := by decide +kernel
theorem dX0_assignJobs_4 : decode cX0_assignJobs 4 = .ok (.invokevirtual 167, 3) := by decide +kernel
theorem dX0_assignJobs_7 : decode cX0_assignJobs 7 = .ok (.istore_n 2, 1) := by decide +kernel
theorem dX0_assignJobs_8 : decode cX0_assignJobs 8 = .ok (.iconst 0, 1) := by decide +kernel
theorem dX0_assignJobs_9 : decode cX0_assignJobs 9 = .ok (.istore_n 3, 1) := by decide +kernel
theorem dX0_assignJobs_10 : decode cX0_assignJobs 10 = .ok (.iload_n 3, 1) := by decide +kernel
theorem dX0_assignJobs_11 : decode cX0_assignJobs 11 = .ok (.bipush 16, 2) := by decide +kernel
theorem dX0_assignJobs_13 : decode cX0_assignJobs 13 = .ok (.if_icmp .ge 87, 3) := by decide +kernel
theorem dX0_assignJobs_16 : decode cX0_assignJobs 16 = .ok (.aload_n 0, 1) := by decide +kernel
theorem dX0_assignJobs_17 : decode cX0_assignJobs 17 = .ok (.iload_n 2, 1) := by decide +kernel
theorem dX0_assignJobs_18 : decode cX0_assignJobs 18 = .ok (.invokevirtual 114, 3) := by decide +kernel
theorem dX0_assignJobs_21 : decode cX0_assignJobs 21 = .ok (.ifCond .eq 79, 3) := by decide +kernel
theorem dX0_assignJobs_24 : decode cX0_assignJobs 24 = .ok (.aload_n 0, 1) := by decide +kernel
theorem dX0_assignJobs_25 : decode cX0_assignJobs 25 = .ok (.aload_n 0, 1) := by decide +kernel
theorem dX0_assignJobs_26 : decode cX0_assignJobs 26 = .ok (.getfield 29, 3) := by decide +kernel
theorem dX0_assignJobs_29 : decode cX0_assignJobs 29 = .ok (.iload_n 2, 1) := by decide +kernel
theorem dX0_assignJobs_30 : decode cX0_assignJobs 30 = .ok (.aaload, 1) := by decide +kernel
theorem dX0_assignJobs_31 : decode cX0_assignJobs 31 = .ok (.invokevirtual 170, 3) := by decide +kernel
theorem dX0_assignJobs_34 : decode cX0_assignJobs 34 = .ok (.istore 4, 2) := by decide +kernel
theorem dX0_assignJobs_36 : decode cX0_assignJobs 36 = .ok (.iload 4, 2) := by decide +kernel
theorem dX0_assignJobs_38 : decode cX0_assignJobs 38 = .ok (.invokestatic 78, 3) := by decide +kernel
theorem dX0_assignJobs_41 : decode cX0_assignJobs 41 = .ok (.ifCond .eq 8, 3) := by decide +kernel
theorem dX0_assignJobs_44 : decode cX0_assignJobs 44 = .ok (.iload 4, 2) := by decide +kernel
theorem dX0_assignJobs_46 : decode cX0_assignJobs 46 = .ok (.goto 5, 3) := by decide +kernel
theorem dX0_assignJobs_49 : decode cX0_assignJobs 49 = .ok (.bipush (-6), 2) := by decide +kernel
theorem dX0_assignJobs_51 : decode cX0_assignJobs 51 = .ok (.istore 5, 2) := by decide +kernel
theorem dX0_assignJobs_53 : decode cX0_assignJobs 53 = .ok (.iload 4, 2) := by decide +kernel
theorem dX0_assignJobs_55 : decode cX0_assignJobs 55 = .ok (.bipush (-6), 2) := by decide +kernel
theorem dX0_assignJobs_57 : decode cX0_assignJobs 57 = .ok (.if_icmp .eq 31, 3) := by decide +kernel
theorem dX0_assignJobs_60 : decode cX0_assignJobs 60 = .ok (.aload_n 0, 1) := by decide +kernel
theorem dX0_assignJobs_61 : decode cX0_assignJobs 61 = .ok (.iload_n 2, 1) := by decide +kernel
theorem dX0_assignJobs_62 : decode cX0_assignJobs 62 = .ok (.aload_n 0, 1) := by decide +kernel
theorem dX0_assignJobs_63 : decode cX0_assignJobs 63 = .ok (.aload_n 0, 1) := by decide +kernel
theorem dX0_assignJobs_64 : decode cX0_assignJobs 64 = .ok (.getfield 29, 3) := by decide +kernel
theorem dX0_assignJobs_67 : decode cX0_assignJobs 67 = .ok (.iload_n 2, 1) := by decide +kernel
theorem dX0_assignJobs_68 : decode cX0_assignJobs 68 = .ok (.aaload, 1) := by decide +kernel
theorem dX0_assignJobs_69 : decode cX0_assignJobs 69 = .ok (.iload 5, 2) := by decide +kernel
theorem dX0_assignJobs_71 : decode cX0_assignJobs 71 = .ok (.invokevirtual 147, 3) := by decide +kernel
theorem dX0_assignJobs_74 : decode cX0_assignJobs 74 = .ok (.iload 5, 2) := by decide +kernel
theorem dX0_assignJobs_76 : decode cX0_assignJobs 76 = .ok (.invokevirtual 173, 3) := by decide +kernel
theorem dX0_assignJobs_79 : decode cX0_assignJobs 79 = .ok (.ifCond .lt 9, 3) := by decide +kernel
theorem dX0_assignJobs_82 : decode cX0_assignJobs 82 = .ok (.iload_n 1, 1) := by decide +kernel
theorem dX0_assignJobs_83 : decode cX0_assignJobs 83 = .ok (.iconst 1, 1) := by decide +kernel
theorem dX0_assignJobs_84 : decode cX0_assignJobs 84 = .ok (.iload_n 2, 1) := by decide +kernel
theorem dX0_assignJobs_85 : decode cX0_assignJobs 85 = .ok (.ishl, 1) := by decide +kernel
theorem dX0_assignJobs_86 : decode cX0_assignJobs 86 = .ok (.ior, 1) := by decide +kernel
theorem dX0_assignJobs_87 : decode cX0_assignJobs 87 = .ok (.istore_n 1, 1) := by decide +kernel
theorem dX0_assignJobs_88 : decode cX0_assignJobs 88 = .ok (.aload_n 0, 1) := by decide +kernel
theorem dX0_assignJobs_89 : decode cX0_assignJobs 89 = .ok (.iload_n 2, 1) := by decide +kernel
theorem dX0_assignJobs_90 : decode cX0_assignJobs 90 = .ok (.invokevirtual 167, 3) := by decide +kernel
theorem dX0_assignJobs_93 : decode cX0_assignJobs 93 = .ok (.istore_n 2, 1) := by decide +kernel
theorem dX0_assignJobs_94 : decode cX0_assignJobs 94 = .ok (.iinc 3 1, 3) := by decide +kernel
theorem dX0_assignJobs_97 : decode cX0_assignJobs 97 = .ok (.goto (-87), 3) := by decide +kernel
theorem dX0_assignJobs_100 : decode cX0_assignJobs 100 = .ok (.iload_n 1, 1) := by decide +kernel
theorem dX0_assignJobs_101 : decode cX0_assignJobs 101 = .ok (.ireturn, 1) := by decide +kernel
theorem dX0_isAhead_0 : decode cX0_isAhead 0 = .ok (.iload_n 1, 1) := by decide +kernel
theorem dX0_isAhead_1 : decode cX0_isAhead 1 = .ok (.iload_n 2, 1) := by decide +kernel
theorem dX0_isAhead_2 : decode cX0_isAhead 2 = .ok (.if_icmp .ge 21, 3) := by decide +kernel
theorem dX0_isAhead_5 : decode cX0_isAhead 5 = .ok (.aload_n 0, 1) := by decide +kernel
theorem dX0_isAhead_6 : decode cX0_isAhead 6 = .ok (.getfield 29, 3) := by decide +kernel
theorem dX0_isAhead_9 : decode cX0_isAhead 9 = .ok (.iload_n 1, 1) := by decide +kernel
theorem dX0_isAhead_10 : decode cX0_isAhead 10 = .ok (.aaload, 1) := by decide +kernel
theorem dX0_isAhead_11 : decode cX0_isAhead 11 = .ok (.aload_n 0, 1) := by decide +kernel
theorem dX0_isAhead_12 : decode cX0_isAhead 12 = .ok (.getfield 29, 3) := by decide +kernel
theorem dX0_isAhead_15 : decode cX0_isAhead 15 = .ok (.iload_n 2, 1) := by decide +kernel
theorem dX0_isAhead_16 : decode cX0_isAhead 16 = .ok (.aaload, 1) := by decide +kernel
theorem dX0_isAhead_17 : decode cX0_isAhead 17 = .ok (.invokevirtual 176, 3) := by decide +kernel
theorem dX0_isAhead_20 : decode cX0_isAhead 20 = .ok (.goto 26, 3) := by decide +kernel
theorem dX0_isAhead_23 : decode cX0_isAhead 23 = .ok (.aload_n 0, 1) := by decide +kernel
theorem dX0_isAhead_24 : decode cX0_isAhead 24 = .ok (.getfield 29, 3) := by decide +kernel
theorem dX0_isAhead_27 : decode cX0_isAhead 27 = .ok (.iload_n 2, 1) := by decide +kernel
theorem dX0_isAhead_28 : decode cX0_isAhead 28 = .ok (.aaload, 1) := by decide +kernel
theorem dX0_isAhead_29 : decode cX0_isAhead 29 = .ok (.aload_n 0, 1) := by decide +kernel
theorem dX0_isAhead_30 : decode cX0_isAhead 30 = .ok (.getfield 29, 3) := by decide +kernel
theorem dX0_isAhead_33 : decode cX0_isAhead 33 = .ok (.iload_n 1, 1) := by decide +kernel
theorem dX0_isAhead_34 : decode cX0_isAhead 34 = .ok (.aaload, 1) := by decide +kernel
theorem dX0_isAhead_35 : decode cX0_isAhead 35 = .ok (.invokevirtual 176, 3) := by decide +kernel
theorem dX0_isAhead_38 : decode cX0_isAhead 38 = .ok (.ifCond .ne 7, 3) := by decide +kernel
theorem dX0_isAhead_41 : decode cX0_isAhead 41 = .ok (.iconst 1, 1) := by decide +kernel
theorem dX0_isAhead_42 : decode cX0_isAhead 42 = .ok (.goto 4, 3) := by decide +kernel
theorem dX0_isAhead_45 : decode cX0_isAhead 45 = .ok (.iconst 0, 1) := by decide +kernel
theorem dX0_isAhead_46 : decode cX0_isAhead 46 = .ok (.ireturn, 1) := by decide +kernel
theorem dX0_nextWaiting_0 : decode cX0_nextWaiting 0 = .ok (.iconst (-1), 1) := by decide +kernel
theorem dX0_nextWaiting_1 : decode cX0_nextWaiting 1 = .ok (.istore_n 2, 1) := by decide +kernel
theorem dX0_nextWaiting_2 : decode cX0_nextWaiting 2 = .ok (.iconst 0, 1) := by decide +kernel
theorem dX0_nextWaiting_3 : decode cX0_nextWaiting 3 = .ok (.istore_n 3, 1) := by decide +kernel
theorem dX0_nextWaiting_4 : decode cX0_nextWaiting 4 = .ok (.iload_n 3, 1) := by decide +kernel
theorem dX0_nextWaiting_5 : decode cX0_nextWaiting 5 = .ok (.aload_n 0, 1) := by decide +kernel
theorem dX0_nextWaiting_6 : decode cX0_nextWaiting 6 = .ok (.getfield 45, 3) := by decide +kernel
theorem dX0_nextWaiting_9 : decode cX0_nextWaiting 9 = .ok (.if_icmp .ge 74, 3) := by decide +kernel
theorem dX0_nextWaiting_12 : decode cX0_nextWaiting 12 = .ok (.aload_n 0, 1) := by decide +kernel
theorem dX0_nextWaiting_13 : decode cX0_nextWaiting 13 = .ok (.iload_n 1, 1) := by decide +kernel
theorem dX0_nextWaiting_14 : decode cX0_nextWaiting 14 = .ok (.invokevirtual 114, 3) := by decide +kernel
theorem dX0_nextWaiting_17 : decode cX0_nextWaiting 17 = .ok (.ifCond .eq 17, 3) := by decide +kernel
theorem dX0_nextWaiting_20 : decode cX0_nextWaiting 20 = .ok (.iload_n 3, 1) := by decide +kernel
theorem dX0_nextWaiting_21 : decode cX0_nextWaiting 21 = .ok (.iload_n 1, 1) := by decide +kernel
theorem dX0_nextWaiting_22 : decode cX0_nextWaiting 22 = .ok (.if_icmp .eq 16, 3) := by decide +kernel
theorem dX0_nextWaiting_25 : decode cX0_nextWaiting 25 = .ok (.aload_n 0, 1) := by decide +kernel
theorem dX0_nextWaiting_26 : decode cX0_nextWaiting 26 = .ok (.iload_n 1, 1) := by decide +kernel
theorem dX0_nextWaiting_27 : decode cX0_nextWaiting 27 = .ok (.iload_n 3, 1) := by decide +kernel
theorem dX0_nextWaiting_28 : decode cX0_nextWaiting 28 = .ok (.invokevirtual 180, 3) := by decide +kernel
theorem dX0_nextWaiting_31 : decode cX0_nextWaiting 31 = .ok (.ifCond .eq 7, 3) := by decide +kernel
theorem dX0_nextWaiting_34 : decode cX0_nextWaiting 34 = .ok (.iconst 1, 1) := by decide +kernel
theorem dX0_nextWaiting_35 : decode cX0_nextWaiting 35 = .ok (.goto 4, 3) := by decide +kernel
theorem dX0_nextWaiting_38 : decode cX0_nextWaiting 38 = .ok (.iconst 0, 1) := by decide +kernel
theorem dX0_nextWaiting_39 : decode cX0_nextWaiting 39 = .ok (.istore 4, 2) := by decide +kernel
theorem dX0_nextWaiting_41 : decode cX0_nextWaiting 41 = .ok (.aload_n 0, 1) := by decide +kernel
theorem dX0_nextWaiting_42 : decode cX0_nextWaiting 42 = .ok (.getfield 29, 3) := by decide +kernel
theorem dX0_nextWaiting_45 : decode cX0_nextWaiting 45 = .ok (.iload_n 3, 1) := by decide +kernel
theorem dX0_nextWaiting_46 : decode cX0_nextWaiting 46 = .ok (.aaload, 1) := by decide +kernel
theorem dX0_nextWaiting_47 : decode cX0_nextWaiting 47 = .ok (.getfield 120, 3) := by decide +kernel
theorem dX0_nextWaiting_50 : decode cX0_nextWaiting 50 = .ok (.ifCond .ne 27, 3) := by decide +kernel
theorem dX0_nextWaiting_53 : decode cX0_nextWaiting 53 = .ok (.iload 4, 2) := by decide +kernel
theorem dX0_nextWaiting_55 : decode cX0_nextWaiting 55 = .ok (.ifCond .eq 22, 3) := by decide +kernel
theorem dX0_nextWaiting_58 : decode cX0_nextWaiting 58 = .ok (.aload_n 0, 1) := by decide +kernel
theorem dX0_nextWaiting_59 : decode cX0_nextWaiting 59 = .ok (.iload_n 2, 1) := by decide +kernel
theorem dX0_nextWaiting_60 : decode cX0_nextWaiting 60 = .ok (.invokevirtual 114, 3) := by decide +kernel
theorem dX0_nextWaiting_63 : decode cX0_nextWaiting 63 = .ok (.ifCond .eq 12, 3) := by decide +kernel
theorem dX0_nextWaiting_66 : decode cX0_nextWaiting 66 = .ok (.aload_n 0, 1) := by decide +kernel
theorem dX0_nextWaiting_67 : decode cX0_nextWaiting 67 = .ok (.iload_n 3, 1) := by decide +kernel
theorem dX0_nextWaiting_68 : decode cX0_nextWaiting 68 = .ok (.iload_n 2, 1) := by decide +kernel
theorem dX0_nextWaiting_69 : decode cX0_nextWaiting 69 = .ok (.invokevirtual 180, 3) := by decide +kernel
theorem dX0_nextWaiting_72 : decode cX0_nextWaiting 72 = .ok (.ifCond .eq 5, 3) := by decide +kernel
theorem dX0_nextWaiting_75 : decode cX0_nextWaiting 75 = .ok (.iload_n 3, 1) := by decide +kernel
theorem dX0_nextWaiting_76 : decode cX0_nextWaiting 76 = .ok (.istore_n 2, 1) := by decide +kernel
theorem dX0_nextWaiting_77 : decode cX0_nextWaiting 77 = .ok (.iinc 3 1, 3) := by decide +kernel
theorem dX0_nextWaiting_80 : decode cX0_nextWaiting 80 = .ok (.goto (-76), 3) := by decide +kernel
theorem dX0_nextWaiting_83 : decode cX0_nextWaiting 83 = .ok (.iload_n 2, 1) := by decide +kernel
theorem dX0_nextWaiting_84 : decode cX0_nextWaiting 84 = .ok (.ireturn, 1) := by decide +kernel
theorem dX0_delayJob_0 : decode cX0_delayJob 0 = .ok (.aload_n 0, 1) := by decide +kernel
theorem dX0_delayJob_1 : decode cX0_delayJob 1 = .ok (.iload_n 1, 1) := by decide +kernel
theorem dX0_delayJob_2 : decode cX0_delayJob 2 = .ok (.invokevirtual 114, 3) := by decide +kernel
theorem dX0_delayJob_5 : decode cX0_delayJob 5 = .ok (.ifCond .ne 5, 3) := by decide +kernel
theorem dX0_delayJob_8 : decode cX0_delayJob 8 = .ok (.iconst (-1), 1) := by decide +kernel
theorem dX0_delayJob_9 : decode cX0_delayJob 9 = .ok (.ireturn, 1) := by decide +kernel
theorem dX0_delayJob_10 : decode cX0_delayJob 10 = .ok (.iload_n 2, 1) := by decide +kernel
theorem dX0_delayJob_11 : decode cX0_delayJob 11 = .ok (.iconst 1, 1) := by decide +kernel
theorem dX0_delayJob_12 : decode cX0_delayJob 12 = .ok (.bipush 20, 2) := by decide +kernel
theorem dX0_delayJob_14 : decode cX0_delayJob 14 = .ok (.invokestatic 64, 3) := by decide +kernel
theorem dX0_delayJob_17 : decode cX0_delayJob 17 = .ok (.ifCond .ne 6, 3) := by decide +kernel
theorem dX0_delayJob_20 : decode cX0_delayJob 20 = .ok (.bipush (-2), 2) := by decide +kernel
theorem dX0_delayJob_22 : decode cX0_delayJob 22 = .ok (.ireturn, 1) := by decide +kernel
theorem dX0_delayJob_23 : decode cX0_delayJob 23 = .ok (.aload_n 0, 1) := by decide +kernel
theorem dX0_delayJob_24 : decode cX0_delayJob 24 = .ok (.getfield 29, 3) := by decide +kernel
theorem dX0_delayJob_27 : decode cX0_delayJob 27 = .ok (.iload_n 1, 1) := by decide +kernel
theorem dX0_delayJob_28 : decode cX0_delayJob 28 = .ok (.aaload, 1) := by decide +kernel
theorem dX0_delayJob_29 : decode cX0_delayJob 29 = .ok (.getfield 120, 3) := by decide +kernel
theorem dX0_delayJob_32 : decode cX0_delayJob 32 = .ok (.iconst 1, 1) := by decide +kernel
theorem dX0_delayJob_33 : decode cX0_delayJob 33 = .ok (.if_icmp .ne 19, 3) := by decide +kernel
theorem dX0_delayJob_36 : decode cX0_delayJob 36 = .ok (.aload_n 0, 1) := by decide +kernel
theorem dX0_delayJob_37 : decode cX0_delayJob 37 = .ok (.getfield 29, 3) := by decide +kernel
theorem dX0_delayJob_40 : decode cX0_delayJob 40 = .ok (.iload_n 1, 1) := by decide +kernel
theorem dX0_delayJob_41 : decode cX0_delayJob 41 = .ok (.aaload, 1) := by decide +kernel
theorem dX0_delayJob_42 : decode cX0_delayJob 42 = .ok (.getfield 183, 3) := by decide +kernel
theorem dX0_delayJob_45 : decode cX0_delayJob 45 = .ok (.iload_n 2, 1) := by decide +kernel
theorem dX0_delayJob_46 : decode cX0_delayJob 46 = .ok (.iadd, 1) := by decide +kernel
theorem dX0_delayJob_47 : decode cX0_delayJob 47 = .ok (.bipush 60, 2) := by decide +kernel
theorem dX0_delayJob_49 : decode cX0_delayJob 49 = .ok (.if_icmp .le 6, 3) := by decide +kernel
theorem dX0_delayJob_52 : decode cX0_delayJob 52 = .ok (.bipush (-5), 2) := by decide +kernel
theorem dX0_delayJob_54 : decode cX0_delayJob 54 = .ok (.ireturn, 1) := by decide +kernel
theorem dX0_delayJob_55 : decode cX0_delayJob 55 = .ok (.aload_n 0, 1) := by decide +kernel
theorem dX0_delayJob_56 : decode cX0_delayJob 56 = .ok (.getfield 29, 3) := by decide +kernel
theorem dX0_delayJob_59 : decode cX0_delayJob 59 = .ok (.iload_n 1, 1) := by decide +kernel
theorem dX0_delayJob_60 : decode cX0_delayJob 60 = .ok (.aaload, 1) := by decide +kernel
theorem dX0_delayJob_61 : decode cX0_delayJob 61 = .ok (.dup, 1) := by decide +kernel
theorem dX0_delayJob_62 : decode cX0_delayJob 62 = .ok (.getfield 183, 3) := by decide +kernel
theorem dX0_delayJob_65 : decode cX0_delayJob 65 = .ok (.iload_n 2, 1) := by decide +kernel
theorem dX0_delayJob_66 : decode cX0_delayJob 66 = .ok (.iadd, 1) := by decide +kernel
theorem dX0_delayJob_67 : decode cX0_delayJob 67 = .ok (.putfield 183, 3) := by decide +kernel
theorem dX0_delayJob_70 : decode cX0_delayJob 70 = .ok (.aload_n 0, 1) := by decide +kernel
theorem dX0_delayJob_71 : decode cX0_delayJob 71 = .ok (.getfield 29, 3) := by decide +kernel
theorem dX0_delayJob_74 : decode cX0_delayJob 74 = .ok (.iload_n 1, 1) := by decide +kernel
theorem dX0_delayJob_75 : decode cX0_delayJob 75 = .ok (.aaload, 1) := by decide +kernel
theorem dX0_delayJob_76 : decode cX0_delayJob 76 = .ok (.getfield 183, 3) := by decide +kernel
theorem dX0_delayJob_79 : decode cX0_delayJob 79 = .ok (.ireturn, 1) := by decide +kernel
theorem dX0_callOffJob_0 : decode cX0_callOffJob 0 = .ok (.aload_n 0, 1) := by decide +kernel
theorem dX0_callOffJob_1 : decode cX0_callOffJob 1 = .ok (.iload_n 1, 1) := by decide +kernel
theorem dX0_callOffJob_2 : decode cX0_callOffJob 2 = .ok (.invokevirtual 114, 3) := by decide +kernel
theorem dX0_callOffJob_5 : decode cX0_callOffJob 5 = .ok (.ifCond .ne 5, 3) := by decide +kernel
theorem dX0_callOffJob_8 : decode cX0_callOffJob 8 = .ok (.iconst (-1), 1) := by decide +kernel
theorem dX0_callOffJob_9 : decode cX0_callOffJob 9 = .ok (.ireturn, 1) := by decide +kernel
theorem dX0_callOffJob_10 : decode cX0_callOffJob 10 = .ok (.aload_n 0, 1) := by decide +kernel
theorem dX0_callOffJob_11 : decode cX0_callOffJob 11 = .ok (.getfield 29, 3) := by decide +kernel
theorem dX0_callOffJob_14 : decode cX0_callOffJob 14 = .ok (.iload_n 1, 1) := by decide +kernel
theorem dX0_callOffJob_15 : decode cX0_callOffJob 15 = .ok (.aaload, 1) := by decide +kernel
theorem dX0_callOffJob_16 : decode cX0_callOffJob 16 = .ok (.astore_n 2, 1) := by decide +kernel
theorem dX0_callOffJob_17 : decode cX0_callOffJob 17 = .ok (.aload_n 2, 1) := by decide +kernel
theorem dX0_callOffJob_18 : decode cX0_callOffJob 18 = .ok (.getfield 120, 3) := by decide +kernel
theorem dX0_callOffJob_21 : decode cX0_callOffJob 21 = .ok (.ifCond .eq 14, 3) := by decide +kernel
theorem dX0_callOffJob_24 : decode cX0_callOffJob 24 = .ok (.aload_n 2, 1) := by decide +kernel
theorem dX0_callOffJob_25 : decode cX0_callOffJob 25 = .ok (.getfield 120, 3) := by decide +kernel
theorem dX0_callOffJob_28 : decode cX0_callOffJob 28 = .ok (.iconst 1, 1) := by decide +kernel
theorem dX0_callOffJob_29 : decode cX0_callOffJob 29 = .ok (.if_icmp .eq 6, 3) := by decide +kernel
theorem dX0_callOffJob_32 : decode cX0_callOffJob 32 = .ok (.bipush (-5), 2) := by decide +kernel
theorem dX0_callOffJob_34 : decode cX0_callOffJob 34 = .ok (.ireturn, 1) := by decide +kernel
theorem dX0_callOffJob_35 : decode cX0_callOffJob 35 = .ok (.aload_n 0, 1) := by decide +kernel
theorem dX0_callOffJob_36 : decode cX0_callOffJob 36 = .ok (.aload_n 2, 1) := by decide +kernel
theorem dX0_callOffJob_37 : decode cX0_callOffJob 37 = .ok (.iconst 3, 1) := by decide +kernel
theorem dX0_callOffJob_38 : decode cX0_callOffJob 38 = .ok (.invokevirtual 186, 3) := by decide +kernel
theorem dX0_callOffJob_41 : decode cX0_callOffJob 41 = .ok (.aload_n 2, 1) := by decide +kernel
theorem dX0_callOffJob_42 : decode cX0_callOffJob 42 = .ok (.getfield 157, 3) := by decide +kernel
theorem dX0_callOffJob_45 : decode cX0_callOffJob 45 = .ok (.ireturn, 1) := by decide +kernel
theorem dX0_endJob_0 : decode cX0_endJob 0 = .ok (.aload_n 1, 1) := by decide +kernel
theorem dX0_endJob_1 : decode cX0_endJob 1 = .ok (.getfield 120, 3) := by decide +kernel
theorem dX0_endJob_4 : decode cX0_endJob 4 = .ok (.iconst 1, 1) := by decide +kernel
theorem dX0_endJob_5 : decode cX0_endJob 5 = .ok (.if_icmp .ne 36, 3) := by decide +kernel
theorem dX0_endJob_8 : decode cX0_endJob 8 = .ok (.aload_n 0, 1) := by decide +kernel
theorem dX0_endJob_9 : decode cX0_endJob 9 = .ok (.aload_n 1, 1) := by decide +kernel
theorem dX0_endJob_10 : decode cX0_endJob 10 = .ok (.getfield 157, 3) := by decide +kernel
theorem dX0_endJob_13 : decode cX0_endJob 13 = .ok (.bipush (-6), 2) := by decide +kernel
theorem dX0_endJob_15 : decode cX0_endJob 15 = .ok (.invokevirtual 163, 3) := by decide +kernel
theorem dX0_endJob_18 : decode cX0_endJob 18 = .ok (.aload_n 1, 1) := by decide +kernel
theorem dX0_endJob_19 : decode cX0_endJob 19 = .ok (.getfield 160, 3) := by decide +kernel
theorem dX0_endJob_22 : decode cX0_endJob 22 = .ok (.invokestatic 78, 3) := by decide +kernel
theorem dX0_endJob_25 : decode cX0_endJob 25 = .ok (.ifCond .eq 16, 3) := by decide +kernel
theorem dX0_endJob_28 : decode cX0_endJob 28 = .ok (.aload_n 0, 1) := by decide +kernel
theorem dX0_endJob_29 : decode cX0_endJob 29 = .ok (.getfield 18, 3) := by decide +kernel
theorem dX0_endJob_32 : decode cX0_endJob 32 = .ok (.aload_n 1, 1) := by decide +kernel
theorem dX0_endJob_33 : decode cX0_endJob 33 = .ok (.getfield 160, 3) := by decide +kernel
theorem dX0_endJob_36 : decode cX0_endJob 36 = .ok (.dup2, 1) := by decide +kernel
theorem dX0_endJob_37 : decode cX0_endJob 37 = .ok (.iaload, 1) := by decide +kernel
theorem dX0_endJob_38 : decode cX0_endJob 38 = .ok (.iconst 1, 1) := by decide +kernel
theorem dX0_endJob_39 : decode cX0_endJob 39 = .ok (.iadd, 1) := by decide +kernel
theorem dX0_endJob_40 : decode cX0_endJob 40 = .ok (.iastore, 1) := by decide +kernel
theorem dX0_endJob_41 : decode cX0_endJob 41 = .ok (.aload_n 1, 1) := by decide +kernel
theorem dX0_endJob_42 : decode cX0_endJob 42 = .ok (.iload_n 2, 1) := by decide +kernel
theorem dX0_endJob_43 : decode cX0_endJob 43 = .ok (.putfield 120, 3) := by decide +kernel
theorem dX0_endJob_46 : decode cX0_endJob 46 = .ok (.return_, 1) := by decide +kernel
theorem dX0_passHours_0 : decode cX0_passHours 0 = .ok (.iload_n 1, 1) := by decide +kernel
theorem dX0_passHours_1 : decode cX0_passHours 1 = .ok (.iconst 1, 1) := by decide +kernel
theorem dX0_passHours_2 : decode cX0_passHours 2 = .ok (.bipush 99, 2) := by decide +kernel
theorem dX0_passHours_4 : decode cX0_passHours 4 = .ok (.invokestatic 64, 3) := by decide +kernel
theorem dX0_passHours_7 : decode cX0_passHours 7 = .ok (.ifCond .ne 6, 3) := by decide +kernel
theorem dX0_passHours_10 : decode cX0_passHours 10 = .ok (.bipush (-2), 2) := by decide +kernel
theorem dX0_passHours_12 : decode cX0_passHours 12 = .ok (.ireturn, 1) := by decide +kernel
theorem dX0_passHours_13 : decode cX0_passHours 13 = .ok (.aload_n 0, 1) := by decide +kernel
theorem dX0_passHours_14 : decode cX0_passHours 14 = .ok (.getfield 48, 3) := by decide +kernel
theorem dX0_passHours_17 : decode cX0_passHours 17 = .ok (.iload_n 1, 1) := by decide +kernel
theorem dX0_passHours_18 : decode cX0_passHours 18 = .ok (.iadd, 1) := by decide +kernel
theorem dX0_passHours_19 : decode cX0_passHours 19 = .ok (.sipush 9999, 3) := by decide +kernel
theorem dX0_passHours_22 : decode cX0_passHours 22 = .ok (.if_icmp .le 6, 3) := by decide +kernel
theorem dX0_passHours_25 : decode cX0_passHours 25 = .ok (.bipush (-5), 2) := by decide +kernel
theorem dX0_passHours_27 : decode cX0_passHours 27 = .ok (.ireturn, 1) := by decide +kernel
theorem dX0_passHours_28 : decode cX0_passHours 28 = .ok (.iconst 0, 1) := by decide +kernel
theorem dX0_passHours_29 : decode cX0_passHours 29 = .ok (.istore_n 2, 1) := by decide +kernel
theorem dX0_passHours_30 : decode cX0_passHours 30 = .ok (.iconst 0, 1) := by decide +kernel
theorem dX0_passHours_31 : decode cX0_passHours 31 = .ok (.istore_n 3, 1) := by decide +kernel
theorem dX0_passHours_32 : decode cX0_passHours 32 = .ok (.iload_n 3, 1) := by decide +kernel
theorem dX0_passHours_33 : decode cX0_passHours 33 = .ok (.iload_n 1, 1) := by decide +kernel
theorem dX0_passHours_34 : decode cX0_passHours 34 = .ok (.if_icmp .ge 16, 3) := by decide +kernel
theorem dX0_passHours_37 : decode cX0_passHours 37 = .ok (.iload_n 2, 1) := by decide +kernel
theorem dX0_passHours_38 : decode cX0_passHours 38 = .ok (.aload_n 0, 1) := by decide +kernel
theorem dX0_passHours_39 : decode cX0_passHours 39 = .ok (.invokevirtual 190, 3) := by decide +kernel
theorem dX0_passHours_42 : decode cX0_passHours 42 = .ok (.iadd, 1) := by decide +kernel
theorem dX0_passHours_43 : decode cX0_passHours 43 = .ok (.istore_n 2, 1) := by decide +kernel
theorem dX0_passHours_44 : decode cX0_passHours 44 = .ok (.iinc 3 1, 3) := by decide +kernel
theorem dX0_passHours_47 : decode cX0_passHours 47 = .ok (.goto (-15), 3) := by decide +kernel
theorem dX0_passHours_50 : decode cX0_passHours 50 = .ok (.iload_n 2, 1) := by decide +kernel
theorem dX0_passHours_51 : decode cX0_passHours 51 = .ok (.ireturn, 1) := by decide +kernel
theorem dX0_passOneHour_0 : decode cX0_passOneHour 0 = .ok (.iconst 0, 1) := by decide +kernel
theorem dX0_passOneHour_1 : decode cX0_passOneHour 1 = .ok (.istore_n 1, 1) := by decide +kernel
theorem dX0_passOneHour_2 : decode cX0_passOneHour 2 = .ok (.aload_n 0, 1) := by decide +kernel
theorem dX0_passOneHour_3 : decode cX0_passOneHour 3 = .ok (.invokevirtual 126, 3) := by decide +kernel
theorem dX0_passOneHour_6 : decode cX0_passOneHour 6 = .ok (.istore_n 2, 1) := by decide +kernel
theorem dX0_passOneHour_7 : decode cX0_passOneHour 7 = .ok (.iconst 0, 1) := by decide +kernel
theorem dX0_passOneHour_8 : decode cX0_passOneHour 8 = .ok (.istore_n 3, 1) := by decide +kernel
theorem dX0_passOneHour_9 : decode cX0_passOneHour 9 = .ok (.iload_n 3, 1) := by decide +kernel
theorem dX0_passOneHour_10 : decode cX0_passOneHour 10 = .ok (.aload_n 0, 1) := by decide +kernel
theorem dX0_passOneHour_11 : decode cX0_passOneHour 11 = .ok (.getfield 45, 3) := by decide +kernel
theorem dX0_passOneHour_14 : decode cX0_passOneHour 14 = .ok (.if_icmp .ge 38, 3) := by decide +kernel
theorem dX0_passOneHour_17 : decode cX0_passOneHour 17 = .ok (.aload_n 0, 1) := by decide +kernel
theorem dX0_passOneHour_18 : decode cX0_passOneHour 18 = .ok (.getfield 29, 3) := by decide +kernel
theorem dX0_passOneHour_21 : decode cX0_passOneHour 21 = .ok (.iload_n 3, 1) := by decide +kernel
theorem dX0_passOneHour_22 : decode cX0_passOneHour 22 = .ok (.aaload, 1) := by decide +kernel
theorem dX0_passOneHour_23 : decode cX0_passOneHour 23 = .ok (.getfield 120, 3) := by decide +kernel
theorem dX0_passOneHour_26 : decode cX0_passOneHour 26 = .ok (.iconst 1, 1) := by decide +kernel
theorem dX0_passOneHour_27 : decode cX0_passOneHour 27 = .ok (.if_icmp .ne 19, 3) := by decide +kernel
theorem dX0_passOneHour_30 : decode cX0_passOneHour 30 = .ok (.aload_n 0, 1) := by decide +kernel
theorem dX0_passOneHour_31 : decode cX0_passOneHour 31 = .ok (.aload_n 0, 1) := by decide +kernel
theorem dX0_passOneHour_32 : decode cX0_passOneHour 32 = .ok (.getfield 29, 3) := by decide +kernel
theorem dX0_passOneHour_35 : decode cX0_passOneHour 35 = .ok (.iload_n 3, 1) := by decide +kernel
theorem dX0_passOneHour_36 : decode cX0_passOneHour 36 = .ok (.aaload, 1) := by decide +kernel
theorem dX0_passOneHour_37 : decode cX0_passOneHour 37 = .ok (.invokevirtual 193, 3) := by decide +kernel
theorem dX0_passOneHour_40 : decode cX0_passOneHour 40 = .ok (.ifCond .eq 6, 3) := by decide +kernel
theorem dX0_passOneHour_43 : decode cX0_passOneHour 43 = .ok (.iinc 1 1, 3) := by decide +kernel
theorem dX0_passOneHour_46 : decode cX0_passOneHour 46 = .ok (.iinc 3 1, 3) := by decide +kernel
theorem dX0_passOneHour_49 : decode cX0_passOneHour 49 = .ok (.goto (-40), 3) := by decide +kernel
theorem dX0_passOneHour_52 : decode cX0_passOneHour 52 = .ok (.aload_n 0, 1) := by decide +kernel
theorem dX0_passOneHour_53 : decode cX0_passOneHour 53 = .ok (.iload_n 2, 1) := by decide +kernel
theorem dX0_passOneHour_54 : decode cX0_passOneHour 54 = .ok (.iconst (-1), 1) := by decide +kernel
theorem dX0_passOneHour_55 : decode cX0_passOneHour 55 = .ok (.ixor, 1) := by decide +kernel
theorem dX0_passOneHour_56 : decode cX0_passOneHour 56 = .ok (.invokevirtual 196, 3) := by decide +kernel
theorem dX0_passOneHour_59 : decode cX0_passOneHour 59 = .ok (.aload_n 0, 1) := by decide +kernel
theorem dX0_passOneHour_60 : decode cX0_passOneHour 60 = .ok (.dup, 1) := by decide +kernel
theorem dX0_passOneHour_61 : decode cX0_passOneHour 61 = .ok (.getfield 48, 3) := by decide +kernel
theorem dX0_passOneHour_64 : decode cX0_passOneHour 64 = .ok (.iconst 1, 1) := by decide +kernel
theorem dX0_passOneHour_65 : decode cX0_passOneHour 65 = .ok (.iadd, 1) := by decide +kernel
theorem dX0_passOneHour_66 : decode cX0_passOneHour 66 = .ok (.putfield 48, 3) := by decide +kernel
theorem dX0_passOneHour_69 : decode cX0_passOneHour 69 = .ok (.iload_n 1, 1) := by decide +kernel
theorem dX0_passOneHour_70 : decode cX0_passOneHour 70 = .ok (.ireturn, 1) := by decide +kernel
theorem dX0_workOneHour_0 : decode cX0_workOneHour 0 = .ok (.aload_n 1, 1) := by decide +kernel
theorem dX0_workOneHour_1 : decode cX0_workOneHour 1 = .ok (.getfield 183, 3) := by decide +kernel
theorem dX0_workOneHour_4 : decode cX0_workOneHour 4 = .ok (.ifCond .le 23, 3) := by decide +kernel
theorem dX0_workOneHour_7 : decode cX0_workOneHour 7 = .ok (.aload_n 1, 1) := by decide +kernel
theorem dX0_workOneHour_8 : decode cX0_workOneHour 8 = .ok (.dup, 1) := by decide +kernel
theorem dX0_workOneHour_9 : decode cX0_workOneHour 9 = .ok (.getfield 183, 3) := by decide +kernel
theorem dX0_workOneHour_12 : decode cX0_workOneHour 12 = .ok (.iconst 1, 1) := by decide +kernel
theorem dX0_workOneHour_13 : decode cX0_workOneHour 13 = .ok (.isub, 1) := by decide +kernel
theorem dX0_workOneHour_14 : decode cX0_workOneHour 14 = .ok (.putfield 183, 3) := by decide +kernel
theorem dX0_workOneHour_17 : decode cX0_workOneHour 17 = .ok (.aload_n 0, 1) := by decide +kernel
theorem dX0_workOneHour_18 : decode cX0_workOneHour 18 = .ok (.aload_n 1, 1) := by decide +kernel
theorem dX0_workOneHour_19 : decode cX0_workOneHour 19 = .ok (.getfield 157, 3) := by decide +kernel
theorem dX0_workOneHour_22 : decode cX0_workOneHour 22 = .ok (.invokevirtual 196, 3) := by decide +kernel
theorem dX0_workOneHour_25 : decode cX0_workOneHour 25 = .ok (.iconst 0, 1) := by decide +kernel
theorem dX0_workOneHour_26 : decode cX0_workOneHour 26 = .ok (.ireturn, 1) := by decide +kernel
theorem dX0_workOneHour_27 : decode cX0_workOneHour 27 = .ok (.aload_n 0, 1) := by decide +kernel
theorem dX0_workOneHour_28 : decode cX0_workOneHour 28 = .ok (.aload_n 1, 1) := by decide +kernel
theorem dX0_workOneHour_29 : decode cX0_workOneHour 29 = .ok (.getfield 157, 3) := by decide +kernel
theorem dX0_workOneHour_32 : decode cX0_workOneHour 32 = .ok (.invokevirtual 134, 3) := by decide +kernel
theorem dX0_workOneHour_35 : decode cX0_workOneHour 35 = .ok (.aload_n 1, 1) := by decide +kernel
theorem dX0_workOneHour_36 : decode cX0_workOneHour 36 = .ok (.getfield 154, 3) := by decide +kernel
theorem dX0_workOneHour_39 : decode cX0_workOneHour 39 = .ok (.if_icmp .ge 33, 3) := by decide +kernel
theorem dX0_workOneHour_42 : decode cX0_workOneHour 42 = .ok (.aload_n 1, 1) := by decide +kernel
theorem dX0_workOneHour_43 : decode cX0_workOneHour 43 = .ok (.dup, 1) := by decide +kernel
theorem dX0_workOneHour_44 : decode cX0_workOneHour 44 = .ok (.getfield 199, 3) := by decide +kernel
theorem dX0_workOneHour_47 : decode cX0_workOneHour 47 = .ok (.iconst 1, 1) := by decide +kernel
theorem dX0_workOneHour_48 : decode cX0_workOneHour 48 = .ok (.iadd, 1) := by decide +kernel
theorem dX0_workOneHour_49 : decode cX0_workOneHour 49 = .ok (.putfield 199, 3) := by decide +kernel
theorem dX0_workOneHour_52 : decode cX0_workOneHour 52 = .ok (.aload_n 0, 1) := by decide +kernel
theorem dX0_workOneHour_53 : decode cX0_workOneHour 53 = .ok (.dup, 1) := by decide +kernel
theorem dX0_workOneHour_54 : decode cX0_workOneHour 54 = .ok (.getfield 54, 3) := by decide +kernel
theorem dX0_workOneHour_57 : decode cX0_workOneHour 57 = .ok (.iconst 1, 1) := by decide +kernel
theorem dX0_workOneHour_58 : decode cX0_workOneHour 58 = .ok (.iadd, 1) := by decide +kernel
theorem dX0_workOneHour_59 : decode cX0_workOneHour 59 = .ok (.putfield 54, 3) := by decide +kernel
theorem dX0_workOneHour_62 : decode cX0_workOneHour 62 = .ok (.aload_n 0, 1) := by decide +kernel
theorem dX0_workOneHour_63 : decode cX0_workOneHour 63 = .ok (.aload_n 1, 1) := by decide +kernel
theorem dX0_workOneHour_64 : decode cX0_workOneHour 64 = .ok (.getfield 157, 3) := by decide +kernel
theorem dX0_workOneHour_67 : decode cX0_workOneHour 67 = .ok (.invokevirtual 196, 3) := by decide +kernel
theorem dX0_workOneHour_70 : decode cX0_workOneHour 70 = .ok (.iconst 0, 1) := by decide +kernel
theorem dX0_workOneHour_71 : decode cX0_workOneHour 71 = .ok (.ireturn, 1) := by decide +kernel
theorem dX0_workOneHour_72 : decode cX0_workOneHour 72 = .ok (.aload_n 1, 1) := by decide +kernel
theorem dX0_workOneHour_73 : decode cX0_workOneHour 73 = .ok (.dup, 1) := by decide +kernel
theorem dX0_workOneHour_74 : decode cX0_workOneHour 74 = .ok (.getfield 200, 3) := by decide +kernel
theorem dX0_workOneHour_77 : decode cX0_workOneHour 77 = .ok (.iconst 1, 1) := by decide +kernel
theorem dX0_workOneHour_78 : decode cX0_workOneHour 78 = .ok (.isub, 1) := by decide +kernel
theorem dX0_workOneHour_79 : decode cX0_workOneHour 79 = .ok (.putfield 200, 3) := by decide +kernel
theorem dX0_workOneHour_82 : decode cX0_workOneHour 82 = .ok (.aload_n 0, 1) := by decide +kernel
theorem dX0_workOneHour_83 : decode cX0_workOneHour 83 = .ok (.dup, 1) := by decide +kernel
theorem dX0_workOneHour_84 : decode cX0_workOneHour 84 = .ok (.getfield 51, 3) := by decide +kernel
theorem dX0_workOneHour_87 : decode cX0_workOneHour 87 = .ok (.iconst 1, 1) := by decide +kernel
theorem dX0_workOneHour_88 : decode cX0_workOneHour 88 = .ok (.iadd, 1) := by decide +kernel
theorem dX0_workOneHour_89 : decode cX0_workOneHour 89 = .ok (.putfield 51, 3) := by decide +kernel
theorem dX0_workOneHour_92 : decode cX0_workOneHour 92 = .ok (.aload_n 1, 1) := by decide +kernel
theorem dX0_workOneHour_93 : decode cX0_workOneHour 93 = .ok (.getfield 200, 3) := by decide +kernel
theorem dX0_workOneHour_96 : decode cX0_workOneHour 96 = .ok (.ifCond .gt 7, 3) := by decide +kernel
theorem dX0_workOneHour_99 : decode cX0_workOneHour 99 = .ok (.iconst 1, 1) := by decide +kernel
theorem dX0_workOneHour_100 : decode cX0_workOneHour 100 = .ok (.goto 4, 3) := by decide +kernel
theorem dX0_workOneHour_103 : decode cX0_workOneHour 103 = .ok (.iconst 0, 1) := by decide +kernel
