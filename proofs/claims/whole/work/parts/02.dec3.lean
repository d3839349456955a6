theorem dX6_begins_22 : decode cX6_begins 22 = .ok (.invokevirtual 77, 3) := by decide +kernel
theorem dX6_begins_25 : decode cX6_begins 25 = .ok (.aload_n 0, 1) := by decide +kernel
theorem dX6_begins_26 : decode cX6_begins 26 = .ok (.iload_n 1, 1) := by decide +kernel
theorem dX6_begins_27 : decode cX6_begins 27 = .ok (.bipush 8, 2) := by decide +kernel
theorem dX6_begins_29 : decode cX6_begins 29 = .ok (.iload_n 3, 1) := by decide +kernel
theorem dX6_begins_30 : decode cX6_begins 30 = .ok (.invokevirtual 77, 3) := by decide +kernel
theorem dX6_begins_33 : decode cX6_begins 33 = .ok (.aload_n 0, 1) := by decide +kernel
theorem dX6_begins_34 : decode cX6_begins 34 = .ok (.iload_n 1, 1) := by decide +kernel
theorem dX6_begins_35 : decode cX6_begins 35 = .ok (.iconst 5, 1) := by decide +kernel
theorem dX6_begins_36 : decode cX6_begins 36 = .ok (.iconst 1, 1) := by decide +kernel
theorem dX6_begins_37 : decode cX6_begins 37 = .ok (.invokevirtual 77, 3) := by decide +kernel
theorem dX6_begins_40 : decode cX6_begins 40 = .ok (.iload 4, 2) := by decide +kernel
theorem dX6_begins_42 : decode cX6_begins 42 = .ok (.ireturn, 1) := by decide +kernel
theorem dX6_isAhead_0 : decode cX6_isAhead 0 = .ok (.aload_n 0, 1) := by decide +kernel
theorem dX6_isAhead_1 : decode cX6_isAhead 1 = .ok (.iload_n 2, 1) := by decide +kernel
theorem dX6_isAhead_2 : decode cX6_isAhead 2 = .ok (.iconst 3, 1) := by decide +kernel
theorem dX6_isAhead_3 : decode cX6_isAhead 3 = .ok (.invokevirtual 43, 3) := by decide +kernel
theorem dX6_isAhead_6 : decode cX6_isAhead 6 = .ok (.aload_n 0, 1) := by decide +kernel
theorem dX6_isAhead_7 : decode cX6_isAhead 7 = .ok (.iload_n 1, 1) := by decide +kernel
theorem dX6_isAhead_8 : decode cX6_isAhead 8 = .ok (.iconst 3, 1) := by decide +kernel
theorem dX6_isAhead_9 : decode cX6_isAhead 9 = .ok (.invokevirtual 43, 3) := by decide +kernel
theorem dX6_isAhead_12 : decode cX6_isAhead 12 = .ok (.isub, 1) := by decide +kernel
theorem dX6_isAhead_13 : decode cX6_isAhead 13 = .ok (.istore_n 3, 1) := by decide +kernel
theorem dX6_isAhead_14 : decode cX6_isAhead 14 = .ok (.iload_n 3, 1) := by decide +kernel
theorem dX6_isAhead_15 : decode cX6_isAhead 15 = .ok (.ifCond .ne 19, 3) := by decide +kernel
theorem dX6_isAhead_18 : decode cX6_isAhead 18 = .ok (.aload_n 0, 1) := by decide +kernel
theorem dX6_isAhead_19 : decode cX6_isAhead 19 = .ok (.iload_n 1, 1) := by decide +kernel
theorem dX6_isAhead_20 : decode cX6_isAhead 20 = .ok (.iconst 4, 1) := by decide +kernel
theorem dX6_isAhead_21 : decode cX6_isAhead 21 = .ok (.invokevirtual 43, 3) := by decide +kernel
theorem dX6_isAhead_24 : decode cX6_isAhead 24 = .ok (.aload_n 0, 1) := by decide +kernel
theorem dX6_isAhead_25 : decode cX6_isAhead 25 = .ok (.iload_n 2, 1) := by decide +kernel
theorem dX6_isAhead_26 : decode cX6_isAhead 26 = .ok (.iconst 4, 1) := by decide +kernel
theorem dX6_isAhead_27 : decode cX6_isAhead 27 = .ok (.invokevirtual 43, 3) := by decide +kernel
theorem dX6_isAhead_30 : decode cX6_isAhead 30 = .ok (.isub, 1) := by decide +kernel
theorem dX6_isAhead_31 : decode cX6_isAhead 31 = .ok (.goto 4, 3) := by decide +kernel
theorem dX6_isAhead_34 : decode cX6_isAhead 34 = .ok (.iload_n 3, 1) := by decide +kernel
theorem dX6_isAhead_35 : decode cX6_isAhead 35 = .ok (.istore_n 3, 1) := by decide +kernel
theorem dX6_isAhead_36 : decode cX6_isAhead 36 = .ok (.iload_n 3, 1) := by decide +kernel
theorem dX6_isAhead_37 : decode cX6_isAhead 37 = .ok (.ifCond .lt 12, 3) := by decide +kernel
theorem dX6_isAhead_40 : decode cX6_isAhead 40 = .ok (.iload_n 3, 1) := by decide +kernel
theorem dX6_isAhead_41 : decode cX6_isAhead 41 = .ok (.ifCond .ne 12, 3) := by decide +kernel
theorem dX6_isAhead_44 : decode cX6_isAhead 44 = .ok (.iload_n 1, 1) := by decide +kernel
theorem dX6_isAhead_45 : decode cX6_isAhead 45 = .ok (.iload_n 2, 1) := by decide +kernel
theorem dX6_isAhead_46 : decode cX6_isAhead 46 = .ok (.if_icmp .ge 7, 3) := by decide +kernel
theorem dX6_isAhead_49 : decode cX6_isAhead 49 = .ok (.iconst 1, 1) := by decide +kernel
theorem dX6_isAhead_50 : decode cX6_isAhead 50 = .ok (.goto 4, 3) := by decide +kernel
theorem dX6_isAhead_53 : decode cX6_isAhead 53 = .ok (.iconst 0, 1) := by decide +kernel
theorem dX6_isAhead_54 : decode cX6_isAhead 54 = .ok (.ireturn, 1) := by decide +kernel
theorem dX6_waitingAt_0 : decode cX6_waitingAt 0 = .ok (.iconst 0, 1) := by decide +kernel
theorem dX6_waitingAt_1 : decode cX6_waitingAt 1 = .ok (.istore_n 3, 1) := by decide +kernel
theorem dX6_waitingAt_2 : decode cX6_waitingAt 2 = .ok (.iload_n 3, 1) := by decide +kernel
theorem dX6_waitingAt_3 : decode cX6_waitingAt 3 = .ok (.aload_n 0, 1) := by decide +kernel
theorem dX6_waitingAt_4 : decode cX6_waitingAt 4 = .ok (.getfield 7, 3) := by decide +kernel
theorem dX6_waitingAt_7 : decode cX6_waitingAt 7 = .ok (.bipush 6, 2) := by decide +kernel
theorem dX6_waitingAt_9 : decode cX6_waitingAt 9 = .ok (.iaload, 1) := by decide +kernel
theorem dX6_waitingAt_10 : decode cX6_waitingAt 10 = .ok (.if_icmp .ge 115, 3) := by decide +kernel
theorem dX6_waitingAt_13 : decode cX6_waitingAt 13 = .ok (.iconst 0, 1) := by decide +kernel
theorem dX6_waitingAt_14 : decode cX6_waitingAt 14 = .ok (.istore 4, 2) := by decide +kernel
theorem dX6_waitingAt_16 : decode cX6_waitingAt 16 = .ok (.iconst 0, 1) := by decide +kernel
theorem dX6_waitingAt_17 : decode cX6_waitingAt 17 = .ok (.istore 5, 2) := by decide +kernel
theorem dX6_waitingAt_19 : decode cX6_waitingAt 19 = .ok (.iload 5, 2) := by decide +kernel
theorem dX6_waitingAt_21 : decode cX6_waitingAt 21 = .ok (.aload_n 0, 1) := by decide +kernel
theorem dX6_waitingAt_22 : decode cX6_waitingAt 22 = .ok (.getfield 7, 3) := by decide +kernel
theorem dX6_waitingAt_25 : decode cX6_waitingAt 25 = .ok (.bipush 6, 2) := by decide +kernel
theorem dX6_waitingAt_27 : decode cX6_waitingAt 27 = .ok (.iaload, 1) := by decide +kernel
theorem dX6_waitingAt_28 : decode cX6_waitingAt 28 = .ok (.if_icmp .ge 66, 3) := by decide +kernel
theorem dX6_waitingAt_31 : decode cX6_waitingAt 31 = .ok (.aload_n 0, 1) := by decide +kernel
theorem dX6_waitingAt_32 : decode cX6_waitingAt 32 = .ok (.iload 5, 2) := by decide +kernel
theorem dX6_waitingAt_34 : decode cX6_waitingAt 34 = .ok (.iconst 5, 1) := by decide +kernel
theorem dX6_waitingAt_35 : decode cX6_waitingAt 35 = .ok (.invokevirtual 43, 3) := by decide +kernel
theorem dX6_waitingAt_38 : decode cX6_waitingAt 38 = .ok (.ifCond .ne 16, 3) := by decide +kernel
theorem dX6_waitingAt_41 : decode cX6_waitingAt 41 = .ok (.iload_n 2, 1) := by decide +kernel
theorem dX6_waitingAt_42 : decode cX6_waitingAt 42 = .ok (.iload 5, 2) := by decide +kernel
theorem dX6_waitingAt_44 : decode cX6_waitingAt 44 = .ok (.ishr, 1) := by decide +kernel
theorem dX6_waitingAt_45 : decode cX6_waitingAt 45 = .ok (.iconst 1, 1) := by decide +kernel
theorem dX6_waitingAt_46 : decode cX6_waitingAt 46 = .ok (.iand, 1) := by decide +kernel
theorem dX6_waitingAt_47 : decode cX6_waitingAt 47 = .ok (.ifCond .ne 7, 3) := by decide +kernel
theorem dX6_waitingAt_50 : decode cX6_waitingAt 50 = .ok (.iconst 1, 1) := by decide +kernel
theorem dX6_waitingAt_51 : decode cX6_waitingAt 51 = .ok (.goto 4, 3) := by decide +kernel
theorem dX6_waitingAt_54 : decode cX6_waitingAt 54 = .ok (.iconst 0, 1) := by decide +kernel
theorem dX6_waitingAt_55 : decode cX6_waitingAt 55 = .ok (.istore 6, 2) := by decide +kernel
theorem dX6_waitingAt_57 : decode cX6_waitingAt 57 = .ok (.iload 4, 2) := by decide +kernel
theorem dX6_waitingAt_59 : decode cX6_waitingAt 59 = .ok (.iload 6, 2) := by decide +kernel
theorem dX6_waitingAt_61 : decode cX6_waitingAt 61 = .ok (.ifCond .eq 23, 3) := by decide +kernel
theorem dX6_waitingAt_64 : decode cX6_waitingAt 64 = .ok (.iload 5, 2) := by decide +kernel
theorem dX6_waitingAt_66 : decode cX6_waitingAt 66 = .ok (.iload_n 3, 1) := by decide +kernel
theorem dX6_waitingAt_67 : decode cX6_waitingAt 67 = .ok (.if_icmp .eq 17, 3) := by decide +kernel
theorem dX6_waitingAt_70 : decode cX6_waitingAt 70 = .ok (.aload_n 0, 1) := by decide +kernel
theorem dX6_waitingAt_71 : decode cX6_waitingAt 71 = .ok (.iload 5, 2) := by decide +kernel
theorem dX6_waitingAt_73 : decode cX6_waitingAt 73 = .ok (.iload_n 3, 1) := by decide +kernel
theorem dX6_waitingAt_74 : decode cX6_waitingAt 74 = .ok (.invokevirtual 81, 3) := by decide +kernel
theorem dX6_waitingAt_77 : decode cX6_waitingAt 77 = .ok (.ifCond .eq 7, 3) := by decide +kernel
theorem dX6_waitingAt_80 : decode cX6_waitingAt 80 = .ok (.iconst 1, 1) := by decide +kernel
theorem dX6_waitingAt_81 : decode cX6_waitingAt 81 = .ok (.goto 4, 3) := by decide +kernel
theorem dX6_waitingAt_84 : decode cX6_waitingAt 84 = .ok (.iconst 0, 1) := by decide +kernel
theorem dX6_waitingAt_85 : decode cX6_waitingAt 85 = .ok (.iadd, 1) := by decide +kernel
theorem dX6_waitingAt_86 : decode cX6_waitingAt 86 = .ok (.istore 4, 2) := by decide +kernel
theorem dX6_waitingAt_88 : decode cX6_waitingAt 88 = .ok (.iinc 5 1, 3) := by decide +kernel
theorem dX6_waitingAt_91 : decode cX6_waitingAt 91 = .ok (.goto (-72), 3) := by decide +kernel
theorem dX6_waitingAt_94 : decode cX6_waitingAt 94 = .ok (.aload_n 0, 1) := by decide +kernel
theorem dX6_waitingAt_95 : decode cX6_waitingAt 95 = .ok (.iload_n 3, 1) := by decide +kernel
theorem dX6_waitingAt_96 : decode cX6_waitingAt 96 = .ok (.iconst 5, 1) := by decide +kernel
theorem dX6_waitingAt_97 : decode cX6_waitingAt 97 = .ok (.invokevirtual 43, 3) := by decide +kernel
theorem dX6_waitingAt_100 : decode cX6_waitingAt 100 = .ok (.ifCond .ne 19, 3) := by decide +kernel
theorem dX6_waitingAt_103 : decode cX6_waitingAt 103 = .ok (.iload_n 2, 1) := by decide +kernel
theorem dX6_waitingAt_104 : decode cX6_waitingAt 104 = .ok (.iload_n 3, 1) := by decide +kernel
theorem dX6_waitingAt_105 : decode cX6_waitingAt 105 = .ok (.ishr, 1) := by decide +kernel
theorem dX6_waitingAt_106 : decode cX6_waitingAt 106 = .ok (.iconst 1, 1) := by decide +kernel
theorem dX6_waitingAt_107 : decode cX6_waitingAt 107 = .ok (.iand, 1) := by decide +kernel
theorem dX6_waitingAt_108 : decode cX6_waitingAt 108 = .ok (.ifCond .ne 11, 3) := by decide +kernel
theorem dX6_waitingAt_111 : decode cX6_waitingAt 111 = .ok (.iload 4, 2) := by decide +kernel
theorem dX6_waitingAt_113 : decode cX6_waitingAt 113 = .ok (.iload_n 1, 1) := by decide +kernel
theorem dX6_waitingAt_114 : decode cX6_waitingAt 114 = .ok (.if_icmp .ne 5, 3) := by decide +kernel
theorem dX6_waitingAt_117 : decode cX6_waitingAt 117 = .ok (.iload_n 3, 1) := by decide +kernel
theorem dX6_waitingAt_118 : decode cX6_waitingAt 118 = .ok (.ireturn, 1) := by decide +kernel
theorem dX6_waitingAt_119 : decode cX6_waitingAt 119 = .ok (.iinc 3 1, 3) := by decide +kernel
theorem dX6_waitingAt_122 : decode cX6_waitingAt 122 = .ok (.goto (-120), 3) := by decide +kernel
theorem dX6_waitingAt_125 : decode cX6_waitingAt 125 = .ok (.bipush (-6), 2) := by decide +kernel
theorem dX6_waitingAt_127 : decode cX6_waitingAt 127 = .ok (.ireturn, 1) := by decide +kernel
theorem dX6_assigns_0 : decode cX6_assigns 0 = .ok (.iconst 0, 1) := by decide +kernel
theorem dX6_assigns_1 : decode cX6_assigns 1 = .ok (.istore_n 1, 1) := by decide +kernel
theorem dX6_assigns_2 : decode cX6_assigns 2 = .ok (.iconst 0, 1) := by decide +kernel
theorem dX6_assigns_3 : decode cX6_assigns 3 = .ok (.istore_n 2, 1) := by decide +kernel
theorem dX6_assigns_4 : decode cX6_assigns 4 = .ok (.aload_n 0, 1) := by decide +kernel
theorem dX6_assigns_5 : decode cX6_assigns 5 = .ok (.iconst 0, 1) := by decide +kernel
theorem dX6_assigns_6 : decode cX6_assigns 6 = .ok (.iload_n 2, 1) := by decide +kernel
theorem dX6_assigns_7 : decode cX6_assigns 7 = .ok (.invokevirtual 84, 3) := by decide +kernel
theorem dX6_assigns_10 : decode cX6_assigns 10 = .ok (.istore_n 3, 1) := by decide +kernel
theorem dX6_assigns_11 : decode cX6_assigns 11 = .ok (.iload_n 3, 1) := by decide +kernel
theorem dX6_assigns_12 : decode cX6_assigns 12 = .ok (.bipush (-6), 2) := by decide +kernel
theorem dX6_assigns_14 : decode cX6_assigns 14 = .ok (.if_icmp .eq 69, 3) := by decide +kernel
theorem dX6_assigns_17 : decode cX6_assigns 17 = .ok (.aload_n 0, 1) := by decide +kernel
theorem dX6_assigns_18 : decode cX6_assigns 18 = .ok (.iload_n 3, 1) := by decide +kernel
theorem dX6_assigns_19 : decode cX6_assigns 19 = .ok (.invokevirtual 87, 3) := by decide +kernel
theorem dX6_assigns_22 : decode cX6_assigns 22 = .ok (.istore 4, 2) := by decide +kernel
theorem dX6_assigns_24 : decode cX6_assigns 24 = .ok (.iload 4, 2) := by decide +kernel
theorem dX6_assigns_26 : decode cX6_assigns 26 = .ok (.bipush (-6), 2) := by decide +kernel
theorem dX6_assigns_28 : decode cX6_assigns 28 = .ok (.if_icmp .eq 39, 3) := by decide +kernel
theorem dX6_assigns_31 : decode cX6_assigns 31 = .ok (.iload 4, 2) := by decide +kernel
theorem dX6_assigns_33 : decode cX6_assigns 33 = .ok (.iconst 3, 1) := by decide +kernel
theorem dX6_assigns_34 : decode cX6_assigns 34 = .ok (.if_icmp .ne 8, 3) := by decide +kernel
theorem dX6_assigns_37 : decode cX6_assigns 37 = .ok (.bipush (-6), 2) := by decide +kernel
theorem dX6_assigns_39 : decode cX6_assigns 39 = .ok (.goto 5, 3) := by decide +kernel
theorem dX6_assigns_42 : decode cX6_assigns 42 = .ok (.iload 4, 2) := by decide +kernel
theorem dX6_assigns_44 : decode cX6_assigns 44 = .ok (.istore 5, 2) := by decide +kernel
theorem dX6_assigns_46 : decode cX6_assigns 46 = .ok (.aload_n 0, 1) := by decide +kernel
theorem dX6_assigns_47 : decode cX6_assigns 47 = .ok (.iload_n 3, 1) := by decide +kernel
theorem dX6_assigns_48 : decode cX6_assigns 48 = .ok (.aload_n 0, 1) := by decide +kernel
theorem dX6_assigns_49 : decode cX6_assigns 49 = .ok (.iload_n 3, 1) := by decide +kernel
theorem dX6_assigns_50 : decode cX6_assigns 50 = .ok (.iload 5, 2) := by decide +kernel
theorem dX6_assigns_52 : decode cX6_assigns 52 = .ok (.invokevirtual 74, 3) := by decide +kernel
theorem dX6_assigns_55 : decode cX6_assigns 55 = .ok (.iload 5, 2) := by decide +kernel
theorem dX6_assigns_57 : decode cX6_assigns 57 = .ok (.invokevirtual 90, 3) := by decide +kernel
theorem dX6_assigns_60 : decode cX6_assigns 60 = .ok (.pop, 1) := by decide +kernel
theorem dX6_assigns_61 : decode cX6_assigns 61 = .ok (.iload_n 1, 1) := by decide +kernel
theorem dX6_assigns_62 : decode cX6_assigns 62 = .ok (.iconst 1, 1) := by decide +kernel
theorem dX6_assigns_63 : decode cX6_assigns 63 = .ok (.iload_n 3, 1) := by decide +kernel
theorem dX6_assigns_64 : decode cX6_assigns 64 = .ok (.ishl, 1) := by decide +kernel
theorem dX6_assigns_65 : decode cX6_assigns 65 = .ok (.ior, 1) := by decide +kernel
theorem dX6_assigns_66 : decode cX6_assigns 66 = .ok (.istore_n 1, 1) := by decide +kernel
theorem dX6_assigns_67 : decode cX6_assigns 67 = .ok (.iload_n 2, 1) := by decide +kernel
theorem dX6_assigns_68 : decode cX6_assigns 68 = .ok (.iconst 1, 1) := by decide +kernel
theorem dX6_assigns_69 : decode cX6_assigns 69 = .ok (.iload_n 3, 1) := by decide +kernel
theorem dX6_assigns_70 : decode cX6_assigns 70 = .ok (.ishl, 1) := by decide +kernel
theorem dX6_assigns_71 : decode cX6_assigns 71 = .ok (.ior, 1) := by decide +kernel
theorem dX6_assigns_72 : decode cX6_assigns 72 = .ok (.istore_n 2, 1) := by decide +kernel
theorem dX6_assigns_73 : decode cX6_assigns 73 = .ok (.aload_n 0, 1) := by decide +kernel
theorem dX6_assigns_74 : decode cX6_assigns 74 = .ok (.iconst 0, 1) := by decide +kernel
theorem dX6_assigns_75 : decode cX6_assigns 75 = .ok (.iload_n 2, 1) := by decide +kernel
theorem dX6_assigns_76 : decode cX6_assigns 76 = .ok (.invokevirtual 84, 3) := by decide +kernel
theorem dX6_assigns_79 : decode cX6_assigns 79 = .ok (.istore_n 3, 1) := by decide +kernel
theorem dX6_assigns_80 : decode cX6_assigns 80 = .ok (.goto (-69), 3) := by decide +kernel
theorem dX6_assigns_83 : decode cX6_assigns 83 = .ok (.iload_n 1, 1) := by decide +kernel
theorem dX6_assigns_84 : decode cX6_assigns 84 = .ok (.ireturn, 1) := by decide +kernel
theorem dX6_rest_0 : decode cX6_rest 0 = .ok (.iconst 0, 1) := by decide +kernel
theorem dX6_rest_1 : decode cX6_rest 1 = .ok (.istore_n 2, 1) := by decide +kernel
theorem dX6_rest_2 : decode cX6_rest 2 = .ok (.iload_n 2, 1) := by decide +kernel
theorem dX6_rest_3 : decode cX6_rest 3 = .ok (.aload_n 0, 1) := by decide +kernel
theorem dX6_rest_4 : decode cX6_rest 4 = .ok (.getfield 7, 3) := by decide +kernel
theorem dX6_rest_7 : decode cX6_rest 7 = .ok (.iconst 5, 1) := by decide +kernel
theorem dX6_rest_8 : decode cX6_rest 8 = .ok (.iaload, 1) := by decide +kernel
theorem dX6_rest_9 : decode cX6_rest 9 = .ok (.if_icmp .ge 71, 3) := by decide +kernel
theorem dX6_rest_12 : decode cX6_rest 12 = .ok (.aload_n 0, 1) := by decide +kernel
theorem dX6_rest_13 : decode cX6_rest 13 = .ok (.iload_n 2, 1) := by decide +kernel
theorem dX6_rest_14 : decode cX6_rest 14 = .ok (.iconst 1, 1) := by decide +kernel
theorem dX6_rest_15 : decode cX6_rest 15 = .ok (.invokevirtual 47, 3) := by decide +kernel
theorem dX6_rest_18 : decode cX6_rest 18 = .ok (.aload_n 0, 1) := by decide +kernel
theorem dX6_rest_19 : decode cX6_rest 19 = .ok (.getfield 7, 3) := by decide +kernel
theorem dX6_rest_22 : decode cX6_rest 22 = .ok (.iconst 1, 1) := by decide +kernel
theorem dX6_rest_23 : decode cX6_rest 23 = .ok (.iaload, 1) := by decide +kernel
theorem dX6_rest_24 : decode cX6_rest 24 = .ok (.iadd, 1) := by decide +kernel
theorem dX6_rest_25 : decode cX6_rest 25 = .ok (.istore_n 3, 1) := by decide +kernel
theorem dX6_rest_26 : decode cX6_rest 26 = .ok (.iload_n 3, 1) := by decide +kernel
theorem dX6_rest_27 : decode cX6_rest 27 = .ok (.aload_n 0, 1) := by decide +kernel
theorem dX6_rest_28 : decode cX6_rest 28 = .ok (.iload_n 2, 1) := by decide +kernel
theorem dX6_rest_29 : decode cX6_rest 29 = .ok (.iconst 0, 1) := by decide +kernel
theorem dX6_rest_30 : decode cX6_rest 30 = .ok (.invokevirtual 47, 3) := by decide +kernel
theorem dX6_rest_33 : decode cX6_rest 33 = .ok (.if_icmp .ge 7, 3) := by decide +kernel
theorem dX6_rest_36 : decode cX6_rest 36 = .ok (.iload_n 3, 1) := by decide +kernel
theorem dX6_rest_37 : decode cX6_rest 37 = .ok (.goto 9, 3) := by decide +kernel
theorem dX6_rest_40 : decode cX6_rest 40 = .ok (.aload_n 0, 1) := by decide +kernel
theorem dX6_rest_41 : decode cX6_rest 41 = .ok (.iload_n 2, 1) := by decide +kernel
theorem dX6_rest_42 : decode cX6_rest 42 = .ok (.iconst 0, 1) := by decide +kernel
theorem dX6_rest_43 : decode cX6_rest 43 = .ok (.invokevirtual 47, 3) := by decide +kernel
theorem dX6_rest_46 : decode cX6_rest 46 = .ok (.istore 4, 2) := by decide +kernel
theorem dX6_rest_48 : decode cX6_rest 48 = .ok (.aload_n 0, 1) := by decide +kernel
theorem dX6_rest_49 : decode cX6_rest 49 = .ok (.iload_n 2, 1) := by decide +kernel
theorem dX6_rest_50 : decode cX6_rest 50 = .ok (.iconst 1, 1) := by decide +kernel
theorem dX6_rest_51 : decode cX6_rest 51 = .ok (.iload_n 1, 1) := by decide +kernel
theorem dX6_rest_52 : decode cX6_rest 52 = .ok (.iload_n 2, 1) := by decide +kernel
theorem dX6_rest_53 : decode cX6_rest 53 = .ok (.ishr, 1) := by decide +kernel
theorem dX6_rest_54 : decode cX6_rest 54 = .ok (.iconst 1, 1) := by decide +kernel
theorem dX6_rest_55 : decode cX6_rest 55 = .ok (.iand, 1) := by decide +kernel
theorem dX6_rest_56 : decode cX6_rest 56 = .ok (.iconst 1, 1) := by decide +kernel
theorem dX6_rest_57 : decode cX6_rest 57 = .ok (.if_icmp .ne 8, 3) := by decide +kernel
theorem dX6_rest_60 : decode cX6_rest 60 = .ok (.iload 4, 2) := by decide +kernel
theorem dX6_rest_62 : decode cX6_rest 62 = .ok (.goto 9, 3) := by decide +kernel
theorem dX6_rest_65 : decode cX6_rest 65 = .ok (.aload_n 0, 1) := by decide +kernel
theorem dX6_rest_66 : decode cX6_rest 66 = .ok (.iload_n 2, 1) := by decide +kernel
theorem dX6_rest_67 : decode cX6_rest 67 = .ok (.iconst 1, 1) := by decide +kernel
theorem dX6_rest_68 : decode cX6_rest 68 = .ok (.invokevirtual 47, 3) := by decide +kernel
theorem dX6_rest_71 : decode cX6_rest 71 = .ok (.invokevirtual 94, 3) := by decide +kernel
theorem dX6_rest_74 : decode cX6_rest 74 = .ok (.iinc 2 1, 3) := by decide +kernel
theorem dX6_rest_77 : decode cX6_rest 77 = .ok (.goto (-75), 3) := by decide +kernel
theorem dX6_rest_80 : decode cX6_rest 80 = .ok (.return_, 1) := by decide +kernel
theorem dX6_carry_0 : decode cX6_carry 0 = .ok (.iconst 0, 1) := by decide +kernel
theorem dX6_carry_1 : decode cX6_carry 1 = .ok (.istore_n 2, 1) := by decide +kernel
theorem dX6_carry_2 : decode cX6_carry 2 = .ok (.iload_n 2, 1) := by decide +kernel
theorem dX6_carry_3 : decode cX6_carry 3 = .ok (.aload_n 0, 1) := by decide +kernel
theorem dX6_carry_4 : decode cX6_carry 4 = .ok (.getfield 7, 3) := by decide +kernel
theorem dX6_carry_7 : decode cX6_carry 7 = .ok (.iconst 5, 1) := by decide +kernel
theorem dX6_carry_8 : decode cX6_carry 8 = .ok (.iaload, 1) := by decide +kernel
theorem dX6_carry_9 : decode cX6_carry 9 = .ok (.if_icmp .ge 61, 3) := by decide +kernel
theorem dX6_carry_12 : decode cX6_carry 12 = .ok (.iload_n 1, 1) := by decide +kernel
theorem dX6_carry_13 : decode cX6_carry 13 = .ok (.iload_n 2, 1) := by decide +kernel
theorem dX6_carry_14 : decode cX6_carry 14 = .ok (.ishr, 1) := by decide +kernel
theorem dX6_carry_15 : decode cX6_carry 15 = .ok (.iconst 1, 1) := by decide +kernel
theorem dX6_carry_16 : decode cX6_carry 16 = .ok (.iand, 1) := by decide +kernel
theorem dX6_carry_17 : decode cX6_carry 17 = .ok (.iconst 1, 1) := by decide +kernel
theorem dX6_carry_18 : decode cX6_carry 18 = .ok (.if_icmp .ne 46, 3) := by decide +kernel
theorem dX6_carry_21 : decode cX6_carry 21 = .ok (.aload_n 0, 1) := by decide +kernel
theorem dX6_carry_22 : decode cX6_carry 22 = .ok (.iload_n 2, 1) := by decide +kernel
theorem dX6_carry_23 : decode cX6_carry 23 = .ok (.iconst 1, 1) := by decide +kernel
theorem dX6_carry_24 : decode cX6_carry 24 = .ok (.invokevirtual 47, 3) := by decide +kernel
theorem dX6_carry_27 : decode cX6_carry 27 = .ok (.aload_n 0, 1) := by decide +kernel
theorem dX6_carry_28 : decode cX6_carry 28 = .ok (.getfield 7, 3) := by decide +kernel
theorem dX6_carry_31 : decode cX6_carry 31 = .ok (.iconst 2, 1) := by decide +kernel
theorem dX6_carry_32 : decode cX6_carry 32 = .ok (.iaload, 1) := by decide +kernel
theorem dX6_carry_33 : decode cX6_carry 33 = .ok (.isub, 1) := by decide +kernel
theorem dX6_carry_34 : decode cX6_carry 34 = .ok (.istore_n 3, 1) := by decide +kernel
theorem dX6_carry_35 : decode cX6_carry 35 = .ok (.aload_n 0, 1) := by decide +kernel
theorem dX6_carry_36 : decode cX6_carry 36 = .ok (.iload_n 2, 1) := by decide +kernel
theorem dX6_carry_37 : decode cX6_carry 37 = .ok (.iconst 1, 1) := by decide +kernel
theorem dX6_carry_38 : decode cX6_carry 38 = .ok (.iload_n 3, 1) := by decide +kernel
theorem dX6_carry_39 : decode cX6_carry 39 = .ok (.ifCond .ge 7, 3) := by decide +kernel
theorem dX6_carry_42 : decode cX6_carry 42 = .ok (.iconst 0, 1) := by decide +kernel
theorem dX6_carry_43 : decode cX6_carry 43 = .ok (.goto 4, 3) := by decide +kernel
theorem dX6_carry_46 : decode cX6_carry 46 = .ok (.iload_n 3, 1) := by decide +kernel
theorem dX6_carry_47 : decode cX6_carry 47 = .ok (.invokevirtual 94, 3) := by decide +kernel
theorem dX6_carry_50 : decode cX6_carry 50 = .ok (.aload_n 0, 1) := by decide +kernel
theorem dX6_carry_51 : decode cX6_carry 51 = .ok (.iload_n 2, 1) := by decide +kernel
theorem dX6_carry_52 : decode cX6_carry 52 = .ok (.iconst 2, 1) := by decide +kernel
theorem dX6_carry_53 : decode cX6_carry 53 = .ok (.aload_n 0, 1) := by decide +kernel
theorem dX6_carry_54 : decode cX6_carry 54 = .ok (.iload_n 2, 1) := by decide +kernel
theorem dX6_carry_55 : decode cX6_carry 55 = .ok (.iconst 2, 1) := by decide +kernel
theorem dX6_carry_56 : decode cX6_carry 56 = .ok (.invokevirtual 47, 3) := by decide +kernel
theorem dX6_carry_59 : decode cX6_carry 59 = .ok (.iconst 1, 1) := by decide +kernel
theorem dX6_carry_60 : decode cX6_carry 60 = .ok (.iadd, 1) := by decide +kernel
theorem dX6_carry_61 : decode cX6_carry 61 = .ok (.invokevirtual 94, 3) := by decide +kernel
theorem dX6_carry_64 : decode cX6_carry 64 = .ok (.iinc 2 1, 3) := by decide +kernel
theorem dX6_carry_67 : decode cX6_carry 67 = .ok (.goto (-65), 3) := by decide +kernel
theorem dX6_carry_70 : decode cX6_carry 70 = .ok (.return_, 1) := by decide +kernel
theorem dX6_ends_0 : decode cX6_ends 0 = .ok (.aload_n 0, 1) := by decide +kernel
theorem dX6_ends_1 : decode cX6_ends 1 = .ok (.iload_n 1, 1) := by decide +kernel
theorem dX6_ends_2 : decode cX6_ends 2 = .ok (.iconst 5, 1) := by decide +kernel
theorem dX6_ends_3 : decode cX6_ends 3 = .ok (.iconst 2, 1) := by decide +kernel
theorem dX6_ends_4 : decode cX6_ends 4 = .ok (.invokevirtual 77, 3) := by decide +kernel
theorem dX6_ends_7 : decode cX6_ends 7 = .ok (.aload_n 0, 1) := by decide +kernel
theorem dX6_ends_8 : decode cX6_ends 8 = .ok (.iload_n 1, 1) := by decide +kernel
theorem dX6_ends_9 : decode cX6_ends 9 = .ok (.bipush 11, 2) := by decide +kernel
theorem dX6_ends_11 : decode cX6_ends 11 = .ok (.aload_n 0, 1) := by decide +kernel
theorem dX6_ends_12 : decode cX6_ends 12 = .ok (.getfield 7, 3) := by decide +kernel
theorem dX6_ends_15 : decode cX6_ends 15 = .ok (.iconst 4, 1) := by decide +kernel
theorem dX6_ends_16 : decode cX6_ends 16 = .ok (.iaload, 1) := by decide +kernel
theorem dX6_ends_17 : decode cX6_ends 17 = .ok (.invokevirtual 77, 3) := by decide +kernel
theorem dX6_ends_20 : decode cX6_ends 20 = .ok (.iconst 0, 1) := by decide +kernel
theorem dX6_ends_21 : decode cX6_ends 21 = .ok (.istore_n 2, 1) := by decide +kernel
theorem dX6_ends_22 : decode cX6_ends 22 = .ok (.iload_n 2, 1) := by decide +kernel
theorem dX6_ends_23 : decode cX6_ends 23 = .ok (.aload_n 0, 1) := by decide +kernel
theorem dX6_ends_24 : decode cX6_ends 24 = .ok (.getfield 7, 3) := by decide +kernel
theorem dX6_ends_27 : decode cX6_ends 27 = .ok (.iconst 5, 1) := by decide +kernel
theorem dX6_ends_28 : decode cX6_ends 28 = .ok (.iaload, 1) := by decide +kernel
theorem dX6_ends_29 : decode cX6_ends 29 = .ok (.if_icmp .ge 33, 3) := by decide +kernel
theorem dX6_ends_32 : decode cX6_ends 32 = .ok (.aload_n 0, 1) := by decide +kernel
theorem dX6_ends_33 : decode cX6_ends 33 = .ok (.iload_n 2, 1) := by decide +kernel
theorem dX6_ends_34 : decode cX6_ends 34 = .ok (.iconst 3, 1) := by decide +kernel
theorem dX6_ends_35 : decode cX6_ends 35 = .ok (.aload_n 0, 1) := by decide +kernel
theorem dX6_ends_36 : decode cX6_ends 36 = .ok (.iload_n 2, 1) := by decide +kernel
theorem dX6_ends_37 : decode cX6_ends 37 = .ok (.iconst 3, 1) := by decide +kernel
theorem dX6_ends_38 : decode cX6_ends 38 = .ok (.invokevirtual 47, 3) := by decide +kernel
theorem dX6_ends_41 : decode cX6_ends 41 = .ok (.aload_n 0, 1) := by decide +kernel
theorem dX6_ends_42 : decode cX6_ends 42 = .ok (.iload_n 1, 1) := by decide +kernel
theorem dX6_ends_43 : decode cX6_ends 43 = .ok (.bipush 7, 2) := by decide +kernel
theorem dX6_ends_45 : decode cX6_ends 45 = .ok (.invokevirtual 43, 3) := by decide +kernel
theorem dX6_ends_48 : decode cX6_ends 48 = .ok (.iload_n 2, 1) := by decide +kernel
theorem dX6_ends_49 : decode cX6_ends 49 = .ok (.ishr, 1) := by decide +kernel
theorem dX6_ends_50 : decode cX6_ends 50 = .ok (.iconst 1, 1) := by decide +kernel
theorem dX6_ends_51 : decode cX6_ends 51 = .ok (.iand, 1) := by decide +kernel
theorem dX6_ends_52 : decode cX6_ends 52 = .ok (.iadd, 1) := by decide +kernel
theorem dX6_ends_53 : decode cX6_ends 53 = .ok (.invokevirtual 94, 3) := by decide +kernel
theorem dX6_ends_56 : decode cX6_ends 56 = .ok (.iinc 2 1, 3) := by decide +kernel
theorem dX6_ends_59 : decode cX6_ends 59 = .ok (.goto (-37), 3) := by decide +kernel
theorem dX6_ends_62 : decode cX6_ends 62 = .ok (.return_, 1) := by decide +kernel
theorem dX6_works_0 : decode cX6_works 0 = .ok (.aload_n 0, 1) := by decide +kernel
theorem dX6_works_1 : decode cX6_works 1 = .ok (.iload_n 1, 1) := by decide +kernel
theorem dX6_works_2 : decode cX6_works 2 = .ok (.bipush 7, 2) := by decide +kernel
theorem dX6_works_4 : decode cX6_works 4 = .ok (.invokevirtual 43, 3) := by decide +kernel
theorem dX6_works_7 : decode cX6_works 7 = .ok (.istore_n 2, 1) := by decide +kernel
theorem dX6_works_8 : decode cX6_works 8 = .ok (.aload_n 0, 1) := by decide +kernel
theorem dX6_works_9 : decode cX6_works 9 = .ok (.iload_n 1, 1) := by decide +kernel
theorem dX6_works_10 : decode cX6_works 10 = .ok (.bipush 9, 2) := by decide +kernel
theorem dX6_works_12 : decode cX6_works 12 = .ok (.invokevirtual 43, 3) := by decide +kernel
theorem dX6_works_15 : decode cX6_works 15 = .ok (.ifCond .le 26, 3) := by decide +kernel
theorem dX6_works_18 : decode cX6_works 18 = .ok (.aload_n 0, 1) := by decide +kernel
theorem dX6_works_19 : decode cX6_works 19 = .ok (.iload_n 1, 1) := by decide +kernel
theorem dX6_works_20 : decode cX6_works 20 = .ok (.bipush 9, 2) := by decide +kernel
theorem dX6_works_22 : decode cX6_works 22 = .ok (.aload_n 0, 1) := by decide +kernel
theorem dX6_works_23 : decode cX6_works 23 = .ok (.iload_n 1, 1) := by decide +kernel
theorem dX6_works_24 : decode cX6_works 24 = .ok (.bipush 9, 2) := by decide +kernel
theorem dX6_works_26 : decode cX6_works 26 = .ok (.invokevirtual 43, 3) := by decide +kernel
theorem dX6_works_29 : decode cX6_works 29 = .ok (.iconst 1, 1) := by decide +kernel
theorem dX6_works_30 : decode cX6_works 30 = .ok (.isub, 1) := by decide +kernel
theorem dX6_works_31 : decode cX6_works 31 = .ok (.invokevirtual 77, 3) := by decide +kernel
theorem dX6_works_34 : decode cX6_works 34 = .ok (.aload_n 0, 1) := by decide +kernel
theorem dX6_works_35 : decode cX6_works 35 = .ok (.iload_n 2, 1) := by decide +kernel
theorem dX6_works_36 : decode cX6_works 36 = .ok (.invokevirtual 97, 3) := by decide +kernel
theorem dX6_works_39 : decode cX6_works 39 = .ok (.iconst 0, 1) := by decide +kernel
theorem dX6_works_40 : decode cX6_works 40 = .ok (.ireturn, 1) := by decide +kernel
theorem dX6_works_41 : decode cX6_works 41 = .ok (.aload_n 0, 1) := by decide +kernel
theorem dX6_works_42 : decode cX6_works 42 = .ok (.iload_n 2, 1) := by decide +kernel
theorem dX6_works_43 : decode cX6_works 43 = .ok (.invokevirtual 65, 3) := by decide +kernel
theorem dX6_works_46 : decode cX6_works 46 = .ok (.aload_n 0, 1) := by decide +kernel
theorem dX6_works_47 : decode cX6_works 47 = .ok (.iload_n 1, 1) := by decide +kernel
theorem dX6_works_48 : decode cX6_works 48 = .ok (.bipush 6, 2) := by decide +kernel
theorem dX6_works_50 : decode cX6_works 50 = .ok (.invokevirtual 43, 3) := by decide +kernel
theorem dX6_works_53 : decode cX6_works 53 = .ok (.if_icmp .ge 37, 3) := by decide +kernel
theorem dX6_works_56 : decode cX6_works 56 = .ok (.aload_n 0, 1) := by decide +kernel
theorem dX6_works_57 : decode cX6_works 57 = .ok (.iload_n 1, 1) := by decide +kernel
theorem dX6_works_58 : decode cX6_works 58 = .ok (.bipush 10, 2) := by decide +kernel
theorem dX6_works_60 : decode cX6_works 60 = .ok (.aload_n 0, 1) := by decide +kernel
theorem dX6_works_61 : decode cX6_works 61 = .ok (.iload_n 1, 1) := by decide +kernel
theorem dX6_works_62 : decode cX6_works 62 = .ok (.bipush 10, 2) := by decide +kernel
theorem dX6_works_64 : decode cX6_works 64 = .ok (.invokevirtual 43, 3) := by decide +kernel
theorem dX6_works_67 : decode cX6_works 67 = .ok (.iconst 1, 1) := by decide +kernel
theorem dX6_works_68 : decode cX6_works 68 = .ok (.iadd, 1) := by decide +kernel
theorem dX6_works_69 : decode cX6_works 69 = .ok (.invokevirtual 77, 3) := by decide +kernel
theorem dX6_works_72 : decode cX6_works 72 = .ok (.aload_n 0, 1) := by decide +kernel
theorem dX6_works_73 : decode cX6_works 73 = .ok (.getfield 7, 3) := by decide +kernel
theorem dX6_works_76 : decode cX6_works 76 = .ok (.bipush 8, 2) := by decide +kernel
theorem dX6_works_78 : decode cX6_works 78 = .ok (.dup2, 1) := by decide +kernel
theorem dX6_works_79 : decode cX6_works 79 = .ok (.iaload, 1) := by decide +kernel
theorem dX6_works_80 : decode cX6_works 80 = .ok (.iconst 1, 1) := by decide +kernel
theorem dX6_works_81 : decode cX6_works 81 = .ok (.iadd, 1) := by decide +kernel
theorem dX6_works_82 : decode cX6_works 82 = .ok (.iastore, 1) := by decide +kernel
theorem dX6_works_83 : decode cX6_works 83 = .ok (.aload_n 0, 1) := by decide +kernel
theorem dX6_works_84 : decode cX6_works 84 = .ok (.iload_n 2, 1) := by decide +kernel
theorem dX6_works_85 : decode cX6_works 85 = .ok (.invokevirtual 97, 3) := by decide +kernel
theorem dX6_works_88 : decode cX6_works 88 = .ok (.iconst 0, 1) := by decide +kernel
theorem dX6_works_89 : decode cX6_works 89 = .ok (.ireturn, 1) := by decide +kernel
theorem dX6_works_90 : decode cX6_works 90 = .ok (.aload_n 0, 1) := by decide +kernel
theorem dX6_works_91 : decode cX6_works 91 = .ok (.iload_n 1, 1) := by decide +kernel
theorem dX6_works_92 : decode cX6_works 92 = .ok (.iconst 2, 1) := by decide +kernel
theorem dX6_works_93 : decode cX6_works 93 = .ok (.aload_n 0, 1) := by decide +kernel
theorem dX6_works_94 : decode cX6_works 94 = .ok (.iload_n 1, 1) := by decide +kernel
theorem dX6_works_95 : decode cX6_works 95 = .ok (.iconst 2, 1) := by decide +kernel
theorem dX6_works_96 : decode cX6_works 96 = .ok (.invokevirtual 43, 3) := by decide +kernel
theorem dX6_works_99 : decode cX6_works 99 = .ok (.iconst 1, 1) := by decide +kernel
theorem dX6_works_100 : decode cX6_works 100 = .ok (.isub, 1) := by decide +kernel
theorem dX6_works_101 : decode cX6_works 101 = .ok (.invokevirtual 77, 3) := by decide +kernel
theorem dX6_works_104 : decode cX6_works 104 = .ok (.aload_n 0, 1) := by decide +kernel
theorem dX6_works_105 : decode cX6_works 105 = .ok (.getfield 7, 3) := by decide +kernel
theorem dX6_works_108 : decode cX6_works 108 = .ok (.bipush 7, 2) := by decide +kernel
theorem dX6_works_110 : decode cX6_works 110 = .ok (.dup2, 1) := by decide +kernel
theorem dX6_works_111 : decode cX6_works 111 = .ok (.iaload, 1) := by decide +kernel
theorem dX6_works_112 : decode cX6_works 112 = .ok (.iconst 1, 1) := by decide +kernel
theorem dX6_works_113 : decode cX6_works 113 = .ok (.iadd, 1) := by decide +kernel
theorem dX6_works_114 : decode cX6_works 114 = .ok (.iastore, 1) := by decide +kernel
theorem dX6_works_115 : decode cX6_works 115 = .ok (.aload_n 0, 1) := by decide +kernel
theorem dX6_works_116 : decode cX6_works 116 = .ok (.iload_n 2, 1) := by decide +kernel
theorem dX6_works_117 : decode cX6_works 117 = .ok (.invokevirtual 101, 3) := by decide +kernel
theorem dX6_works_120 : decode cX6_works 120 = .ok (.aload_n 0, 1) := by decide +kernel
theorem dX6_works_121 : decode cX6_works 121 = .ok (.iload_n 1, 1) := by decide +kernel
theorem dX6_works_122 : decode cX6_works 122 = .ok (.iconst 2, 1) := by decide +kernel
theorem dX6_works_123 : decode cX6_works 123 = .ok (.invokevirtual 43, 3) := by decide +kernel
theorem dX6_works_126 : decode cX6_works 126 = .ok (.ifCond .ne 8, 3) := by decide +kernel
theorem dX6_works_129 : decode cX6_works 129 = .ok (.aload_n 0, 1) := by decide +kernel
theorem dX6_works_130 : decode cX6_works 130 = .ok (.iload_n 1, 1) := by decide +kernel
theorem dX6_works_131 : decode cX6_works 131 = .ok (.invokevirtual 104, 3) := by decide +kernel
theorem dX6_works_134 : decode cX6_works 134 = .ok (.aload_n 0, 1) := by decide +kernel
theorem dX6_works_135 : decode cX6_works 135 = .ok (.iload_n 1, 1) := by decide +kernel
theorem dX6_works_136 : decode cX6_works 136 = .ok (.iconst 2, 1) := by decide +kernel
theorem dX6_works_137 : decode cX6_works 137 = .ok (.invokevirtual 43, 3) := by decide +kernel
theorem dX6_works_140 : decode cX6_works 140 = .ok (.ifCond .ne 7, 3) := by decide +kernel
theorem dX6_works_143 : decode cX6_works 143 = .ok (.iconst 1, 1) := by decide +kernel
theorem dX6_works_144 : decode cX6_works 144 = .ok (.goto 4, 3) := by decide +kernel
theorem dX6_works_147 : decode cX6_works 147 = .ok (.iconst 0, 1) := by decide +kernel
theorem dX6_works_148 : decode cX6_works 148 = .ok (.ireturn, 1) := by decide +kernel
theorem dX6_goesBy_0 : decode cX6_goesBy 0 = .ok (.sipush 1023, 3) := by decide +kernel
theorem dX6_goesBy_3 : decode cX6_goesBy 3 = .ok (.aload_n 0, 1) := by decide +kernel
theorem dX6_goesBy_4 : decode cX6_goesBy 4 = .ok (.invokevirtual 57, 3) := by decide +kernel
theorem dX6_goesBy_7 : decode cX6_goesBy 7 = .ok (.iconst (-1), 1) := by decide +kernel
theorem dX6_goesBy_8 : decode cX6_goesBy 8 = .ok (.ixor, 1) := by decide +kernel
theorem dX6_goesBy_9 : decode cX6_goesBy 9 = .ok (.iand, 1) := by decide +kernel
theorem dX6_goesBy_10 : decode cX6_goesBy 10 = .ok (.istore_n 1, 1) := by decide +kernel
theorem dX6_goesBy_11 : decode cX6_goesBy 11 = .ok (.iconst 0, 1) := by decide +kernel
theorem dX6_goesBy_12 : decode cX6_goesBy 12 = .ok (.istore_n 2, 1) := by decide +kernel
theorem dX6_goesBy_13 : decode cX6_goesBy 13 = .ok (.iconst 0, 1) := by decide +kernel
theorem dX6_goesBy_14 : decode cX6_goesBy 14 = .ok (.istore_n 3, 1) := by decide +kernel
theorem dX6_goesBy_15 : decode cX6_goesBy 15 = .ok (.iload_n 3, 1) := by decide +kernel
theorem dX6_goesBy_16 : decode cX6_goesBy 16 = .ok (.aload_n 0, 1) := by decide +kernel
theorem dX6_goesBy_17 : decode cX6_goesBy 17 = .ok (.getfield 7, 3) := by decide +kernel
theorem dX6_goesBy_20 : decode cX6_goesBy 20 = .ok (.bipush 6, 2) := by decide +kernel
theorem dX6_goesBy_22 : decode cX6_goesBy 22 = .ok (.iaload, 1) := by decide +kernel
theorem dX6_goesBy_23 : decode cX6_goesBy 23 = .ok (.if_icmp .ge 35, 3) := by decide +kernel
theorem dX6_goesBy_26 : decode cX6_goesBy 26 = .ok (.iload_n 2, 1) := by decide +kernel
theorem dX6_goesBy_27 : decode cX6_goesBy 27 = .ok (.aload_n 0, 1) := by decide +kernel
theorem dX6_goesBy_28 : decode cX6_goesBy 28 = .ok (.iload_n 3, 1) := by decide +kernel
theorem dX6_goesBy_29 : decode cX6_goesBy 29 = .ok (.iconst 5, 1) := by decide +kernel
theorem dX6_goesBy_30 : decode cX6_goesBy 30 = .ok (.invokevirtual 43, 3) := by decide +kernel
theorem dX6_goesBy_33 : decode cX6_goesBy 33 = .ok (.iconst 1, 1) := by decide +kernel
theorem dX6_goesBy_34 : decode cX6_goesBy 34 = .ok (.if_icmp .ne 15, 3) := by decide +kernel
theorem dX6_goesBy_37 : decode cX6_goesBy 37 = .ok (.aload_n 0, 1) := by decide +kernel
theorem dX6_goesBy_38 : decode cX6_goesBy 38 = .ok (.iload_n 3, 1) := by decide +kernel
theorem dX6_goesBy_39 : decode cX6_goesBy 39 = .ok (.invokevirtual 107, 3) := by decide +kernel
theorem dX6_goesBy_42 : decode cX6_goesBy 42 = .ok (.ifCond .eq 7, 3) := by decide +kernel
theorem dX6_goesBy_45 : decode cX6_goesBy 45 = .ok (.iconst 1, 1) := by decide +kernel
theorem dX6_goesBy_46 : decode cX6_goesBy 46 = .ok (.goto 4, 3) := by decide +kernel
theorem dX6_goesBy_49 : decode cX6_goesBy 49 = .ok (.iconst 0, 1) := by decide +kernel
theorem dX6_goesBy_50 : decode cX6_goesBy 50 = .ok (.iadd, 1) := by decide +kernel
theorem dX6_goesBy_51 : decode cX6_goesBy 51 = .ok (.istore_n 2, 1) := by decide +kernel
theorem dX6_goesBy_52 : decode cX6_goesBy 52 = .ok (.iinc 3 1, 3) := by decide +kernel
theorem dX6_goesBy_55 : decode cX6_goesBy 55 = .ok (.goto (-40), 3) := by decide +kernel
theorem dX6_goesBy_58 : decode cX6_goesBy 58 = .ok (.aload_n 0, 1) := by decide +kernel
theorem dX6_goesBy_59 : decode cX6_goesBy 59 = .ok (.iload_n 1, 1) := by decide +kernel
theorem dX6_goesBy_60 : decode cX6_goesBy 60 = .ok (.invokevirtual 97, 3) := by decide +kernel
theorem dX6_goesBy_63 : decode cX6_goesBy 63 = .ok (.aload_n 0, 1) := by decide +kernel
theorem dX6_goesBy_64 : decode cX6_goesBy 64 = .ok (.getfield 7, 3) := by decide +kernel
theorem dX6_goesBy_67 : decode cX6_goesBy 67 = .ok (.iconst 4, 1) := by decide +kernel
theorem dX6_goesBy_68 : decode cX6_goesBy 68 = .ok (.dup2, 1) := by decide +kernel
theorem dX6_goesBy_69 : decode cX6_goesBy 69 = .ok (.iaload, 1) := by decide +kernel
theorem dX6_goesBy_70 : decode cX6_goesBy 70 = .ok (.iconst 1, 1) := by decide +kernel
theorem dX6_goesBy_71 : decode cX6_goesBy 71 = .ok (.iadd, 1) := by decide +kernel
theorem dX6_goesBy_72 : decode cX6_goesBy 72 = .ok (.iastore, 1) := by decide +kernel
theorem dX6_goesBy_73 : decode cX6_goesBy 73 = .ok (.iload_n 2, 1) := by decide +kernel
theorem dX6_goesBy_74 : decode cX6_goesBy 74 = .ok (.ireturn, 1) := by decide +kernel
theorem dX6_leastOf_0 : decode cX6_leastOf 0 = .ok (.iload_n 0, 1) := by decide +kernel
theorem dX6_leastOf_1 : decode cX6_leastOf 1 = .ok (.iconst 1, 1) := by decide +kernel
theorem dX6_leastOf_2 : decode cX6_leastOf 2 = .ok (.if_icmp .eq 8, 3) := by decide +kernel
theorem dX6_leastOf_5 : decode cX6_leastOf 5 = .ok (.iload_n 0, 1) := by decide +kernel
theorem dX6_leastOf_6 : decode cX6_leastOf 6 = .ok (.iconst 3, 1) := by decide +kernel
theorem dX6_leastOf_7 : decode cX6_leastOf 7 = .ok (.if_icmp .ne 7, 3) := by decide +kernel
theorem dX6_leastOf_10 : decode cX6_leastOf 10 = .ok (.iconst 1, 1) := by decide +kernel
theorem dX6_leastOf_11 : decode cX6_leastOf 11 = .ok (.goto 4, 3) := by decide +kernel
theorem dX6_leastOf_14 : decode cX6_leastOf 14 = .ok (.iconst 0, 1) := by decide +kernel
theorem dX6_leastOf_15 : decode cX6_leastOf 15 = .ok (.ireturn, 1) := by decide +kernel
theorem dX6_mostOf_0 : decode cX6_mostOf 0 = .ok (.iload_n 0, 1) := by decide +kernel
theorem dX6_mostOf_1 : decode cX6_mostOf 1 = .ok (.ifCond .ne 8, 3) := by decide +kernel
theorem dX6_mostOf_4 : decode cX6_mostOf 4 = .ok (.bipush 50, 2) := by decide +kernel
theorem dX6_mostOf_6 : decode cX6_mostOf 6 = .ok (.goto 15, 3) := by decide +kernel
theorem dX6_mostOf_9 : decode cX6_mostOf 9 = .ok (.iload_n 0, 1) := by decide +kernel
theorem dX6_mostOf_10 : decode cX6_mostOf 10 = .ok (.iconst 3, 1) := by decide +kernel
theorem dX6_mostOf_11 : decode cX6_mostOf 11 = .ok (.if_icmp .ne 8, 3) := by decide +kernel
theorem dX6_mostOf_14 : decode cX6_mostOf 14 = .ok (.bipush 6, 2) := by decide +kernel
theorem dX6_mostOf_16 : decode cX6_mostOf 16 = .ok (.goto 5, 3) := by decide +kernel
theorem dX6_mostOf_19 : decode cX6_mostOf 19 = .ok (.bipush 20, 2) := by decide +kernel
theorem dX6_mostOf_21 : decode cX6_mostOf 21 = .ok (.ireturn, 1) := by decide +kernel
theorem dX6_set_0 : decode cX6_set 0 = .ok (.aload_n 0, 1) := by decide +kernel
theorem dX6_set_1 : decode cX6_set 1 = .ok (.iconst 0, 1) := by decide +kernel
theorem dX6_set_2 : decode cX6_set 2 = .ok (.putfield 32, 3) := by decide +kernel
theorem dX6_set_5 : decode cX6_set 5 = .ok (.iload_n 1, 1) := by decide +kernel
theorem dX6_set_6 : decode cX6_set 6 = .ok (.iconst 0, 1) := by decide +kernel
theorem dX6_set_7 : decode cX6_set 7 = .ok (.iconst 3, 1) := by decide +kernel
theorem dX6_set_8 : decode cX6_set 8 = .ok (.invokestatic 36, 3) := by decide +kernel
theorem dX6_set_11 : decode cX6_set 11 = .ok (.ifCond .eq 18, 3) := by decide +kernel
theorem dX6_set_14 : decode cX6_set 14 = .ok (.iload_n 2, 1) := by decide +kernel
theorem dX6_set_15 : decode cX6_set 15 = .ok (.iload_n 1, 1) := by decide +kernel
theorem dX6_set_16 : decode cX6_set 16 = .ok (.invokestatic 111, 3) := by decide +kernel
theorem dX6_set_19 : decode cX6_set 19 = .ok (.iload_n 1, 1) := by decide +kernel
theorem dX6_set_20 : decode cX6_set 20 = .ok (.invokestatic 114, 3) := by decide +kernel
theorem dX6_set_23 : decode cX6_set 23 = .ok (.invokestatic 36, 3) := by decide +kernel
theorem dX6_set_26 : decode cX6_set 26 = .ok (.ifCond .ne 6, 3) := by decide +kernel
theorem dX6_set_29 : decode cX6_set 29 = .ok (.bipush (-2), 2) := by decide +kernel
theorem dX6_set_31 : decode cX6_set 31 = .ok (.ireturn, 1) := by decide +kernel
theorem dX6_set_32 : decode cX6_set 32 = .ok (.aload_n 0, 1) := by decide +kernel
theorem dX6_set_33 : decode cX6_set 33 = .ok (.invokevirtual 117, 3) := by decide +kernel
theorem dX6_set_36 : decode cX6_set 36 = .ok (.aload_n 0, 1) := by decide +kernel
theorem dX6_set_37 : decode cX6_set 37 = .ok (.getfield 7, 3) := by decide +kernel
theorem dX6_set_40 : decode cX6_set 40 = .ok (.iload_n 1, 1) := by decide +kernel
theorem dX6_set_41 : decode cX6_set 41 = .ok (.iaload, 1) := by decide +kernel
theorem dX6_set_42 : decode cX6_set 42 = .ok (.istore_n 3, 1) := by decide +kernel
theorem dX6_set_43 : decode cX6_set 43 = .ok (.aload_n 0, 1) := by decide +kernel
theorem dX6_set_44 : decode cX6_set 44 = .ok (.getfield 7, 3) := by decide +kernel
theorem dX6_set_47 : decode cX6_set 47 = .ok (.iload_n 1, 1) := by decide +kernel
theorem dX6_set_48 : decode cX6_set 48 = .ok (.iload_n 2, 1) := by decide +kernel
theorem dX6_set_49 : decode cX6_set 49 = .ok (.iastore, 1) := by decide +kernel
theorem dX6_set_50 : decode cX6_set 50 = .ok (.iload_n 3, 1) := by decide +kernel
theorem dX6_set_51 : decode cX6_set 51 = .ok (.ireturn, 1) := by decide +kernel
theorem dX6_refusesPerson_0 : decode cX6_refusesPerson 0 = .ok (.iload_n 1, 1) := by decide +kernel
theorem dX6_refusesPerson_1 : decode cX6_refusesPerson 1 = .ok (.bipush 10, 2) := by decide +kernel
theorem dX6_refusesPerson_3 : decode cX6_refusesPerson 3 = .ok (.sipush 150, 3) := by decide +kernel
theorem dX6_refusesPerson_6 : decode cX6_refusesPerson 6 = .ok (.invokestatic 36, 3) := by decide +kernel
theorem dX6_refusesPerson_9 : decode cX6_refusesPerson 9 = .ok (.ifCond .ne 8, 3) := by decide +kernel
theorem dX6_refusesPerson_12 : decode cX6_refusesPerson 12 = .ok (.bipush (-2), 2) := by decide +kernel
theorem dX6_refusesPerson_14 : decode cX6_refusesPerson 14 = .ok (.goto 20, 3) := by decide +kernel
theorem dX6_refusesPerson_17 : decode cX6_refusesPerson 17 = .ok (.aload_n 0, 1) := by decide +kernel
theorem dX6_refusesPerson_18 : decode cX6_refusesPerson 18 = .ok (.getfield 7, 3) := by decide +kernel
theorem dX6_refusesPerson_21 : decode cX6_refusesPerson 21 = .ok (.iconst 5, 1) := by decide +kernel
theorem dX6_refusesPerson_22 : decode cX6_refusesPerson 22 = .ok (.iaload, 1) := by decide +kernel
theorem dX6_refusesPerson_23 : decode cX6_refusesPerson 23 = .ok (.bipush 10, 2) := by decide +kernel
theorem dX6_refusesPerson_25 : decode cX6_refusesPerson 25 = .ok (.if_icmp .ne 8, 3) := by decide +kernel
theorem dX6_refusesPerson_28 : decode cX6_refusesPerson 28 = .ok (.bipush (-4), 2) := by decide +kernel
theorem dX6_refusesPerson_30 : decode cX6_refusesPerson 30 = .ok (.goto 4, 3) := by decide +kernel
theorem dX6_refusesPerson_33 : decode cX6_refusesPerson 33 = .ok (.iconst 0, 1) := by decide +kernel
theorem dX6_refusesPerson_34 : decode cX6_refusesPerson 34 = .ok (.ireturn, 1) := by decide +kernel
theorem dX6_addsPerson_0 : decode cX6_addsPerson 0 = .ok (.aload_n 0, 1) := by decide +kernel
theorem dX6_addsPerson_1 : decode cX6_addsPerson 1 = .ok (.getfield 7, 3) := by decide +kernel
theorem dX6_addsPerson_4 : decode cX6_addsPerson 4 = .ok (.iconst 5, 1) := by decide +kernel
theorem dX6_addsPerson_5 : decode cX6_addsPerson 5 = .ok (.iaload, 1) := by decide +kernel
theorem dX6_addsPerson_6 : decode cX6_addsPerson 6 = .ok (.istore_n 2, 1) := by decide +kernel
theorem dX6_addsPerson_7 : decode cX6_addsPerson 7 = .ok (.aload_n 0, 1) := by decide +kernel
theorem dX6_addsPerson_8 : decode cX6_addsPerson 8 = .ok (.iload_n 2, 1) := by decide +kernel
theorem dX6_addsPerson_9 : decode cX6_addsPerson 9 = .ok (.iconst 0, 1) := by decide +kernel
theorem dX6_addsPerson_10 : decode cX6_addsPerson 10 = .ok (.iload_n 1, 1) := by decide +kernel
theorem dX6_addsPerson_11 : decode cX6_addsPerson 11 = .ok (.invokevirtual 94, 3) := by decide +kernel
theorem dX6_addsPerson_14 : decode cX6_addsPerson 14 = .ok (.aload_n 0, 1) := by decide +kernel
theorem dX6_addsPerson_15 : decode cX6_addsPerson 15 = .ok (.iload_n 2, 1) := by decide +kernel
theorem dX6_addsPerson_16 : decode cX6_addsPerson 16 = .ok (.iconst 1, 1) := by decide +kernel
theorem dX6_addsPerson_17 : decode cX6_addsPerson 17 = .ok (.iload_n 1, 1) := by decide +kernel
theorem dX6_addsPerson_18 : decode cX6_addsPerson 18 = .ok (.invokevirtual 94, 3) := by decide +kernel
theorem dX6_addsPerson_21 : decode cX6_addsPerson 21 = .ok (.aload_n 0, 1) := by decide +kernel
theorem dX6_addsPerson_22 : decode cX6_addsPerson 22 = .ok (.getfield 7, 3) := by decide +kernel
theorem dX6_addsPerson_25 : decode cX6_addsPerson 25 = .ok (.iconst 5, 1) := by decide +kernel
theorem dX6_addsPerson_26 : decode cX6_addsPerson 26 = .ok (.dup2, 1) := by decide +kernel
theorem dX6_addsPerson_27 : decode cX6_addsPerson 27 = .ok (.iaload, 1) := by decide +kernel
theorem dX6_addsPerson_28 : decode cX6_addsPerson 28 = .ok (.iconst 1, 1) := by decide +kernel
theorem dX6_addsPerson_29 : decode cX6_addsPerson 29 = .ok (.iadd, 1) := by decide +kernel
theorem dX6_addsPerson_30 : decode cX6_addsPerson 30 = .ok (.iastore, 1) := by decide +kernel
theorem dX6_addsPerson_31 : decode cX6_addsPerson 31 = .ok (.iload_n 2, 1) := by decide +kernel
theorem dX6_addsPerson_32 : decode cX6_addsPerson 32 = .ok (.ireturn, 1) := by decide +kernel
theorem dX6_person_0 : decode cX6_person 0 = .ok (.aload_n 0, 1) := by decide +kernel
theorem dX6_person_1 : decode cX6_person 1 = .ok (.iconst 0, 1) := by decide +kernel
theorem dX6_person_2 : decode cX6_person 2 = .ok (.putfield 32, 3) := by decide +kernel
theorem dX6_person_5 : decode cX6_person 5 = .ok (.aload_n 0, 1) := by decide +kernel
theorem dX6_person_6 : decode cX6_person 6 = .ok (.iload_n 1, 1) := by decide +kernel
theorem dX6_person_7 : decode cX6_person 7 = .ok (.invokevirtual 120, 3) := by decide +kernel
theorem dX6_person_10 : decode cX6_person 10 = .ok (.istore_n 2, 1) := by decide +kernel
theorem dX6_person_11 : decode cX6_person 11 = .ok (.iload_n 2, 1) := by decide +kernel
theorem dX6_person_12 : decode cX6_person 12 = .ok (.ifCond .eq 5, 3) := by decide +kernel
theorem dX6_person_15 : decode cX6_person 15 = .ok (.iload_n 2, 1) := by decide +kernel
theorem dX6_person_16 : decode cX6_person 16 = .ok (.ireturn, 1) := by decide +kernel
theorem dX6_person_17 : decode cX6_person 17 = .ok (.aload_n 0, 1) := by decide +kernel
theorem dX6_person_18 : decode cX6_person 18 = .ok (.invokevirtual 117, 3) := by decide +kernel
theorem dX6_person_21 : decode cX6_person 21 = .ok (.aload_n 0, 1) := by decide +kernel
theorem dX6_person_22 : decode cX6_person 22 = .ok (.iload_n 1, 1) := by decide +kernel
theorem dX6_person_23 : decode cX6_person 23 = .ok (.invokevirtual 123, 3) := by decide +kernel
theorem dX6_person_26 : decode cX6_person 26 = .ok (.ireturn, 1) := by decide +kernel
theorem dX6_buy_0 : decode cX6_buy 0 = .ok (.aload_n 0, 1) := by decide +kernel
theorem dX6_buy_1 : decode cX6_buy 1 = .ok (.iconst 0, 1) := by decide +kernel
theorem dX6_buy_2 : decode cX6_buy 2 = .ok (.putfield 32, 3) := by decide +kernel
theorem dX6_buy_5 : decode cX6_buy 5 = .ok (.iload_n 1, 1) := by decide +kernel
theorem dX6_buy_6 : decode cX6_buy 6 = .ok (.iconst 0, 1) := by decide +kernel
theorem dX6_buy_7 : decode cX6_buy 7 = .ok (.iconst 2, 1) := by decide +kernel
theorem dX6_buy_8 : decode cX6_buy 8 = .ok (.invokestatic 36, 3) := by decide +kernel
theorem dX6_buy_11 : decode cX6_buy 11 = .ok (.ifCond .ne 5, 3) := by decide +kernel
theorem dX6_buy_14 : decode cX6_buy 14 = .ok (.iconst (-1), 1) := by decide +kernel
theorem dX6_buy_15 : decode cX6_buy 15 = .ok (.ireturn, 1) := by decide +kernel
theorem dX6_buy_16 : decode cX6_buy 16 = .ok (.aload_n 0, 1) := by decide +kernel
theorem dX6_buy_17 : decode cX6_buy 17 = .ok (.getfield 7, 3) := by decide +kernel
theorem dX6_buy_20 : decode cX6_buy 20 = .ok (.bipush 9, 2) := by decide +kernel
theorem dX6_buy_22 : decode cX6_buy 22 = .ok (.iload_n 1, 1) := by decide +kernel
theorem dX6_buy_23 : decode cX6_buy 23 = .ok (.iadd, 1) := by decide +kernel
theorem dX6_buy_24 : decode cX6_buy 24 = .ok (.iaload, 1) := by decide +kernel
theorem dX6_buy_25 : decode cX6_buy 25 = .ok (.bipush 9, 2) := by decide +kernel
theorem dX6_buy_27 : decode cX6_buy 27 = .ok (.if_icmp .ne 6, 3) := by decide +kernel
theorem dX6_buy_30 : decode cX6_buy 30 = .ok (.bipush (-4), 2) := by decide +kernel
theorem dX6_buy_32 : decode cX6_buy 32 = .ok (.ireturn, 1) := by decide +kernel
theorem dX6_buy_33 : decode cX6_buy 33 = .ok (.aload_n 0, 1) := by decide +kernel
theorem dX6_buy_34 : decode cX6_buy 34 = .ok (.invokevirtual 117, 3) := by decide +kernel
theorem dX6_buy_37 : decode cX6_buy 37 = .ok (.aload_n 0, 1) := by decide +kernel
theorem dX6_buy_38 : decode cX6_buy 38 = .ok (.getfield 7, 3) := by decide +kernel
theorem dX6_buy_41 : decode cX6_buy 41 = .ok (.bipush 9, 2) := by decide +kernel
theorem dX6_buy_43 : decode cX6_buy 43 = .ok (.iload_n 1, 1) := by decide +kernel
theorem dX6_buy_44 : decode cX6_buy 44 = .ok (.iadd, 1) := by decide +kernel
theorem dX6_buy_45 : decode cX6_buy 45 = .ok (.dup2, 1) := by decide +kernel
theorem dX6_buy_46 : decode cX6_buy 46 = .ok (.iaload, 1) := by decide +kernel
theorem dX6_buy_47 : decode cX6_buy 47 = .ok (.iconst 1, 1) := by decide +kernel
theorem dX6_buy_48 : decode cX6_buy 48 = .ok (.iadd, 1) := by decide +kernel
theorem dX6_buy_49 : decode cX6_buy 49 = .ok (.iastore, 1) := by decide +kernel
theorem dX6_buy_50 : decode cX6_buy 50 = .ok (.aload_n 0, 1) := by decide +kernel
theorem dX6_buy_51 : decode cX6_buy 51 = .ok (.getfield 7, 3) := by decide +kernel
theorem dX6_buy_54 : decode cX6_buy 54 = .ok (.bipush 9, 2) := by decide +kernel
theorem dX6_buy_56 : decode cX6_buy 56 = .ok (.iload_n 1, 1) := by decide +kernel
theorem dX6_buy_57 : decode cX6_buy 57 = .ok (.iadd, 1) := by decide +kernel
theorem dX6_buy_58 : decode cX6_buy 58 = .ok (.iaload, 1) := by decide +kernel
theorem dX6_buy_59 : decode cX6_buy 59 = .ok (.ireturn, 1) := by decide +kernel
theorem dX6_refusesJob_0 : decode cX6_refusesJob 0 = .ok (.iload_n 1, 1) := by decide +kernel
theorem dX6_refusesJob_1 : decode cX6_refusesJob 1 = .ok (.bipush 50, 2) := by decide +kernel
theorem dX6_refusesJob_3 : decode cX6_refusesJob 3 = .ok (.sipush 600, 3) := by decide +kernel
theorem dX6_refusesJob_6 : decode cX6_refusesJob 6 = .ok (.invokestatic 36, 3) := by decide +kernel
theorem dX6_refusesJob_9 : decode cX6_refusesJob 9 = .ok (.ifCond .eq 37, 3) := by decide +kernel
theorem dX6_refusesJob_12 : decode cX6_refusesJob 12 = .ok (.iload_n 2, 1) := by decide +kernel
theorem dX6_refusesJob_13 : decode cX6_refusesJob 13 = .ok (.iconst 0, 1) := by decide +kernel
theorem dX6_refusesJob_14 : decode cX6_refusesJob 14 = .ok (.bipush 9, 2) := by decide +kernel
theorem dX6_refusesJob_16 : decode cX6_refusesJob 16 = .ok (.invokestatic 36, 3) := by decide +kernel
theorem dX6_refusesJob_19 : decode cX6_refusesJob 19 = .ok (.ifCond .eq 27, 3) := by decide +kernel
theorem dX6_refusesJob_22 : decode cX6_refusesJob 22 = .ok (.iload_n 3, 1) := by decide +kernel
theorem dX6_refusesJob_23 : decode cX6_refusesJob 23 = .ok (.iconst 1, 1) := by decide +kernel
theorem dX6_refusesJob_24 : decode cX6_refusesJob 24 = .ok (.bipush 9, 2) := by decide +kernel
theorem dX6_refusesJob_26 : decode cX6_refusesJob 26 = .ok (.invokestatic 36, 3) := by decide +kernel
theorem dX6_refusesJob_29 : decode cX6_refusesJob 29 = .ok (.ifCond .eq 17, 3) := by decide +kernel
theorem dX6_refusesJob_32 : decode cX6_refusesJob 32 = .ok (.iload 4, 2) := by decide +kernel
theorem dX6_refusesJob_34 : decode cX6_refusesJob 34 = .ok (.iconst 0, 1) := by decide +kernel
theorem dX6_refusesJob_35 : decode cX6_refusesJob 35 = .ok (.iconst 3, 1) := by decide +kernel
theorem dX6_refusesJob_36 : decode cX6_refusesJob 36 = .ok (.invokestatic 36, 3) := by decide +kernel
theorem dX6_refusesJob_39 : decode cX6_refusesJob 39 = .ok (.ifCond .eq 7, 3) := by decide +kernel
theorem dX6_refusesJob_42 : decode cX6_refusesJob 42 = .ok (.iconst 1, 1) := by decide +kernel
theorem dX6_refusesJob_43 : decode cX6_refusesJob 43 = .ok (.goto 4, 3) := by decide +kernel
theorem dX6_refusesJob_46 : decode cX6_refusesJob 46 = .ok (.iconst 0, 1) := by decide +kernel
theorem dX6_refusesJob_47 : decode cX6_refusesJob 47 = .ok (.istore 6, 2) := by decide +kernel
theorem dX6_refusesJob_49 : decode cX6_refusesJob 49 = .ok (.iload 6, 2) := by decide +kernel
theorem dX6_refusesJob_51 : decode cX6_refusesJob 51 = .ok (.ifCond .eq 15, 3) := by decide +kernel
theorem dX6_refusesJob_54 : decode cX6_refusesJob 54 = .ok (.iload 5, 2) := by decide +kernel
theorem dX6_refusesJob_56 : decode cX6_refusesJob 56 = .ok (.iconst 0, 1) := by decide +kernel
theorem dX6_refusesJob_57 : decode cX6_refusesJob 57 = .ok (.sipush 999, 3) := by decide +kernel
theorem dX6_refusesJob_60 : decode cX6_refusesJob 60 = .ok (.invokestatic 36, 3) := by decide +kernel
theorem dX6_refusesJob_63 : decode cX6_refusesJob 63 = .ok (.ifCond .ne 6, 3) := by decide +kernel
theorem dX6_refusesJob_66 : decode cX6_refusesJob 66 = .ok (.bipush (-2), 2) := by decide +kernel
theorem dX6_refusesJob_68 : decode cX6_refusesJob 68 = .ok (.ireturn, 1) := by decide +kernel
theorem dX6_refusesJob_69 : decode cX6_refusesJob 69 = .ok (.aload_n 0, 1) := by decide +kernel
theorem dX6_refusesJob_70 : decode cX6_refusesJob 70 = .ok (.getfield 7, 3) := by decide +kernel
theorem dX6_refusesJob_73 : decode cX6_refusesJob 73 = .ok (.bipush 6, 2) := by decide +kernel
theorem dX6_refusesJob_75 : decode cX6_refusesJob 75 = .ok (.iaload, 1) := by decide +kernel
theorem dX6_refusesJob_76 : decode cX6_refusesJob 76 = .ok (.bipush 16, 2) := by decide +kernel
theorem dX6_refusesJob_78 : decode cX6_refusesJob 78 = .ok (.if_icmp .ne 8, 3) := by decide +kernel
theorem dX6_refusesJob_81 : decode cX6_refusesJob 81 = .ok (.bipush (-4), 2) := by decide +kernel
theorem dX6_refusesJob_83 : decode cX6_refusesJob 83 = .ok (.goto 4, 3) := by decide +kernel
theorem dX6_refusesJob_86 : decode cX6_refusesJob 86 = .ok (.iconst 0, 1) := by decide +kernel
theorem dX6_refusesJob_87 : decode cX6_refusesJob 87 = .ok (.ireturn, 1) := by decide +kernel
theorem dX6_addsJob_0 : decode cX6_addsJob 0 = .ok (.aload_n 0, 1) := by decide +kernel
theorem dX6_addsJob_1 : decode cX6_addsJob 1 = .ok (.getfield 7, 3) := by decide +kernel
theorem dX6_addsJob_4 : decode cX6_addsJob 4 = .ok (.bipush 6, 2) := by decide +kernel
theorem dX6_addsJob_6 : decode cX6_addsJob 6 = .ok (.iaload, 1) := by decide +kernel
theorem dX6_addsJob_7 : decode cX6_addsJob 7 = .ok (.istore 6, 2) := by decide +kernel
theorem dX6_addsJob_9 : decode cX6_addsJob 9 = .ok (.aload_n 0, 1) := by decide +kernel
theorem dX6_addsJob_10 : decode cX6_addsJob 10 = .ok (.iload 6, 2) := by decide +kernel
theorem dX6_addsJob_12 : decode cX6_addsJob 12 = .ok (.iconst 0, 1) := by decide +kernel
theorem dX6_addsJob_13 : decode cX6_addsJob 13 = .ok (.iload_n 1, 1) := by decide +kernel
theorem dX6_addsJob_14 : decode cX6_addsJob 14 = .ok (.invokevirtual 77, 3) := by decide +kernel
theorem dX6_addsJob_17 : decode cX6_addsJob 17 = .ok (.aload_n 0, 1) := by decide +kernel
theorem dX6_addsJob_18 : decode cX6_addsJob 18 = .ok (.iload 6, 2) := by decide +kernel
theorem dX6_addsJob_20 : decode cX6_addsJob 20 = .ok (.iconst 1, 1) := by decide +kernel
theorem dX6_addsJob_21 : decode cX6_addsJob 21 = .ok (.iload_n 2, 1) := by decide +kernel
theorem dX6_addsJob_22 : decode cX6_addsJob 22 = .ok (.invokevirtual 77, 3) := by decide +kernel
theorem dX6_addsJob_25 : decode cX6_addsJob 25 = .ok (.aload_n 0, 1) := by decide +kernel
theorem dX6_addsJob_26 : decode cX6_addsJob 26 = .ok (.iload 6, 2) := by decide +kernel
theorem dX6_addsJob_28 : decode cX6_addsJob 28 = .ok (.iconst 2, 1) := by decide +kernel
theorem dX6_addsJob_29 : decode cX6_addsJob 29 = .ok (.iload_n 3, 1) := by decide +kernel
theorem dX6_addsJob_30 : decode cX6_addsJob 30 = .ok (.invokevirtual 77, 3) := by decide +kernel
theorem dX6_addsJob_33 : decode cX6_addsJob 33 = .ok (.aload_n 0, 1) := by decide +kernel
theorem dX6_addsJob_34 : decode cX6_addsJob 34 = .ok (.iload 6, 2) := by decide +kernel
theorem dX6_addsJob_36 : decode cX6_addsJob 36 = .ok (.iconst 3, 1) := by decide +kernel
theorem dX6_addsJob_37 : decode cX6_addsJob 37 = .ok (.iload 4, 2) := by decide +kernel
theorem dX6_addsJob_39 : decode cX6_addsJob 39 = .ok (.invokevirtual 77, 3) := by decide +kernel
theorem dX6_addsJob_42 : decode cX6_addsJob 42 = .ok (.aload_n 0, 1) := by decide +kernel
theorem dX6_addsJob_43 : decode cX6_addsJob 43 = .ok (.iload 6, 2) := by decide +kernel
theorem dX6_addsJob_45 : decode cX6_addsJob 45 = .ok (.iconst 4, 1) := by decide +kernel
theorem dX6_addsJob_46 : decode cX6_addsJob 46 = .ok (.iload 5, 2) := by decide +kernel
theorem dX6_addsJob_48 : decode cX6_addsJob 48 = .ok (.invokevirtual 77, 3) := by decide +kernel
theorem dX6_addsJob_51 : decode cX6_addsJob 51 = .ok (.aload_n 0, 1) := by decide +kernel
theorem dX6_addsJob_52 : decode cX6_addsJob 52 = .ok (.iload 6, 2) := by decide +kernel
theorem dX6_addsJob_54 : decode cX6_addsJob 54 = .ok (.bipush 8, 2) := by decide +kernel
theorem dX6_addsJob_56 : decode cX6_addsJob 56 = .ok (.bipush (-6), 2) := by decide +kernel
theorem dX6_addsJob_58 : decode cX6_addsJob 58 = .ok (.invokevirtual 77, 3) := by decide +kernel
theorem dX6_addsJob_61 : decode cX6_addsJob 61 = .ok (.aload_n 0, 1) := by decide +kernel
theorem dX6_addsJob_62 : decode cX6_addsJob 62 = .ok (.iload 6, 2) := by decide +kernel
theorem dX6_addsJob_64 : decode cX6_addsJob 64 = .ok (.bipush 11, 2) := by decide +kernel
theorem dX6_addsJob_66 : decode cX6_addsJob 66 = .ok (.bipush (-6), 2) := by decide +kernel
theorem dX6_addsJob_68 : decode cX6_addsJob 68 = .ok (.invokevirtual 77, 3) := by decide +kernel
theorem dX6_addsJob_71 : decode cX6_addsJob 71 = .ok (.aload_n 0, 1) := by decide +kernel
theorem dX6_addsJob_72 : decode cX6_addsJob 72 = .ok (.getfield 7, 3) := by decide +kernel
theorem dX6_addsJob_75 : decode cX6_addsJob 75 = .ok (.bipush 6, 2) := by decide +kernel
theorem dX6_addsJob_77 : decode cX6_addsJob 77 = .ok (.dup2, 1) := by decide +kernel
theorem dX6_addsJob_78 : decode cX6_addsJob 78 = .ok (.iaload, 1) := by decide +kernel
theorem dX6_addsJob_79 : decode cX6_addsJob 79 = .ok (.iconst 1, 1) := by decide +kernel
theorem dX6_addsJob_80 : decode cX6_addsJob 80 = .ok (.iadd, 1) := by decide +kernel
theorem dX6_addsJob_81 : decode cX6_addsJob 81 = .ok (.iastore, 1) := by decide +kernel
theorem dX6_addsJob_82 : decode cX6_addsJob 82 = .ok (.iload 6, 2) := by decide +kernel
theorem dX6_addsJob_84 : decode cX6_addsJob 84 = .ok (.ireturn, 1) := by decide +kernel
theorem dX6_job_0 : decode cX6_job 0 = .ok (.aload_n 0, 1) := by decide +kernel
theorem dX6_job_1 : decode cX6_job 1 = .ok (.iconst 0, 1) := by decide +kernel
theorem dX6_job_2 : decode cX6_job 2 = .ok (.putfield 32, 3) := by decide +kernel
theorem dX6_job_5 : decode cX6_job 5 = .ok (.aload_n 0, 1) := by decide +kernel
theorem dX6_job_6 : decode cX6_job 6 = .ok (.iload_n 1, 1) := by decide +kernel
theorem dX6_job_7 : decode cX6_job 7 = .ok (.iload_n 2, 1) := by decide +kernel
theorem dX6_job_8 : decode cX6_job 8 = .ok (.iload_n 3, 1) := by decide +kernel
theorem dX6_job_9 : decode cX6_job 9 = .ok (.iload 4, 2) := by decide +kernel
theorem dX6_job_11 : decode cX6_job 11 = .ok (.iload 5, 2) := by decide +kernel
theorem dX6_job_13 : decode cX6_job 13 = .ok (.invokevirtual 126, 3) := by decide +kernel
theorem dX6_job_16 : decode cX6_job 16 = .ok (.istore 6, 2) := by decide +kernel
theorem dX6_job_18 : decode cX6_job 18 = .ok (.iload 6, 2) := by decide +kernel
theorem dX6_job_20 : decode cX6_job 20 = .ok (.ifCond .eq 6, 3) := by decide +kernel
theorem dX6_job_23 : decode cX6_job 23 = .ok (.iload 6, 2) := by decide +kernel
theorem dX6_job_25 : decode cX6_job 25 = .ok (.ireturn, 1) := by decide +kernel
theorem dX6_job_26 : decode cX6_job 26 = .ok (.aload_n 0, 1) := by decide +kernel
theorem dX6_job_27 : decode cX6_job 27 = .ok (.invokevirtual 117, 3) := by decide +kernel
theorem dX6_job_30 : decode cX6_job 30 = .ok (.aload_n 0, 1) := by decide +kernel
theorem dX6_job_31 : decode cX6_job 31 = .ok (.iload_n 1, 1) := by decide +kernel
theorem dX6_job_32 : decode cX6_job 32 = .ok (.iload_n 2, 1) := by decide +kernel
theorem dX6_job_33 : decode cX6_job 33 = .ok (.iload_n 3, 1) := by decide +kernel
theorem dX6_job_34 : decode cX6_job 34 = .ok (.iload 4, 2) := by decide +kernel
theorem dX6_job_36 : decode cX6_job 36 = .ok (.iload 5, 2) := by decide +kernel
theorem dX6_job_38 : decode cX6_job 38 = .ok (.invokevirtual 130, 3) := by decide +kernel
theorem dX6_job_41 : decode cX6_job 41 = .ok (.ireturn, 1) := by decide +kernel
theorem dX6_refusesBegin_0 : decode cX6_refusesBegin 0 = .ok (.aload_n 0, 1) := by decide +kernel
theorem dX6_refusesBegin_1 : decode cX6_refusesBegin 1 = .ok (.iload_n 1, 1) := by decide +kernel
theorem dX6_refusesBegin_2 : decode cX6_refusesBegin 2 = .ok (.invokevirtual 133, 3) := by decide +kernel
theorem dX6_refusesBegin_5 : decode cX6_refusesBegin 5 = .ok (.ifCond .ne 5, 3) := by decide +kernel
theorem dX6_refusesBegin_8 : decode cX6_refusesBegin 8 = .ok (.iconst (-1), 1) := by decide +kernel
theorem dX6_refusesBegin_9 : decode cX6_refusesBegin 9 = .ok (.ireturn, 1) := by decide +kernel
theorem dX6_refusesBegin_10 : decode cX6_refusesBegin 10 = .ok (.iload_n 3, 1) := by decide +kernel
theorem dX6_refusesBegin_11 : decode cX6_refusesBegin 11 = .ok (.invokestatic 136, 3) := by decide +kernel
theorem dX6_refusesBegin_14 : decode cX6_refusesBegin 14 = .ok (.ifCond .ne 6, 3) := by decide +kernel
theorem dX6_refusesBegin_17 : decode cX6_refusesBegin 17 = .ok (.bipush (-2), 2) := by decide +kernel
theorem dX6_refusesBegin_19 : decode cX6_refusesBegin 19 = .ok (.ireturn, 1) := by decide +kernel
theorem dX6_refusesBegin_20 : decode cX6_refusesBegin 20 = .ok (.aload_n 0, 1) := by decide +kernel
theorem dX6_refusesBegin_21 : decode cX6_refusesBegin 21 = .ok (.iload_n 1, 1) := by decide +kernel
theorem dX6_refusesBegin_22 : decode cX6_refusesBegin 22 = .ok (.iload_n 2, 1) := by decide +kernel
theorem dX6_refusesBegin_23 : decode cX6_refusesBegin 23 = .ok (.iload_n 3, 1) := by decide +kernel
theorem dX6_refusesBegin_24 : decode cX6_refusesBegin 24 = .ok (.invokevirtual 139, 3) := by decide +kernel
theorem dX6_refusesBegin_27 : decode cX6_refusesBegin 27 = .ok (.ifCond .le 8, 3) := by decide +kernel
theorem dX6_refusesBegin_30 : decode cX6_refusesBegin 30 = .ok (.bipush (-5), 2) := by decide +kernel
theorem dX6_refusesBegin_32 : decode cX6_refusesBegin 32 = .ok (.goto 4, 3) := by decide +kernel
theorem dX6_refusesBegin_35 : decode cX6_refusesBegin 35 = .ok (.iconst 0, 1) := by decide +kernel
theorem dX6_refusesBegin_36 : decode cX6_refusesBegin 36 = .ok (.ireturn, 1) := by decide +kernel
theorem dX6_begin_0 : decode cX6_begin 0 = .ok (.aload_n 0, 1) := by decide +kernel
theorem dX6_begin_1 : decode cX6_begin 1 = .ok (.iconst 0, 1) := by decide +kernel
theorem dX6_begin_2 : decode cX6_begin 2 = .ok (.putfield 32, 3) := by decide +kernel
theorem dX6_begin_5 : decode cX6_begin 5 = .ok (.aload_n 0, 1) := by decide +kernel
theorem dX6_begin_6 : decode cX6_begin 6 = .ok (.iload_n 1, 1) := by decide +kernel
theorem dX6_begin_7 : decode cX6_begin 7 = .ok (.iload_n 2, 1) := by decide +kernel
theorem dX6_begin_8 : decode cX6_begin 8 = .ok (.iload_n 3, 1) := by decide +kernel
theorem dX6_begin_9 : decode cX6_begin 9 = .ok (.invokevirtual 142, 3) := by decide +kernel
theorem dX6_begin_12 : decode cX6_begin 12 = .ok (.istore 4, 2) := by decide +kernel
theorem dX6_begin_14 : decode cX6_begin 14 = .ok (.iload 4, 2) := by decide +kernel
theorem dX6_begin_16 : decode cX6_begin 16 = .ok (.ifCond .eq 6, 3) := by decide +kernel
theorem dX6_begin_19 : decode cX6_begin 19 = .ok (.iload 4, 2) := by decide +kernel
theorem dX6_begin_21 : decode cX6_begin 21 = .ok (.ireturn, 1) := by decide +kernel
theorem dX6_begin_22 : decode cX6_begin 22 = .ok (.aload_n 0, 1) := by decide +kernel
theorem dX6_begin_23 : decode cX6_begin 23 = .ok (.invokevirtual 117, 3) := by decide +kernel
theorem dX6_begin_26 : decode cX6_begin 26 = .ok (.aload_n 0, 1) := by decide +kernel
theorem dX6_begin_27 : decode cX6_begin 27 = .ok (.iload_n 1, 1) := by decide +kernel
theorem dX6_begin_28 : decode cX6_begin 28 = .ok (.iload_n 2, 1) := by decide +kernel
theorem dX6_begin_29 : decode cX6_begin 29 = .ok (.iload_n 3, 1) := by decide +kernel
theorem dX6_begin_30 : decode cX6_begin 30 = .ok (.invokevirtual 90, 3) := by decide +kernel
theorem dX6_begin_33 : decode cX6_begin 33 = .ok (.ireturn, 1) := by decide +kernel
theorem dX6_assign_0 : decode cX6_assign 0 = .ok (.aload_n 0, 1) := by decide +kernel
theorem dX6_assign_1 : decode cX6_assign 1 = .ok (.iconst 0, 1) := by decide +kernel
theorem dX6_assign_2 : decode cX6_assign 2 = .ok (.putfield 32, 3) := by decide +kernel
theorem dX6_assign_5 : decode cX6_assign 5 = .ok (.aload_n 0, 1) := by decide +kernel
theorem dX6_assign_6 : decode cX6_assign 6 = .ok (.invokevirtual 117, 3) := by decide +kernel
theorem dX6_assign_9 : decode cX6_assign 9 = .ok (.aload_n 0, 1) := by decide +kernel
theorem dX6_assign_10 : decode cX6_assign 10 = .ok (.invokevirtual 145, 3) := by decide +kernel
theorem dX6_assign_13 : decode cX6_assign 13 = .ok (.ireturn, 1) := by decide +kernel
theorem dX6_refusesDelay_0 : decode cX6_refusesDelay 0 = .ok (.aload_n 0, 1) := by decide +kernel
theorem dX6_refusesDelay_1 : decode cX6_refusesDelay 1 = .ok (.iload_n 1, 1) := by decide +kernel
theorem dX6_refusesDelay_2 : decode cX6_refusesDelay 2 = .ok (.invokevirtual 133, 3) := by decide +kernel
theorem dX6_refusesDelay_5 : decode cX6_refusesDelay 5 = .ok (.ifCond .ne 5, 3) := by decide +kernel
theorem dX6_refusesDelay_8 : decode cX6_refusesDelay 8 = .ok (.iconst (-1), 1) := by decide +kernel
theorem dX6_refusesDelay_9 : decode cX6_refusesDelay 9 = .ok (.ireturn, 1) := by decide +kernel
theorem dX6_refusesDelay_10 : decode cX6_refusesDelay 10 = .ok (.iload_n 2, 1) := by decide +kernel
theorem dX6_refusesDelay_11 : decode cX6_refusesDelay 11 = .ok (.iconst 1, 1) := by decide +kernel
theorem dX6_refusesDelay_12 : decode cX6_refusesDelay 12 = .ok (.bipush 20, 2) := by decide +kernel
theorem dX6_refusesDelay_14 : decode cX6_refusesDelay 14 = .ok (.invokestatic 36, 3) := by decide +kernel
theorem dX6_refusesDelay_17 : decode cX6_refusesDelay 17 = .ok (.ifCond .ne 6, 3) := by decide +kernel
theorem dX6_refusesDelay_20 : decode cX6_refusesDelay 20 = .ok (.bipush (-2), 2) := by decide +kernel
theorem dX6_refusesDelay_22 : decode cX6_refusesDelay 22 = .ok (.ireturn, 1) := by decide +kernel
theorem dX6_refusesDelay_23 : decode cX6_refusesDelay 23 = .ok (.aload_n 0, 1) := by decide +kernel
theorem dX6_refusesDelay_24 : decode cX6_refusesDelay 24 = .ok (.iload_n 1, 1) := by decide +kernel
theorem dX6_refusesDelay_25 : decode cX6_refusesDelay 25 = .ok (.iconst 5, 1) := by decide +kernel
theorem dX6_refusesDelay_26 : decode cX6_refusesDelay 26 = .ok (.invokevirtual 43, 3) := by decide +kernel
theorem dX6_refusesDelay_29 : decode cX6_refusesDelay 29 = .ok (.iconst 1, 1) := by decide +kernel
theorem dX6_refusesDelay_30 : decode cX6_refusesDelay 30 = .ok (.if_icmp .ne 17, 3) := by decide +kernel
theorem dX6_refusesDelay_33 : decode cX6_refusesDelay 33 = .ok (.aload_n 0, 1) := by decide +kernel
theorem dX6_refusesDelay_34 : decode cX6_refusesDelay 34 = .ok (.iload_n 1, 1) := by decide +kernel
theorem dX6_refusesDelay_35 : decode cX6_refusesDelay 35 = .ok (.bipush 9, 2) := by decide +kernel
theorem dX6_refusesDelay_37 : decode cX6_refusesDelay 37 = .ok (.invokevirtual 43, 3) := by decide +kernel
theorem dX6_refusesDelay_40 : decode cX6_refusesDelay 40 = .ok (.iload_n 2, 1) := by decide +kernel
theorem dX6_refusesDelay_41 : decode cX6_refusesDelay 41 = .ok (.iadd, 1) := by decide +kernel
theorem dX6_refusesDelay_42 : decode cX6_refusesDelay 42 = .ok (.bipush 60, 2) := by decide +kernel
theorem dX6_refusesDelay_44 : decode cX6_refusesDelay 44 = .ok (.if_icmp .le 8, 3) := by decide +kernel
theorem dX6_refusesDelay_47 : decode cX6_refusesDelay 47 = .ok (.bipush (-5), 2) := by decide +kernel
theorem dX6_refusesDelay_49 : decode cX6_refusesDelay 49 = .ok (.goto 4, 3) := by decide +kernel
theorem dX6_refusesDelay_52 : decode cX6_refusesDelay 52 = .ok (.iconst 0, 1) := by decide +kernel
theorem dX6_refusesDelay_53 : decode cX6_refusesDelay 53 = .ok (.ireturn, 1) := by decide +kernel
theorem dX6_delays_0 : decode cX6_delays 0 = .ok (.aload_n 0, 1) := by decide +kernel
theorem dX6_delays_1 : decode cX6_delays 1 = .ok (.iload_n 1, 1) := by decide +kernel
theorem dX6_delays_2 : decode cX6_delays 2 = .ok (.bipush 9, 2) := by decide +kernel
theorem dX6_delays_4 : decode cX6_delays 4 = .ok (.aload_n 0, 1) := by decide +kernel
theorem dX6_delays_5 : decode cX6_delays 5 = .ok (.iload_n 1, 1) := by decide +kernel
theorem dX6_delays_6 : decode cX6_delays 6 = .ok (.bipush 9, 2) := by decide +kernel
theorem dX6_delays_8 : decode cX6_delays 8 = .ok (.invokevirtual 43, 3) := by decide +kernel
theorem dX6_delays_11 : decode cX6_delays 11 = .ok (.iload_n 2, 1) := by decide +kernel
theorem dX6_delays_12 : decode cX6_delays 12 = .ok (.iadd, 1) := by decide +kernel
theorem dX6_delays_13 : decode cX6_delays 13 = .ok (.invokevirtual 77, 3) := by decide +kernel
theorem dX6_delays_16 : decode cX6_delays 16 = .ok (.aload_n 0, 1) := by decide +kernel
theorem dX6_delays_17 : decode cX6_delays 17 = .ok (.iload_n 1, 1) := by decide +kernel
theorem dX6_delays_18 : decode cX6_delays 18 = .ok (.bipush 9, 2) := by decide +kernel
theorem dX6_delays_20 : decode cX6_delays 20 = .ok (.invokevirtual 43, 3) := by decide +kernel
theorem dX6_delays_23 : decode cX6_delays 23 = .ok (.ireturn, 1) := by decide +kernel
theorem dX6_delay_0 : decode cX6_delay 0 = .ok (.aload_n 0, 1) := by decide +kernel
theorem dX6_delay_1 : decode cX6_delay 1 = .ok (.iconst 0, 1) := by decide +kernel
theorem dX6_delay_2 : decode cX6_delay 2 = .ok (.putfield 32, 3) := by decide +kernel
theorem dX6_delay_5 : decode cX6_delay 5 = .ok (.aload_n 0, 1) := by decide +kernel
theorem dX6_delay_6 : decode cX6_delay 6 = .ok (.iload_n 1, 1) := by decide +kernel
theorem dX6_delay_7 : decode cX6_delay 7 = .ok (.iload_n 2, 1) := by decide +kernel
theorem dX6_delay_8 : decode cX6_delay 8 = .ok (.invokevirtual 148, 3) := by decide +kernel
theorem dX6_delay_11 : decode cX6_delay 11 = .ok (.istore_n 3, 1) := by decide +kernel
theorem dX6_delay_12 : decode cX6_delay 12 = .ok (.iload_n 3, 1) := by decide +kernel
theorem dX6_delay_13 : decode cX6_delay 13 = .ok (.ifCond .eq 5, 3) := by decide +kernel
theorem dX6_delay_16 : decode cX6_delay 16 = .ok (.iload_n 3, 1) := by decide +kernel
theorem dX6_delay_17 : decode cX6_delay 17 = .ok (.ireturn, 1) := by decide +kernel
theorem dX6_delay_18 : decode cX6_delay 18 = .ok (.aload_n 0, 1) := by decide +kernel
theorem dX6_delay_19 : decode cX6_delay 19 = .ok (.invokevirtual 117, 3) := by decide +kernel
theorem dX6_delay_22 : decode cX6_delay 22 = .ok (.aload_n 0, 1) := by decide +kernel
theorem dX6_delay_23 : decode cX6_delay 23 = .ok (.iload_n 1, 1) := by decide +kernel
theorem dX6_delay_24 : decode cX6_delay 24 = .ok (.iload_n 2, 1) := by decide +kernel
theorem dX6_delay_25 : decode cX6_delay 25 = .ok (.invokevirtual 151, 3) := by decide +kernel
theorem dX6_delay_28 : decode cX6_delay 28 = .ok (.ireturn, 1) := by decide +kernel
theorem dX6_refusesCall_0 : decode cX6_refusesCall 0 = .ok (.aload_n 0, 1) := by decide +kernel
theorem dX6_refusesCall_1 : decode cX6_refusesCall 1 = .ok (.iload_n 1, 1) := by decide +kernel
theorem dX6_refusesCall_2 : decode cX6_refusesCall 2 = .ok (.invokevirtual 133, 3) := by decide +kernel
theorem dX6_refusesCall_5 : decode cX6_refusesCall 5 = .ok (.ifCond .ne 7, 3) := by decide +kernel
theorem dX6_refusesCall_8 : decode cX6_refusesCall 8 = .ok (.iconst (-1), 1) := by decide +kernel
theorem dX6_refusesCall_9 : decode cX6_refusesCall 9 = .ok (.goto 19, 3) := by decide +kernel
theorem dX6_refusesCall_12 : decode cX6_refusesCall 12 = .ok (.aload_n 0, 1) := by decide +kernel
theorem dX6_refusesCall_13 : decode cX6_refusesCall 13 = .ok (.iload_n 1, 1) := by decide +kernel
theorem dX6_refusesCall_14 : decode cX6_refusesCall 14 = .ok (.iconst 5, 1) := by decide +kernel
theorem dX6_refusesCall_15 : decode cX6_refusesCall 15 = .ok (.invokevirtual 43, 3) := by decide +kernel
theorem dX6_refusesCall_18 : decode cX6_refusesCall 18 = .ok (.iconst 1, 1) := by decide +kernel
theorem dX6_refusesCall_19 : decode cX6_refusesCall 19 = .ok (.if_icmp .le 8, 3) := by decide +kernel
theorem dX6_refusesCall_22 : decode cX6_refusesCall 22 = .ok (.bipush (-5), 2) := by decide +kernel
theorem dX6_refusesCall_24 : decode cX6_refusesCall 24 = .ok (.goto 4, 3) := by decide +kernel
theorem dX6_refusesCall_27 : decode cX6_refusesCall 27 = .ok (.iconst 0, 1) := by decide +kernel
theorem dX6_refusesCall_28 : decode cX6_refusesCall 28 = .ok (.ireturn, 1) := by decide +kernel
theorem dX6_callsOff_0 : decode cX6_callsOff 0 = .ok (.aload_n 0, 1) := by decide +kernel
theorem dX6_callsOff_1 : decode cX6_callsOff 1 = .ok (.iload_n 1, 1) := by decide +kernel
theorem dX6_callsOff_2 : decode cX6_callsOff 2 = .ok (.bipush 7, 2) := by decide +kernel
theorem dX6_callsOff_4 : decode cX6_callsOff 4 = .ok (.invokevirtual 43, 3) := by decide +kernel
theorem dX6_callsOff_7 : decode cX6_callsOff 7 = .ok (.istore_n 2, 1) := by decide +kernel
theorem dX6_callsOff_8 : decode cX6_callsOff 8 = .ok (.aload_n 0, 1) := by decide +kernel
theorem dX6_callsOff_9 : decode cX6_callsOff 9 = .ok (.iload_n 1, 1) := by decide +kernel
theorem dX6_callsOff_10 : decode cX6_callsOff 10 = .ok (.iconst 5, 1) := by decide +kernel
theorem dX6_callsOff_11 : decode cX6_callsOff 11 = .ok (.iconst 3, 1) := by decide +kernel
theorem dX6_callsOff_12 : decode cX6_callsOff 12 = .ok (.invokevirtual 77, 3) := by decide +kernel
theorem dX6_callsOff_15 : decode cX6_callsOff 15 = .ok (.iload_n 2, 1) := by decide +kernel
theorem dX6_callsOff_16 : decode cX6_callsOff 16 = .ok (.ireturn, 1) := by decide +kernel
theorem dX6_callOff_0 : decode cX6_callOff 0 = .ok (.aload_n 0, 1) := by decide +kernel
theorem dX6_callOff_1 : decode cX6_callOff 1 = .ok (.iconst 0, 1) := by decide +kernel
theorem dX6_callOff_2 : decode cX6_callOff 2 = .ok (.putfield 32, 3) := by decide +kernel
theorem dX6_callOff_5 : decode cX6_callOff 5 = .ok (.aload_n 0, 1) := by decide +kernel
theorem dX6_callOff_6 : decode cX6_callOff 6 = .ok (.iload_n 1, 1) := by decide +kernel
theorem dX6_callOff_7 : decode cX6_callOff 7 = .ok (.invokevirtual 154, 3) := by decide +kernel
theorem dX6_callOff_10 : decode cX6_callOff 10 = .ok (.istore_n 2, 1) := by decide +kernel
theorem dX6_callOff_11 : decode cX6_callOff 11 = .ok (.iload_n 2, 1) := by decide +kernel
theorem dX6_callOff_12 : decode cX6_callOff 12 = .ok (.ifCond .eq 5, 3) := by decide +kernel
theorem dX6_callOff_15 : decode cX6_callOff 15 = .ok (.iload_n 2, 1) := by decide +kernel
theorem dX6_callOff_16 : decode cX6_callOff 16 = .ok (.ireturn, 1) := by decide +kernel
theorem dX6_callOff_17 : decode cX6_callOff 17 = .ok (.aload_n 0, 1) := by decide +kernel
theorem dX6_callOff_18 : decode cX6_callOff 18 = .ok (.invokevirtual 117, 3) := by decide +kernel
theorem dX6_callOff_21 : decode cX6_callOff 21 = .ok (.aload_n 0, 1) := by decide +kernel
theorem dX6_callOff_22 : decode cX6_callOff 22 = .ok (.iload_n 1, 1) := by decide +kernel
theorem dX6_callOff_23 : decode cX6_callOff 23 = .ok (.invokevirtual 157, 3) := by decide +kernel
theorem dX6_callOff_26 : decode cX6_callOff 26 = .ok (.ireturn, 1) := by decide +kernel
theorem dX6_refusesHours_0 : decode cX6_refusesHours 0 = .ok (.iload_n 1, 1) := by decide +kernel
theorem dX6_refusesHours_1 : decode cX6_refusesHours 1 = .ok (.iconst 1, 1) := by decide +kernel
theorem dX6_refusesHours_2 : decode cX6_refusesHours 2 = .ok (.bipush 99, 2) := by decide +kernel
theorem dX6_refusesHours_4 : decode cX6_refusesHours 4 = .ok (.invokestatic 36, 3) := by decide +kernel
theorem dX6_refusesHours_7 : decode cX6_refusesHours 7 = .ok (.ifCond .ne 8, 3) := by decide +kernel
theorem dX6_refusesHours_10 : decode cX6_refusesHours 10 = .ok (.bipush (-2), 2) := by decide +kernel
theorem dX6_refusesHours_12 : decode cX6_refusesHours 12 = .ok (.goto 23, 3) := by decide +kernel
theorem dX6_refusesHours_15 : decode cX6_refusesHours 15 = .ok (.aload_n 0, 1) := by decide +kernel
theorem dX6_refusesHours_16 : decode cX6_refusesHours 16 = .ok (.getfield 7, 3) := by decide +kernel
theorem dX6_refusesHours_19 : decode cX6_refusesHours 19 = .ok (.iconst 4, 1) := by decide +kernel
theorem dX6_refusesHours_20 : decode cX6_refusesHours 20 = .ok (.iaload, 1) := by decide +kernel
theorem dX6_refusesHours_21 : decode cX6_refusesHours 21 = .ok (.iload_n 1, 1) := by decide +kernel
theorem dX6_refusesHours_22 : decode cX6_refusesHours 22 = .ok (.iadd, 1) := by decide +kernel
theorem dX6_refusesHours_23 : decode cX6_refusesHours 23 = .ok (.sipush 9999, 3) := by decide +kernel
theorem dX6_refusesHours_26 : decode cX6_refusesHours 26 = .ok (.if_icmp .le 8, 3) := by decide +kernel
theorem dX6_refusesHours_29 : decode cX6_refusesHours 29 = .ok (.bipush (-5), 2) := by decide +kernel
theorem dX6_refusesHours_31 : decode cX6_refusesHours 31 = .ok (.goto 4, 3) := by decide +kernel
theorem dX6_refusesHours_34 : decode cX6_refusesHours 34 = .ok (.iconst 0, 1) := by decide +kernel
theorem dX6_refusesHours_35 : decode cX6_refusesHours 35 = .ok (.ireturn, 1) := by decide +kernel
theorem dX6_passes_0 : decode cX6_passes 0 = .ok (.iconst 0, 1) := by decide +kernel
theorem dX6_passes_1 : decode cX6_passes 1 = .ok (.istore_n 2, 1) := by decide +kernel
theorem dX6_passes_2 : decode cX6_passes 2 = .ok (.iconst 0, 1) := by decide +kernel
theorem dX6_passes_3 : decode cX6_passes 3 = .ok (.istore_n 3, 1) := by decide +kernel
theorem dX6_passes_4 : decode cX6_passes 4 = .ok (.iload_n 3, 1) := by decide +kernel
theorem dX6_passes_5 : decode cX6_passes 5 = .ok (.iload_n 1, 1) := by decide +kernel
theorem dX6_passes_6 : decode cX6_passes 6 = .ok (.if_icmp .ge 16, 3) := by decide +kernel
theorem dX6_passes_9 : decode cX6_passes 9 = .ok (.iload_n 2, 1) := by decide +kernel
theorem dX6_passes_10 : decode cX6_passes 10 = .ok (.aload_n 0, 1) := by decide +kernel
theorem dX6_passes_11 : decode cX6_passes 11 = .ok (.invokevirtual 160, 3) := by decide +kernel
theorem dX6_passes_14 : decode cX6_passes 14 = .ok (.iadd, 1) := by decide +kernel
theorem dX6_passes_15 : decode cX6_passes 15 = .ok (.istore_n 2, 1) := by decide +kernel
theorem dX6_passes_16 : decode cX6_passes 16 = .ok (.iinc 3 1, 3) := by decide +kernel
theorem dX6_passes_19 : decode cX6_passes 19 = .ok (.goto (-15), 3) := by decide +kernel
theorem dX6_passes_22 : decode cX6_passes 22 = .ok (.iload_n 2, 1) := by decide +kernel
theorem dX6_passes_23 : decode cX6_passes 23 = .ok (.ireturn, 1) := by decide +kernel
theorem dX6_pass_0 : decode cX6_pass 0 = .ok (.aload_n 0, 1) := by decide +kernel
theorem dX6_pass_1 : decode cX6_pass 1 = .ok (.iconst 0, 1) := by decide +kernel
theorem dX6_pass_2 : decode cX6_pass 2 = .ok (.putfield 32, 3) := by decide +kernel
theorem dX6_pass_5 : decode cX6_pass 5 = .ok (.aload_n 0, 1) := by decide +kernel
theorem dX6_pass_6 : decode cX6_pass 6 = .ok (.iload_n 1, 1) := by decide +kernel
theorem dX6_pass_7 : decode cX6_pass 7 = .ok (.invokevirtual 163, 3) := by decide +kernel
theorem dX6_pass_10 : decode cX6_pass 10 = .ok (.istore_n 2, 1) := by decide +kernel
theorem dX6_pass_11 : decode cX6_pass 11 = .ok (.iload_n 2, 1) := by decide +kernel
theorem dX6_pass_12 : decode cX6_pass 12 = .ok (.ifCond .eq 5, 3) := by decide +kernel
theorem dX6_pass_15 : decode cX6_pass 15 = .ok (.iload_n 2, 1) := by decide +kernel
theorem dX6_pass_16 : decode cX6_pass 16 = .ok (.ireturn, 1) := by decide +kernel
theorem dX6_pass_17 : decode cX6_pass 17 = .ok (.aload_n 0, 1) := by decide +kernel
theorem dX6_pass_18 : decode cX6_pass 18 = .ok (.invokevirtual 117, 3) := by decide +kernel
theorem dX6_pass_21 : decode cX6_pass 21 = .ok (.aload_n 0, 1) := by decide +kernel
theorem dX6_pass_22 : decode cX6_pass 22 = .ok (.iload_n 1, 1) := by decide +kernel
theorem dX6_pass_23 : decode cX6_pass 23 = .ok (.invokevirtual 166, 3) := by decide +kernel
theorem dX6_pass_26 : decode cX6_pass 26 = .ok (.ireturn, 1) := by decide +kernel
theorem dX6_jobOf_0 : decode cX6_jobOf 0 = .ok (.bipush (-6), 2) := by decide +kernel
theorem dX6_jobOf_2 : decode cX6_jobOf 2 = .ok (.istore_n 2, 1) := by decide +kernel
theorem dX6_jobOf_3 : decode cX6_jobOf 3 = .ok (.iconst 0, 1) := by decide +kernel
theorem dX6_jobOf_4 : decode cX6_jobOf 4 = .ok (.istore_n 3, 1) := by decide +kernel
theorem dX6_jobOf_5 : decode cX6_jobOf 5 = .ok (.iload_n 3, 1) := by decide +kernel
theorem dX6_jobOf_6 : decode cX6_jobOf 6 = .ok (.aload_n 0, 1) := by decide +kernel
theorem dX6_jobOf_7 : decode cX6_jobOf 7 = .ok (.getfield 7, 3) := by decide +kernel
theorem dX6_jobOf_10 : decode cX6_jobOf 10 = .ok (.bipush 6, 2) := by decide +kernel
theorem dX6_jobOf_12 : decode cX6_jobOf 12 = .ok (.iaload, 1) := by decide +kernel
theorem dX6_jobOf_13 : decode cX6_jobOf 13 = .ok (.if_icmp .ge 40, 3) := by decide +kernel
theorem dX6_jobOf_16 : decode cX6_jobOf 16 = .ok (.aload_n 0, 1) := by decide +kernel
theorem dX6_jobOf_17 : decode cX6_jobOf 17 = .ok (.iload_n 3, 1) := by decide +kernel
theorem dX6_jobOf_18 : decode cX6_jobOf 18 = .ok (.iconst 5, 1) := by decide +kernel
theorem dX6_jobOf_19 : decode cX6_jobOf 19 = .ok (.invokevirtual 43, 3) := by decide +kernel
theorem dX6_jobOf_22 : decode cX6_jobOf 22 = .ok (.iconst 1, 1) := by decide +kernel
theorem dX6_jobOf_23 : decode cX6_jobOf 23 = .ok (.if_icmp .ne 22, 3) := by decide +kernel
theorem dX6_jobOf_26 : decode cX6_jobOf 26 = .ok (.aload_n 0, 1) := by decide +kernel
theorem dX6_jobOf_27 : decode cX6_jobOf 27 = .ok (.iload_n 3, 1) := by decide +kernel
theorem dX6_jobOf_28 : decode cX6_jobOf 28 = .ok (.bipush 7, 2) := by decide +kernel
theorem dX6_jobOf_30 : decode cX6_jobOf 30 = .ok (.invokevirtual 43, 3) := by decide +kernel
theorem dX6_jobOf_33 : decode cX6_jobOf 33 = .ok (.iload_n 1, 1) := by decide +kernel
theorem dX6_jobOf_34 : decode cX6_jobOf 34 = .ok (.ishr, 1) := by decide +kernel
theorem dX6_jobOf_35 : decode cX6_jobOf 35 = .ok (.iconst 1, 1) := by decide +kernel
theorem dX6_jobOf_36 : decode cX6_jobOf 36 = .ok (.iand, 1) := by decide +kernel
theorem dX6_jobOf_37 : decode cX6_jobOf 37 = .ok (.iconst 1, 1) := by decide +kernel
theorem dX6_jobOf_38 : decode cX6_jobOf 38 = .ok (.if_icmp .ne 7, 3) := by decide +kernel
theorem dX6_jobOf_41 : decode cX6_jobOf 41 = .ok (.iload_n 3, 1) := by decide +kernel
theorem dX6_jobOf_42 : decode cX6_jobOf 42 = .ok (.goto 4, 3) := by decide +kernel
theorem dX6_jobOf_45 : decode cX6_jobOf 45 = .ok (.iload_n 2, 1) := by decide +kernel
theorem dX6_jobOf_46 : decode cX6_jobOf 46 = .ok (.istore_n 2, 1) := by decide +kernel
theorem dX6_jobOf_47 : decode cX6_jobOf 47 = .ok (.iinc 3 1, 3) := by decide +kernel
theorem dX6_jobOf_50 : decode cX6_jobOf 50 = .ok (.goto (-45), 3) := by decide +kernel
theorem dX6_jobOf_53 : decode cX6_jobOf 53 = .ok (.iload_n 2, 1) := by decide +kernel
theorem dX6_jobOf_54 : decode cX6_jobOf 54 = .ok (.ireturn, 1) := by decide +kernel
theorem dX6_of_0 : decode cX6_of 0 = .ok (.aload_n 0, 1) := by decide +kernel
theorem dX6_of_1 : decode cX6_of 1 = .ok (.iconst 0, 1) := by decide +kernel
theorem dX6_of_2 : decode cX6_of 2 = .ok (.putfield 32, 3) := by decide +kernel
theorem dX6_of_5 : decode cX6_of 5 = .ok (.iload_n 1, 1) := by decide +kernel
theorem dX6_of_6 : decode cX6_of 6 = .ok (.iconst 0, 1) := by decide +kernel
theorem dX6_of_7 : decode cX6_of 7 = .ok (.aload_n 0, 1) := by decide +kernel
theorem dX6_of_8 : decode cX6_of 8 = .ok (.getfield 7, 3) := by decide +kernel
theorem dX6_of_11 : decode cX6_of 11 = .ok (.iconst 5, 1) := by decide +kernel
theorem dX6_of_12 : decode cX6_of 12 = .ok (.iaload, 1) := by decide +kernel
theorem dX6_of_13 : decode cX6_of 13 = .ok (.iconst 1, 1) := by decide +kernel
theorem dX6_of_14 : decode cX6_of 14 = .ok (.isub, 1) := by decide +kernel
theorem dX6_of_15 : decode cX6_of 15 = .ok (.invokestatic 36, 3) := by decide +kernel
theorem dX6_of_18 : decode cX6_of 18 = .ok (.ifCond .ne 5, 3) := by decide +kernel
theorem dX6_of_21 : decode cX6_of 21 = .ok (.iconst (-1), 1) := by decide +kernel
theorem dX6_of_22 : decode cX6_of 22 = .ok (.ireturn, 1) := by decide +kernel
theorem dX6_of_23 : decode cX6_of 23 = .ok (.iload_n 2, 1) := by decide +kernel
theorem dX6_of_24 : decode cX6_of 24 = .ok (.tableswitch 92 0 5 #[40, 40, 47, 53, 53, 62], 40) := by decide +kernel
theorem dX6_of_64 : decode cX6_of 64 = .ok (.aload_n 0, 1) := by decide +kernel
theorem dX6_of_65 : decode cX6_of 65 = .ok (.iload_n 1, 1) := by decide +kernel
theorem dX6_of_66 : decode cX6_of 66 = .ok (.iload_n 2, 1) := by decide +kernel
theorem dX6_of_67 : decode cX6_of 67 = .ok (.invokevirtual 47, 3) := by decide +kernel
theorem dX6_of_70 : decode cX6_of 70 = .ok (.ireturn, 1) := by decide +kernel
theorem dX6_of_71 : decode cX6_of 71 = .ok (.aload_n 0, 1) := by decide +kernel
theorem dX6_of_72 : decode cX6_of 72 = .ok (.iload_n 1, 1) := by decide +kernel
theorem dX6_of_73 : decode cX6_of 73 = .ok (.invokevirtual 169, 3) := by decide +kernel
theorem dX6_of_76 : decode cX6_of 76 = .ok (.ireturn, 1) := by decide +kernel
theorem dX6_of_77 : decode cX6_of 77 = .ok (.aload_n 0, 1) := by decide +kernel
theorem dX6_of_78 : decode cX6_of 78 = .ok (.iload_n 1, 1) := by decide +kernel
theorem dX6_of_79 : decode cX6_of 79 = .ok (.iload_n 2, 1) := by decide +kernel
theorem dX6_of_80 : decode cX6_of 80 = .ok (.iconst 1, 1) := by decide +kernel
theorem dX6_of_81 : decode cX6_of 81 = .ok (.isub, 1) := by decide +kernel
theorem dX6_of_82 : decode cX6_of 82 = .ok (.invokevirtual 47, 3) := by decide +kernel
theorem dX6_of_85 : decode cX6_of 85 = .ok (.ireturn, 1) := by decide +kernel
theorem dX6_of_86 : decode cX6_of 86 = .ok (.aload_n 0, 1) := by decide +kernel
theorem dX6_of_87 : decode cX6_of 87 = .ok (.iload_n 1, 1) := by decide +kernel
theorem dX6_of_88 : decode cX6_of 88 = .ok (.iconst 0, 1) := by decide +kernel
theorem dX6_of_89 : decode cX6_of 89 = .ok (.invokevirtual 47, 3) := by decide +kernel
theorem dX6_of_92 : decode cX6_of 92 = .ok (.aload_n 0, 1) := by decide +kernel
theorem dX6_of_93 : decode cX6_of 93 = .ok (.iload_n 1, 1) := by decide +kernel
theorem dX6_of_94 : decode cX6_of 94 = .ok (.iconst 1, 1) := by decide +kernel
theorem dX6_of_95 : decode cX6_of 95 = .ok (.invokevirtual 47, 3) := by decide +kernel
theorem dX6_of_98 : decode cX6_of 98 = .ok (.isub, 1) := by decide +kernel
theorem dX6_of_99 : decode cX6_of 99 = .ok (.aload_n 0, 1) := by decide +kernel
theorem dX6_of_100 : decode cX6_of 100 = .ok (.getfield 7, 3) := by decide +kernel
theorem dX6_of_103 : decode cX6_of 103 = .ok (.iconst 1, 1) := by decide +kernel
theorem dX6_of_104 : decode cX6_of 104 = .ok (.iaload, 1) := by decide +kernel
theorem dX6_of_105 : decode cX6_of 105 = .ok (.iadd, 1) := by decide +kernel
theorem dX6_of_106 : decode cX6_of 106 = .ok (.iconst 1, 1) := by decide +kernel
theorem dX6_of_107 : decode cX6_of 107 = .ok (.isub, 1) := by decide +kernel
theorem dX6_of_108 : decode cX6_of 108 = .ok (.aload_n 0, 1) := by decide +kernel
theorem dX6_of_109 : decode cX6_of 109 = .ok (.getfield 7, 3) := by decide +kernel
theorem dX6_of_112 : decode cX6_of 112 = .ok (.iconst 1, 1) := by decide +kernel
theorem dX6_of_113 : decode cX6_of 113 = .ok (.iaload, 1) := by decide +kernel
theorem dX6_of_114 : decode cX6_of 114 = .ok (.idiv, 1) := by decide +kernel
theorem dX6_of_115 : decode cX6_of 115 = .ok (.ireturn, 1) := by decide +kernel
theorem dX6_of_116 : decode cX6_of 116 = .ok (.bipush (-2), 2) := by decide +kernel
theorem dX6_of_118 : decode cX6_of 118 = .ok (.ireturn, 1) := by decide +kernel
theorem dX6_isLate_0 : decode cX6_isLate 0 = .ok (.aload_n 0, 1) := by decide +kernel
theorem dX6_isLate_1 : decode cX6_isLate 1 = .ok (.iload_n 1, 1) := by decide +kernel
theorem dX6_isLate_2 : decode cX6_isLate 2 = .ok (.iconst 5, 1) := by decide +kernel
theorem dX6_isLate_3 : decode cX6_isLate 3 = .ok (.invokevirtual 43, 3) := by decide +kernel
theorem dX6_isLate_6 : decode cX6_isLate 6 = .ok (.istore_n 2, 1) := by decide +kernel
theorem dX6_isLate_7 : decode cX6_isLate 7 = .ok (.iload_n 2, 1) := by decide +kernel
theorem dX6_isLate_8 : decode cX6_isLate 8 = .ok (.iconst 2, 1) := by decide +kernel
theorem dX6_isLate_9 : decode cX6_isLate 9 = .ok (.if_icmp .ne 27, 3) := by decide +kernel
theorem dX6_isLate_12 : decode cX6_isLate 12 = .ok (.aload_n 0, 1) := by decide +kernel
theorem dX6_isLate_13 : decode cX6_isLate 13 = .ok (.iload_n 1, 1) := by decide +kernel
theorem dX6_isLate_14 : decode cX6_isLate 14 = .ok (.bipush 11, 2) := by decide +kernel
theorem dX6_isLate_16 : decode cX6_isLate 16 = .ok (.invokevirtual 43, 3) := by decide +kernel
theorem dX6_isLate_19 : decode cX6_isLate 19 = .ok (.aload_n 0, 1) := by decide +kernel
theorem dX6_isLate_20 : decode cX6_isLate 20 = .ok (.iload_n 1, 1) := by decide +kernel
theorem dX6_isLate_21 : decode cX6_isLate 21 = .ok (.iconst 4, 1) := by decide +kernel
theorem dX6_isLate_22 : decode cX6_isLate 22 = .ok (.invokevirtual 43, 3) := by decide +kernel
theorem dX6_isLate_25 : decode cX6_isLate 25 = .ok (.if_icmp .le 7, 3) := by decide +kernel
theorem dX6_isLate_28 : decode cX6_isLate 28 = .ok (.iconst 1, 1) := by decide +kernel
theorem dX6_isLate_29 : decode cX6_isLate 29 = .ok (.goto 32, 3) := by decide +kernel
theorem dX6_isLate_32 : decode cX6_isLate 32 = .ok (.iconst 0, 1) := by decide +kernel
theorem dX6_isLate_33 : decode cX6_isLate 33 = .ok (.goto 28, 3) := by decide +kernel
theorem dX6_isLate_36 : decode cX6_isLate 36 = .ok (.iload_n 2, 1) := by decide +kernel
theorem dX6_isLate_37 : decode cX6_isLate 37 = .ok (.iconst 2, 1) := by decide +kernel
theorem dX6_isLate_38 : decode cX6_isLate 38 = .ok (.if_icmp .ge 22, 3) := by decide +kernel
theorem dX6_isLate_41 : decode cX6_isLate 41 = .ok (.aload_n 0, 1) := by decide +kernel
theorem dX6_isLate_42 : decode cX6_isLate 42 = .ok (.getfield 7, 3) := by decide +kernel
theorem dX6_isLate_45 : decode cX6_isLate 45 = .ok (.iconst 4, 1) := by decide +kernel
theorem dX6_isLate_46 : decode cX6_isLate 46 = .ok (.iaload, 1) := by decide +kernel
theorem dX6_isLate_47 : decode cX6_isLate 47 = .ok (.aload_n 0, 1) := by decide +kernel
theorem dX6_isLate_48 : decode cX6_isLate 48 = .ok (.iload_n 1, 1) := by decide +kernel
theorem dX6_isLate_49 : decode cX6_isLate 49 = .ok (.iconst 4, 1) := by decide +kernel
theorem dX6_isLate_50 : decode cX6_isLate 50 = .ok (.invokevirtual 43, 3) := by decide +kernel
theorem dX6_isLate_53 : decode cX6_isLate 53 = .ok (.if_icmp .le 7, 3) := by decide +kernel
theorem dX6_isLate_56 : decode cX6_isLate 56 = .ok (.iconst 1, 1) := by decide +kernel
theorem dX6_isLate_57 : decode cX6_isLate 57 = .ok (.goto 4, 3) := by decide +kernel
theorem dX6_isLate_60 : decode cX6_isLate 60 = .ok (.iconst 0, 1) := by decide +kernel
theorem dX6_isLate_61 : decode cX6_isLate 61 = .ok (.ireturn, 1) := by decide +kernel
theorem dX6_ofJob_0 : decode cX6_ofJob 0 = .ok (.aload_n 0, 1) := by decide +kernel
theorem dX6_ofJob_1 : decode cX6_ofJob 1 = .ok (.iconst 0, 1) := by decide +kernel
theorem dX6_ofJob_2 : decode cX6_ofJob 2 = .ok (.putfield 32, 3) := by decide +kernel
theorem dX6_ofJob_5 : decode cX6_ofJob 5 = .ok (.aload_n 0, 1) := by decide +kernel
theorem dX6_ofJob_6 : decode cX6_ofJob 6 = .ok (.iload_n 1, 1) := by decide +kernel
theorem dX6_ofJob_7 : decode cX6_ofJob 7 = .ok (.invokevirtual 133, 3) := by decide +kernel
theorem dX6_ofJob_10 : decode cX6_ofJob 10 = .ok (.ifCond .ne 5, 3) := by decide +kernel
theorem dX6_ofJob_13 : decode cX6_ofJob 13 = .ok (.iconst (-1), 1) := by decide +kernel
theorem dX6_ofJob_14 : decode cX6_ofJob 14 = .ok (.ireturn, 1) := by decide +kernel
theorem dX6_ofJob_15 : decode cX6_ofJob 15 = .ok (.iload_n 2, 1) := by decide +kernel
theorem dX6_ofJob_16 : decode cX6_ofJob 16 = .ok (.iconst 0, 1) := by decide +kernel
theorem dX6_ofJob_17 : decode cX6_ofJob 17 = .ok (.bipush 12, 2) := by decide +kernel
theorem dX6_ofJob_19 : decode cX6_ofJob 19 = .ok (.invokestatic 36, 3) := by decide +kernel
theorem dX6_ofJob_22 : decode cX6_ofJob 22 = .ok (.ifCond .ne 6, 3) := by decide +kernel
theorem dX6_ofJob_25 : decode cX6_ofJob 25 = .ok (.bipush (-2), 2) := by decide +kernel
theorem dX6_ofJob_27 : decode cX6_ofJob 27 = .ok (.ireturn, 1) := by decide +kernel
theorem dX6_ofJob_28 : decode cX6_ofJob 28 = .ok (.iload_n 2, 1) := by decide +kernel
theorem dX6_ofJob_29 : decode cX6_ofJob 29 = .ok (.bipush 6, 2) := by decide +kernel
theorem dX6_ofJob_31 : decode cX6_ofJob 31 = .ok (.if_icmp .ne 31, 3) := by decide +kernel
theorem dX6_ofJob_34 : decode cX6_ofJob 34 = .ok (.aload_n 0, 1) := by decide +kernel
theorem dX6_ofJob_35 : decode cX6_ofJob 35 = .ok (.iload_n 1, 1) := by decide +kernel
theorem dX6_ofJob_36 : decode cX6_ofJob 36 = .ok (.bipush 7, 2) := by decide +kernel
theorem dX6_ofJob_38 : decode cX6_ofJob 38 = .ok (.invokevirtual 43, 3) := by decide +kernel
theorem dX6_ofJob_41 : decode cX6_ofJob 41 = .ok (.ifCond .ne 13, 3) := by decide +kernel
theorem dX6_ofJob_44 : decode cX6_ofJob 44 = .ok (.aload_n 0, 1) := by decide +kernel
theorem dX6_ofJob_45 : decode cX6_ofJob 45 = .ok (.iload_n 1, 1) := by decide +kernel
theorem dX6_ofJob_46 : decode cX6_ofJob 46 = .ok (.bipush (-6), 2) := by decide +kernel
theorem dX6_ofJob_48 : decode cX6_ofJob 48 = .ok (.invokevirtual 68, 3) := by decide +kernel
theorem dX6_ofJob_51 : decode cX6_ofJob 51 = .ok (.goto 10, 3) := by decide +kernel
theorem dX6_ofJob_54 : decode cX6_ofJob 54 = .ok (.aload_n 0, 1) := by decide +kernel
theorem dX6_ofJob_55 : decode cX6_ofJob 55 = .ok (.iload_n 1, 1) := by decide +kernel
theorem dX6_ofJob_56 : decode cX6_ofJob 56 = .ok (.bipush 6, 2) := by decide +kernel
theorem dX6_ofJob_58 : decode cX6_ofJob 58 = .ok (.invokevirtual 43, 3) := by decide +kernel
theorem dX6_ofJob_61 : decode cX6_ofJob 61 = .ok (.ireturn, 1) := by decide +kernel
theorem dX6_ofJob_62 : decode cX6_ofJob 62 = .ok (.iload_n 2, 1) := by decide +kernel
theorem dX6_ofJob_63 : decode cX6_ofJob 63 = .ok (.bipush 12, 2) := by decide +kernel
theorem dX6_ofJob_65 : decode cX6_ofJob 65 = .ok (.if_icmp .ne 19, 3) := by decide +kernel
