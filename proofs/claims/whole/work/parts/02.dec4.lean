theorem dX6_ofJob_68 : decode cX6_ofJob 68 = .ok (.aload_n 0, 1) := by decide +kernel
theorem dX6_ofJob_69 : decode cX6_ofJob 69 = .ok (.iload_n 1, 1) := by decide +kernel
theorem dX6_ofJob_70 : decode cX6_ofJob 70 = .ok (.invokevirtual 172, 3) := by decide +kernel
theorem dX6_ofJob_73 : decode cX6_ofJob 73 = .ok (.ifCond .eq 7, 3) := by decide +kernel
theorem dX6_ofJob_76 : decode cX6_ofJob 76 = .ok (.iconst 1, 1) := by decide +kernel
theorem dX6_ofJob_77 : decode cX6_ofJob 77 = .ok (.goto 13, 3) := by decide +kernel
theorem dX6_ofJob_80 : decode cX6_ofJob 80 = .ok (.iconst 0, 1) := by decide +kernel
theorem dX6_ofJob_81 : decode cX6_ofJob 81 = .ok (.goto 9, 3) := by decide +kernel
theorem dX6_ofJob_84 : decode cX6_ofJob 84 = .ok (.aload_n 0, 1) := by decide +kernel
theorem dX6_ofJob_85 : decode cX6_ofJob 85 = .ok (.iload_n 1, 1) := by decide +kernel
theorem dX6_ofJob_86 : decode cX6_ofJob 86 = .ok (.iload_n 2, 1) := by decide +kernel
theorem dX6_ofJob_87 : decode cX6_ofJob 87 = .ok (.invokevirtual 43, 3) := by decide +kernel
theorem dX6_ofJob_90 : decode cX6_ofJob 90 = .ok (.ireturn, 1) := by decide +kernel
theorem dX6_waiting_0 : decode cX6_waiting 0 = .ok (.aload_n 0, 1) := by decide +kernel
theorem dX6_waiting_1 : decode cX6_waiting 1 = .ok (.iconst 0, 1) := by decide +kernel
theorem dX6_waiting_2 : decode cX6_waiting 2 = .ok (.putfield 32, 3) := by decide +kernel
theorem dX6_waiting_5 : decode cX6_waiting 5 = .ok (.iload_n 1, 1) := by decide +kernel
theorem dX6_waiting_6 : decode cX6_waiting 6 = .ok (.ifCond .ge 8, 3) := by decide +kernel
theorem dX6_waiting_9 : decode cX6_waiting 9 = .ok (.bipush (-6), 2) := by decide +kernel
theorem dX6_waiting_11 : decode cX6_waiting 11 = .ok (.goto 9, 3) := by decide +kernel
theorem dX6_waiting_14 : decode cX6_waiting 14 = .ok (.aload_n 0, 1) := by decide +kernel
theorem dX6_waiting_15 : decode cX6_waiting 15 = .ok (.iload_n 1, 1) := by decide +kernel
theorem dX6_waiting_16 : decode cX6_waiting 16 = .ok (.iconst 0, 1) := by decide +kernel
theorem dX6_waiting_17 : decode cX6_waiting 17 = .ok (.invokevirtual 84, 3) := by decide +kernel
theorem dX6_waiting_20 : decode cX6_waiting 20 = .ok (.istore_n 2, 1) := by decide +kernel
theorem dX6_waiting_21 : decode cX6_waiting 21 = .ok (.iload_n 2, 1) := by decide +kernel
theorem dX6_waiting_22 : decode cX6_waiting 22 = .ok (.bipush (-6), 2) := by decide +kernel
theorem dX6_waiting_24 : decode cX6_waiting 24 = .ok (.if_icmp .ne 7, 3) := by decide +kernel
theorem dX6_waiting_27 : decode cX6_waiting 27 = .ok (.iconst (-1), 1) := by decide +kernel
theorem dX6_waiting_28 : decode cX6_waiting 28 = .ok (.goto 4, 3) := by decide +kernel
theorem dX6_waiting_31 : decode cX6_waiting 31 = .ok (.iload_n 2, 1) := by decide +kernel
theorem dX6_waiting_32 : decode cX6_waiting 32 = .ok (.ireturn, 1) := by decide +kernel
theorem dX6_straps_0 : decode cX6_straps 0 = .ok (.aload_n 0, 1) := by decide +kernel
theorem dX6_straps_1 : decode cX6_straps 1 = .ok (.iconst 0, 1) := by decide +kernel
theorem dX6_straps_2 : decode cX6_straps 2 = .ok (.putfield 32, 3) := by decide +kernel
theorem dX6_straps_5 : decode cX6_straps 5 = .ok (.iload_n 1, 1) := by decide +kernel
theorem dX6_straps_6 : decode cX6_straps 6 = .ok (.iconst 0, 1) := by decide +kernel
theorem dX6_straps_7 : decode cX6_straps 7 = .ok (.iconst 2, 1) := by decide +kernel
theorem dX6_straps_8 : decode cX6_straps 8 = .ok (.invokestatic 36, 3) := by decide +kernel
theorem dX6_straps_11 : decode cX6_straps 11 = .ok (.ifCond .ne 5, 3) := by decide +kernel
theorem dX6_straps_14 : decode cX6_straps 14 = .ok (.iconst (-1), 1) := by decide +kernel
theorem dX6_straps_15 : decode cX6_straps 15 = .ok (.ireturn, 1) := by decide +kernel
theorem dX6_straps_16 : decode cX6_straps 16 = .ok (.iload_n 2, 1) := by decide +kernel
theorem dX6_straps_17 : decode cX6_straps 17 = .ok (.iconst 0, 1) := by decide +kernel
theorem dX6_straps_18 : decode cX6_straps 18 = .ok (.iconst 1, 1) := by decide +kernel
theorem dX6_straps_19 : decode cX6_straps 19 = .ok (.invokestatic 36, 3) := by decide +kernel
theorem dX6_straps_22 : decode cX6_straps 22 = .ok (.ifCond .ne 8, 3) := by decide +kernel
theorem dX6_straps_25 : decode cX6_straps 25 = .ok (.bipush (-2), 2) := by decide +kernel
theorem dX6_straps_27 : decode cX6_straps 27 = .ok (.goto 24, 3) := by decide +kernel
theorem dX6_straps_30 : decode cX6_straps 30 = .ok (.iload_n 2, 1) := by decide +kernel
theorem dX6_straps_31 : decode cX6_straps 31 = .ok (.ifCond .ne 15, 3) := by decide +kernel
theorem dX6_straps_34 : decode cX6_straps 34 = .ok (.aload_n 0, 1) := by decide +kernel
theorem dX6_straps_35 : decode cX6_straps 35 = .ok (.getfield 7, 3) := by decide +kernel
theorem dX6_straps_38 : decode cX6_straps 38 = .ok (.bipush 9, 2) := by decide +kernel
theorem dX6_straps_40 : decode cX6_straps 40 = .ok (.iload_n 1, 1) := by decide +kernel
theorem dX6_straps_41 : decode cX6_straps 41 = .ok (.iadd, 1) := by decide +kernel
theorem dX6_straps_42 : decode cX6_straps 42 = .ok (.iaload, 1) := by decide +kernel
theorem dX6_straps_43 : decode cX6_straps 43 = .ok (.goto 8, 3) := by decide +kernel
theorem dX6_straps_46 : decode cX6_straps 46 = .ok (.aload_n 0, 1) := by decide +kernel
theorem dX6_straps_47 : decode cX6_straps 47 = .ok (.iload_n 1, 1) := by decide +kernel
theorem dX6_straps_48 : decode cX6_straps 48 = .ok (.invokevirtual 50, 3) := by decide +kernel
theorem dX6_straps_51 : decode cX6_straps 51 = .ok (.ireturn, 1) := by decide +kernel
theorem dX6_jobsThat_0 : decode cX6_jobsThat 0 = .ok (.iconst 0, 1) := by decide +kernel
theorem dX6_jobsThat_1 : decode cX6_jobsThat 1 = .ok (.istore_n 2, 1) := by decide +kernel
theorem dX6_jobsThat_2 : decode cX6_jobsThat 2 = .ok (.iconst 0, 1) := by decide +kernel
theorem dX6_jobsThat_3 : decode cX6_jobsThat 3 = .ok (.istore_n 3, 1) := by decide +kernel
theorem dX6_jobsThat_4 : decode cX6_jobsThat 4 = .ok (.iload_n 3, 1) := by decide +kernel
theorem dX6_jobsThat_5 : decode cX6_jobsThat 5 = .ok (.aload_n 0, 1) := by decide +kernel
theorem dX6_jobsThat_6 : decode cX6_jobsThat 6 = .ok (.getfield 7, 3) := by decide +kernel
theorem dX6_jobsThat_9 : decode cX6_jobsThat 9 = .ok (.bipush 6, 2) := by decide +kernel
theorem dX6_jobsThat_11 : decode cX6_jobsThat 11 = .ok (.iaload, 1) := by decide +kernel
theorem dX6_jobsThat_12 : decode cX6_jobsThat 12 = .ok (.if_icmp .ge 54, 3) := by decide +kernel
theorem dX6_jobsThat_15 : decode cX6_jobsThat 15 = .ok (.iload_n 1, 1) := by decide +kernel
theorem dX6_jobsThat_16 : decode cX6_jobsThat 16 = .ok (.iconst 3, 1) := by decide +kernel
theorem dX6_jobsThat_17 : decode cX6_jobsThat 17 = .ok (.if_icmp .ne 11, 3) := by decide +kernel
theorem dX6_jobsThat_20 : decode cX6_jobsThat 20 = .ok (.aload_n 0, 1) := by decide +kernel
theorem dX6_jobsThat_21 : decode cX6_jobsThat 21 = .ok (.iload_n 3, 1) := by decide +kernel
theorem dX6_jobsThat_22 : decode cX6_jobsThat 22 = .ok (.invokevirtual 172, 3) := by decide +kernel
theorem dX6_jobsThat_25 : decode cX6_jobsThat 25 = .ok (.goto 18, 3) := by decide +kernel
theorem dX6_jobsThat_28 : decode cX6_jobsThat 28 = .ok (.aload_n 0, 1) := by decide +kernel
theorem dX6_jobsThat_29 : decode cX6_jobsThat 29 = .ok (.iload_n 3, 1) := by decide +kernel
theorem dX6_jobsThat_30 : decode cX6_jobsThat 30 = .ok (.iconst 5, 1) := by decide +kernel
theorem dX6_jobsThat_31 : decode cX6_jobsThat 31 = .ok (.invokevirtual 43, 3) := by decide +kernel
theorem dX6_jobsThat_34 : decode cX6_jobsThat 34 = .ok (.iload_n 1, 1) := by decide +kernel
theorem dX6_jobsThat_35 : decode cX6_jobsThat 35 = .ok (.if_icmp .ne 7, 3) := by decide +kernel
theorem dX6_jobsThat_38 : decode cX6_jobsThat 38 = .ok (.iconst 1, 1) := by decide +kernel
theorem dX6_jobsThat_39 : decode cX6_jobsThat 39 = .ok (.goto 4, 3) := by decide +kernel
theorem dX6_jobsThat_42 : decode cX6_jobsThat 42 = .ok (.iconst 0, 1) := by decide +kernel
theorem dX6_jobsThat_43 : decode cX6_jobsThat 43 = .ok (.istore 4, 2) := by decide +kernel
theorem dX6_jobsThat_45 : decode cX6_jobsThat 45 = .ok (.iload_n 2, 1) := by decide +kernel
theorem dX6_jobsThat_46 : decode cX6_jobsThat 46 = .ok (.iload 4, 2) := by decide +kernel
theorem dX6_jobsThat_48 : decode cX6_jobsThat 48 = .ok (.ifCond .eq 9, 3) := by decide +kernel
theorem dX6_jobsThat_51 : decode cX6_jobsThat 51 = .ok (.iconst 1, 1) := by decide +kernel
theorem dX6_jobsThat_52 : decode cX6_jobsThat 52 = .ok (.iload_n 3, 1) := by decide +kernel
theorem dX6_jobsThat_53 : decode cX6_jobsThat 53 = .ok (.ishl, 1) := by decide +kernel
theorem dX6_jobsThat_54 : decode cX6_jobsThat 54 = .ok (.goto 4, 3) := by decide +kernel
theorem dX6_jobsThat_57 : decode cX6_jobsThat 57 = .ok (.iconst 0, 1) := by decide +kernel
theorem dX6_jobsThat_58 : decode cX6_jobsThat 58 = .ok (.ior, 1) := by decide +kernel
theorem dX6_jobsThat_59 : decode cX6_jobsThat 59 = .ok (.istore_n 2, 1) := by decide +kernel
theorem dX6_jobsThat_60 : decode cX6_jobsThat 60 = .ok (.iinc 3 1, 3) := by decide +kernel
theorem dX6_jobsThat_63 : decode cX6_jobsThat 63 = .ok (.goto (-59), 3) := by decide +kernel
theorem dX6_jobsThat_66 : decode cX6_jobsThat 66 = .ok (.iload_n 2, 1) := by decide +kernel
theorem dX6_jobsThat_67 : decode cX6_jobsThat 67 = .ok (.ireturn, 1) := by decide +kernel
theorem dX6_count_0 : decode cX6_count 0 = .ok (.aload_n 0, 1) := by decide +kernel
theorem dX6_count_1 : decode cX6_count 1 = .ok (.iconst 0, 1) := by decide +kernel
theorem dX6_count_2 : decode cX6_count 2 = .ok (.putfield 32, 3) := by decide +kernel
theorem dX6_count_5 : decode cX6_count 5 = .ok (.iload_n 1, 1) := by decide +kernel
theorem dX6_count_6 : decode cX6_count 6 = .ok (.tableswitch 141 0 15 #[78, 78, 87, 92, 100, 100, 100, 100, 108, 108, 121, 121, 121, 121, 131, 136], 78) := by decide +kernel
theorem dX6_count_84 : decode cX6_count 84 = .ok (.aload_n 0, 1) := by decide +kernel
theorem dX6_count_85 : decode cX6_count 85 = .ok (.getfield 7, 3) := by decide +kernel
theorem dX6_count_88 : decode cX6_count 88 = .ok (.iconst 4, 1) := by decide +kernel
theorem dX6_count_89 : decode cX6_count 89 = .ok (.iload_n 1, 1) := by decide +kernel
theorem dX6_count_90 : decode cX6_count 90 = .ok (.iadd, 1) := by decide +kernel
theorem dX6_count_91 : decode cX6_count 91 = .ok (.iaload, 1) := by decide +kernel
theorem dX6_count_92 : decode cX6_count 92 = .ok (.ireturn, 1) := by decide +kernel
theorem dX6_count_93 : decode cX6_count 93 = .ok (.aload_n 0, 1) := by decide +kernel
theorem dX6_count_94 : decode cX6_count 94 = .ok (.invokevirtual 57, 3) := by decide +kernel
theorem dX6_count_97 : decode cX6_count 97 = .ok (.ireturn, 1) := by decide +kernel
theorem dX6_count_98 : decode cX6_count 98 = .ok (.aload_n 0, 1) := by decide +kernel
theorem dX6_count_99 : decode cX6_count 99 = .ok (.getfield 7, 3) := by decide +kernel
theorem dX6_count_102 : decode cX6_count 102 = .ok (.bipush 6, 2) := by decide +kernel
theorem dX6_count_104 : decode cX6_count 104 = .ok (.iaload, 1) := by decide +kernel
theorem dX6_count_105 : decode cX6_count 105 = .ok (.ireturn, 1) := by decide +kernel
theorem dX6_count_106 : decode cX6_count 106 = .ok (.aload_n 0, 1) := by decide +kernel
theorem dX6_count_107 : decode cX6_count 107 = .ok (.iload_n 1, 1) := by decide +kernel
theorem dX6_count_108 : decode cX6_count 108 = .ok (.iconst 4, 1) := by decide +kernel
theorem dX6_count_109 : decode cX6_count 109 = .ok (.isub, 1) := by decide +kernel
theorem dX6_count_110 : decode cX6_count 110 = .ok (.invokevirtual 175, 3) := by decide +kernel
theorem dX6_count_113 : decode cX6_count 113 = .ok (.ireturn, 1) := by decide +kernel
theorem dX6_count_114 : decode cX6_count 114 = .ok (.aload_n 0, 1) := by decide +kernel
theorem dX6_count_115 : decode cX6_count 115 = .ok (.getfield 7, 3) := by decide +kernel
theorem dX6_count_118 : decode cX6_count 118 = .ok (.bipush 7, 2) := by decide +kernel
theorem dX6_count_120 : decode cX6_count 120 = .ok (.iload_n 1, 1) := by decide +kernel
theorem dX6_count_121 : decode cX6_count 121 = .ok (.iadd, 1) := by decide +kernel
theorem dX6_count_122 : decode cX6_count 122 = .ok (.bipush 8, 2) := by decide +kernel
theorem dX6_count_124 : decode cX6_count 124 = .ok (.isub, 1) := by decide +kernel
theorem dX6_count_125 : decode cX6_count 125 = .ok (.iaload, 1) := by decide +kernel
theorem dX6_count_126 : decode cX6_count 126 = .ok (.ireturn, 1) := by decide +kernel
theorem dX6_count_127 : decode cX6_count 127 = .ok (.aload_n 0, 1) := by decide +kernel
theorem dX6_count_128 : decode cX6_count 128 = .ok (.getfield 7, 3) := by decide +kernel
theorem dX6_count_131 : decode cX6_count 131 = .ok (.iload_n 1, 1) := by decide +kernel
theorem dX6_count_132 : decode cX6_count 132 = .ok (.bipush 10, 2) := by decide +kernel
theorem dX6_count_134 : decode cX6_count 134 = .ok (.isub, 1) := by decide +kernel
theorem dX6_count_135 : decode cX6_count 135 = .ok (.iaload, 1) := by decide +kernel
theorem dX6_count_136 : decode cX6_count 136 = .ok (.ireturn, 1) := by decide +kernel
theorem dX6_count_137 : decode cX6_count 137 = .ok (.aload_n 0, 1) := by decide +kernel
theorem dX6_count_138 : decode cX6_count 138 = .ok (.getfield 178, 3) := by decide +kernel
theorem dX6_count_141 : decode cX6_count 141 = .ok (.ireturn, 1) := by decide +kernel
theorem dX6_count_142 : decode cX6_count 142 = .ok (.aload_n 0, 1) := by decide +kernel
theorem dX6_count_143 : decode cX6_count 143 = .ok (.getfield 40, 3) := by decide +kernel
theorem dX6_count_146 : decode cX6_count 146 = .ok (.ireturn, 1) := by decide +kernel
theorem dX6_count_147 : decode cX6_count 147 = .ok (.bipush (-2), 2) := by decide +kernel
theorem dX6_count_149 : decode cX6_count 149 = .ok (.ireturn, 1) := by decide +kernel
theorem dX6_why_0 : decode cX6_why 0 = .ok (.aload_n 0, 1) := by decide +kernel
theorem dX6_why_1 : decode cX6_why 1 = .ok (.iconst 0, 1) := by decide +kernel
theorem dX6_why_2 : decode cX6_why 2 = .ok (.putfield 32, 3) := by decide +kernel
theorem dX6_why_5 : decode cX6_why 5 = .ok (.aload_n 0, 1) := by decide +kernel
theorem dX6_why_6 : decode cX6_why 6 = .ok (.iload_n 1, 1) := by decide +kernel
theorem dX6_why_7 : decode cX6_why 7 = .ok (.invokevirtual 133, 3) := by decide +kernel
theorem dX6_why_10 : decode cX6_why 10 = .ok (.ifCond .ne 5, 3) := by decide +kernel
theorem dX6_why_13 : decode cX6_why 13 = .ok (.iconst (-1), 1) := by decide +kernel
theorem dX6_why_14 : decode cX6_why 14 = .ok (.ireturn, 1) := by decide +kernel
theorem dX6_why_15 : decode cX6_why 15 = .ok (.iload_n 3, 1) := by decide +kernel
theorem dX6_why_16 : decode cX6_why 16 = .ok (.invokestatic 136, 3) := by decide +kernel
theorem dX6_why_19 : decode cX6_why 19 = .ok (.ifCond .eq 13, 3) := by decide +kernel
theorem dX6_why_22 : decode cX6_why 22 = .ok (.aload_n 0, 1) := by decide +kernel
theorem dX6_why_23 : decode cX6_why 23 = .ok (.iload_n 1, 1) := by decide +kernel
theorem dX6_why_24 : decode cX6_why 24 = .ok (.iload_n 2, 1) := by decide +kernel
theorem dX6_why_25 : decode cX6_why 25 = .ok (.iload_n 3, 1) := by decide +kernel
theorem dX6_why_26 : decode cX6_why 26 = .ok (.invokevirtual 139, 3) := by decide +kernel
theorem dX6_why_29 : decode cX6_why 29 = .ok (.goto 5, 3) := by decide +kernel
theorem dX6_why_32 : decode cX6_why 32 = .ok (.bipush (-2), 2) := by decide +kernel
theorem dX6_why_34 : decode cX6_why 34 = .ok (.ireturn, 1) := by decide +kernel
theorem dX6_crew_0 : decode cX6_crew 0 = .ok (.aload_n 0, 1) := by decide +kernel
theorem dX6_crew_1 : decode cX6_crew 1 = .ok (.iconst 0, 1) := by decide +kernel
theorem dX6_crew_2 : decode cX6_crew 2 = .ok (.putfield 32, 3) := by decide +kernel
theorem dX6_crew_5 : decode cX6_crew 5 = .ok (.aload_n 0, 1) := by decide +kernel
theorem dX6_crew_6 : decode cX6_crew 6 = .ok (.iload_n 1, 1) := by decide +kernel
theorem dX6_crew_7 : decode cX6_crew 7 = .ok (.invokevirtual 133, 3) := by decide +kernel
theorem dX6_crew_10 : decode cX6_crew 10 = .ok (.ifCond .ne 5, 3) := by decide +kernel
theorem dX6_crew_13 : decode cX6_crew 13 = .ok (.iconst (-1), 1) := by decide +kernel
theorem dX6_crew_14 : decode cX6_crew 14 = .ok (.ireturn, 1) := by decide +kernel
theorem dX6_crew_15 : decode cX6_crew 15 = .ok (.iload_n 2, 1) := by decide +kernel
theorem dX6_crew_16 : decode cX6_crew 16 = .ok (.invokestatic 136, 3) := by decide +kernel
theorem dX6_crew_19 : decode cX6_crew 19 = .ok (.ifCond .ne 6, 3) := by decide +kernel
theorem dX6_crew_22 : decode cX6_crew 22 = .ok (.bipush (-2), 2) := by decide +kernel
theorem dX6_crew_24 : decode cX6_crew 24 = .ok (.ireturn, 1) := by decide +kernel
theorem dX6_crew_25 : decode cX6_crew 25 = .ok (.aload_n 0, 1) := by decide +kernel
theorem dX6_crew_26 : decode cX6_crew 26 = .ok (.iload_n 1, 1) := by decide +kernel
theorem dX6_crew_27 : decode cX6_crew 27 = .ok (.iconst 5, 1) := by decide +kernel
theorem dX6_crew_28 : decode cX6_crew 28 = .ok (.invokevirtual 43, 3) := by decide +kernel
theorem dX6_crew_31 : decode cX6_crew 31 = .ok (.ifCond .eq 8, 3) := by decide +kernel
theorem dX6_crew_34 : decode cX6_crew 34 = .ok (.bipush (-5), 2) := by decide +kernel
theorem dX6_crew_36 : decode cX6_crew 36 = .ok (.goto 9, 3) := by decide +kernel
theorem dX6_crew_39 : decode cX6_crew 39 = .ok (.aload_n 0, 1) := by decide +kernel
theorem dX6_crew_40 : decode cX6_crew 40 = .ok (.iload_n 1, 1) := by decide +kernel
theorem dX6_crew_41 : decode cX6_crew 41 = .ok (.iload_n 2, 1) := by decide +kernel
theorem dX6_crew_42 : decode cX6_crew 42 = .ok (.invokevirtual 74, 3) := by decide +kernel
theorem dX6_crew_45 : decode cX6_crew 45 = .ok (.ireturn, 1) := by decide +kernel
theorem dX6_bestStraps_0 : decode cX6_bestStraps 0 = .ok (.aload_n 0, 1) := by decide +kernel
theorem dX6_bestStraps_1 : decode cX6_bestStraps 1 = .ok (.iconst 0, 1) := by decide +kernel
theorem dX6_bestStraps_2 : decode cX6_bestStraps 2 = .ok (.putfield 32, 3) := by decide +kernel
theorem dX6_bestStraps_5 : decode cX6_bestStraps 5 = .ok (.aload_n 0, 1) := by decide +kernel
theorem dX6_bestStraps_6 : decode cX6_bestStraps 6 = .ok (.iload_n 1, 1) := by decide +kernel
theorem dX6_bestStraps_7 : decode cX6_bestStraps 7 = .ok (.invokevirtual 133, 3) := by decide +kernel
theorem dX6_bestStraps_10 : decode cX6_bestStraps 10 = .ok (.ifCond .ne 5, 3) := by decide +kernel
theorem dX6_bestStraps_13 : decode cX6_bestStraps 13 = .ok (.iconst (-1), 1) := by decide +kernel
theorem dX6_bestStraps_14 : decode cX6_bestStraps 14 = .ok (.ireturn, 1) := by decide +kernel
theorem dX6_bestStraps_15 : decode cX6_bestStraps 15 = .ok (.aload_n 0, 1) := by decide +kernel
theorem dX6_bestStraps_16 : decode cX6_bestStraps 16 = .ok (.iload_n 1, 1) := by decide +kernel
theorem dX6_bestStraps_17 : decode cX6_bestStraps 17 = .ok (.iconst 5, 1) := by decide +kernel
theorem dX6_bestStraps_18 : decode cX6_bestStraps 18 = .ok (.invokevirtual 43, 3) := by decide +kernel
theorem dX6_bestStraps_21 : decode cX6_bestStraps 21 = .ok (.ifCond .eq 8, 3) := by decide +kernel
theorem dX6_bestStraps_24 : decode cX6_bestStraps 24 = .ok (.bipush (-5), 2) := by decide +kernel
theorem dX6_bestStraps_26 : decode cX6_bestStraps 26 = .ok (.goto 8, 3) := by decide +kernel
theorem dX6_bestStraps_29 : decode cX6_bestStraps 29 = .ok (.aload_n 0, 1) := by decide +kernel
theorem dX6_bestStraps_30 : decode cX6_bestStraps 30 = .ok (.iload_n 1, 1) := by decide +kernel
theorem dX6_bestStraps_31 : decode cX6_bestStraps 31 = .ok (.invokevirtual 87, 3) := by decide +kernel
theorem dX6_bestStraps_34 : decode cX6_bestStraps 34 = .ok (.ireturn, 1) := by decide +kernel
theorem dX6_doneIn_0 : decode cX6_doneIn 0 = .ok (.aload_n 0, 1) := by decide +kernel
theorem dX6_doneIn_1 : decode cX6_doneIn 1 = .ok (.iconst 0, 1) := by decide +kernel
theorem dX6_doneIn_2 : decode cX6_doneIn 2 = .ok (.putfield 32, 3) := by decide +kernel
theorem dX6_doneIn_5 : decode cX6_doneIn 5 = .ok (.aload_n 0, 1) := by decide +kernel
theorem dX6_doneIn_6 : decode cX6_doneIn 6 = .ok (.iload_n 1, 1) := by decide +kernel
theorem dX6_doneIn_7 : decode cX6_doneIn 7 = .ok (.invokevirtual 133, 3) := by decide +kernel
theorem dX6_doneIn_10 : decode cX6_doneIn 10 = .ok (.ifCond .ne 5, 3) := by decide +kernel
theorem dX6_doneIn_13 : decode cX6_doneIn 13 = .ok (.iconst (-1), 1) := by decide +kernel
theorem dX6_doneIn_14 : decode cX6_doneIn 14 = .ok (.ireturn, 1) := by decide +kernel
theorem dX6_doneIn_15 : decode cX6_doneIn 15 = .ok (.aload_n 0, 1) := by decide +kernel
theorem dX6_doneIn_16 : decode cX6_doneIn 16 = .ok (.iload_n 1, 1) := by decide +kernel
theorem dX6_doneIn_17 : decode cX6_doneIn 17 = .ok (.iconst 5, 1) := by decide +kernel
theorem dX6_doneIn_18 : decode cX6_doneIn 18 = .ok (.invokevirtual 43, 3) := by decide +kernel
theorem dX6_doneIn_21 : decode cX6_doneIn 21 = .ok (.iconst 1, 1) := by decide +kernel
theorem dX6_doneIn_22 : decode cX6_doneIn 22 = .ok (.if_icmp .eq 6, 3) := by decide +kernel
theorem dX6_doneIn_25 : decode cX6_doneIn 25 = .ok (.bipush (-5), 2) := by decide +kernel
theorem dX6_doneIn_27 : decode cX6_doneIn 27 = .ok (.ireturn, 1) := by decide +kernel
theorem dX6_doneIn_28 : decode cX6_doneIn 28 = .ok (.aload_n 0, 1) := by decide +kernel
theorem dX6_doneIn_29 : decode cX6_doneIn 29 = .ok (.invokevirtual 181, 3) := by decide +kernel
theorem dX6_doneIn_32 : decode cX6_doneIn 32 = .ok (.iconst 0, 1) := by decide +kernel
theorem dX6_doneIn_33 : decode cX6_doneIn 33 = .ok (.istore_n 2, 1) := by decide +kernel
theorem dX6_doneIn_34 : decode cX6_doneIn 34 = .ok (.iload_n 2, 1) := by decide +kernel
theorem dX6_doneIn_35 : decode cX6_doneIn 35 = .ok (.sipush 500, 3) := by decide +kernel
theorem dX6_doneIn_38 : decode cX6_doneIn 38 = .ok (.if_icmp .ge 24, 3) := by decide +kernel
theorem dX6_doneIn_41 : decode cX6_doneIn 41 = .ok (.aload_n 0, 1) := by decide +kernel
theorem dX6_doneIn_42 : decode cX6_doneIn 42 = .ok (.iload_n 1, 1) := by decide +kernel
theorem dX6_doneIn_43 : decode cX6_doneIn 43 = .ok (.iconst 5, 1) := by decide +kernel
theorem dX6_doneIn_44 : decode cX6_doneIn 44 = .ok (.invokevirtual 43, 3) := by decide +kernel
theorem dX6_doneIn_47 : decode cX6_doneIn 47 = .ok (.iconst 1, 1) := by decide +kernel
theorem dX6_doneIn_48 : decode cX6_doneIn 48 = .ok (.if_icmp .ne 14, 3) := by decide +kernel
theorem dX6_doneIn_51 : decode cX6_doneIn 51 = .ok (.aload_n 0, 1) := by decide +kernel
theorem dX6_doneIn_52 : decode cX6_doneIn 52 = .ok (.invokevirtual 160, 3) := by decide +kernel
theorem dX6_doneIn_55 : decode cX6_doneIn 55 = .ok (.pop, 1) := by decide +kernel
theorem dX6_doneIn_56 : decode cX6_doneIn 56 = .ok (.iinc 2 1, 3) := by decide +kernel
theorem dX6_doneIn_59 : decode cX6_doneIn 59 = .ok (.goto (-25), 3) := by decide +kernel
theorem dX6_doneIn_62 : decode cX6_doneIn 62 = .ok (.aload_n 0, 1) := by decide +kernel
theorem dX6_doneIn_63 : decode cX6_doneIn 63 = .ok (.iload_n 1, 1) := by decide +kernel
theorem dX6_doneIn_64 : decode cX6_doneIn 64 = .ok (.iconst 5, 1) := by decide +kernel
theorem dX6_doneIn_65 : decode cX6_doneIn 65 = .ok (.invokevirtual 43, 3) := by decide +kernel
theorem dX6_doneIn_68 : decode cX6_doneIn 68 = .ok (.iconst 2, 1) := by decide +kernel
theorem dX6_doneIn_69 : decode cX6_doneIn 69 = .ok (.if_icmp .ne 7, 3) := by decide +kernel
theorem dX6_doneIn_72 : decode cX6_doneIn 72 = .ok (.iload_n 2, 1) := by decide +kernel
theorem dX6_doneIn_73 : decode cX6_doneIn 73 = .ok (.goto 5, 3) := by decide +kernel
theorem dX6_doneIn_76 : decode cX6_doneIn 76 = .ok (.bipush (-6), 2) := by decide +kernel
theorem dX6_doneIn_78 : decode cX6_doneIn 78 = .ok (.istore_n 3, 1) := by decide +kernel
theorem dX6_doneIn_79 : decode cX6_doneIn 79 = .ok (.aload_n 0, 1) := by decide +kernel
theorem dX6_doneIn_80 : decode cX6_doneIn 80 = .ok (.invokevirtual 184, 3) := by decide +kernel
theorem dX6_doneIn_83 : decode cX6_doneIn 83 = .ok (.iload_n 3, 1) := by decide +kernel
theorem dX6_doneIn_84 : decode cX6_doneIn 84 = .ok (.ireturn, 1) := by decide +kernel
theorem dX6_ifAssigned_0 : decode cX6_ifAssigned 0 = .ok (.aload_n 0, 1) := by decide +kernel
theorem dX6_ifAssigned_1 : decode cX6_ifAssigned 1 = .ok (.iconst 0, 1) := by decide +kernel
theorem dX6_ifAssigned_2 : decode cX6_ifAssigned 2 = .ok (.putfield 32, 3) := by decide +kernel
theorem dX6_ifAssigned_5 : decode cX6_ifAssigned 5 = .ok (.aload_n 0, 1) := by decide +kernel
theorem dX6_ifAssigned_6 : decode cX6_ifAssigned 6 = .ok (.invokevirtual 181, 3) := by decide +kernel
theorem dX6_ifAssigned_9 : decode cX6_ifAssigned 9 = .ok (.aload_n 0, 1) := by decide +kernel
theorem dX6_ifAssigned_10 : decode cX6_ifAssigned 10 = .ok (.invokevirtual 145, 3) := by decide +kernel
theorem dX6_ifAssigned_13 : decode cX6_ifAssigned 13 = .ok (.istore_n 1, 1) := by decide +kernel
theorem dX6_ifAssigned_14 : decode cX6_ifAssigned 14 = .ok (.aload_n 0, 1) := by decide +kernel
theorem dX6_ifAssigned_15 : decode cX6_ifAssigned 15 = .ok (.invokevirtual 184, 3) := by decide +kernel
theorem dX6_ifAssigned_18 : decode cX6_ifAssigned 18 = .ok (.iload_n 1, 1) := by decide +kernel
theorem dX6_ifAssigned_19 : decode cX6_ifAssigned 19 = .ok (.ireturn, 1) := by decide +kernel
theorem dX6_put_0 : decode cX6_put 0 = .ok (.aload_n 0, 1) := by decide +kernel
theorem dX6_put_1 : decode cX6_put 1 = .ok (.iconst 0, 1) := by decide +kernel
theorem dX6_put_2 : decode cX6_put 2 = .ok (.putfield 32, 3) := by decide +kernel
theorem dX6_put_5 : decode cX6_put 5 = .ok (.iconst 0, 1) := by decide +kernel
theorem dX6_put_6 : decode cX6_put 6 = .ok (.istore_n 3, 1) := by decide +kernel
theorem dX6_put_7 : decode cX6_put 7 = .ok (.lload_n 1, 1) := by decide +kernel
theorem dX6_put_8 : decode cX6_put 8 = .ok (.lstore 4, 2) := by decide +kernel
theorem dX6_put_10 : decode cX6_put 10 = .ok (.iconst 1, 1) := by decide +kernel
theorem dX6_put_11 : decode cX6_put 11 = .ok (.istore 6, 2) := by decide +kernel
theorem dX6_put_13 : decode cX6_put 13 = .ok (.iload_n 3, 1) := by decide +kernel
theorem dX6_put_14 : decode cX6_put 14 = .ok (.bipush 8, 2) := by decide +kernel
theorem dX6_put_16 : decode cX6_put 16 = .ok (.if_icmp .ge 56, 3) := by decide +kernel
theorem dX6_put_19 : decode cX6_put 19 = .ok (.lload 4, 2) := by decide +kernel
theorem dX6_put_21 : decode cX6_put 21 = .ok (.ldc2_w 187, 3) := by decide +kernel
theorem dX6_put_24 : decode cX6_put 24 = .ok (.land, 1) := by decide +kernel
theorem dX6_put_25 : decode cX6_put 25 = .ok (.lconst 0, 1) := by decide +kernel
theorem dX6_put_26 : decode cX6_put 26 = .ok (.lcmp, 1) := by decide +kernel
theorem dX6_put_27 : decode cX6_put 27 = .ok (.ifCond .eq 45, 3) := by decide +kernel
theorem dX6_put_30 : decode cX6_put 30 = .ok (.iload 6, 2) := by decide +kernel
theorem dX6_put_32 : decode cX6_put 32 = .ok (.ifCond .eq 24, 3) := by decide +kernel
theorem dX6_put_35 : decode cX6_put 35 = .ok (.lload 4, 2) := by decide +kernel
theorem dX6_put_37 : decode cX6_put 37 = .ok (.ldc2_w 187, 3) := by decide +kernel
theorem dX6_put_40 : decode cX6_put 40 = .ok (.land, 1) := by decide +kernel
theorem dX6_put_41 : decode cX6_put 41 = .ok (.l2i, 1) := by decide +kernel
theorem dX6_put_42 : decode cX6_put 42 = .ok (.bipush 33, 2) := by decide +kernel
theorem dX6_put_44 : decode cX6_put 44 = .ok (.bipush 126, 2) := by decide +kernel
theorem dX6_put_46 : decode cX6_put 46 = .ok (.invokestatic 36, 3) := by decide +kernel
theorem dX6_put_49 : decode cX6_put 49 = .ok (.ifCond .eq 7, 3) := by decide +kernel
theorem dX6_put_52 : decode cX6_put 52 = .ok (.iconst 1, 1) := by decide +kernel
theorem dX6_put_53 : decode cX6_put 53 = .ok (.goto 4, 3) := by decide +kernel
theorem dX6_put_56 : decode cX6_put 56 = .ok (.iconst 0, 1) := by decide +kernel
theorem dX6_put_57 : decode cX6_put 57 = .ok (.istore 6, 2) := by decide +kernel
theorem dX6_put_59 : decode cX6_put 59 = .ok (.lload 4, 2) := by decide +kernel
theorem dX6_put_61 : decode cX6_put 61 = .ok (.bipush 8, 2) := by decide +kernel
theorem dX6_put_63 : decode cX6_put 63 = .ok (.lushr, 1) := by decide +kernel
theorem dX6_put_64 : decode cX6_put 64 = .ok (.lstore 4, 2) := by decide +kernel
theorem dX6_put_66 : decode cX6_put 66 = .ok (.iinc 3 1, 3) := by decide +kernel
theorem dX6_put_69 : decode cX6_put 69 = .ok (.goto (-56), 3) := by decide +kernel
theorem dX6_put_72 : decode cX6_put 72 = .ok (.iload_n 3, 1) := by decide +kernel
theorem dX6_put_73 : decode cX6_put 73 = .ok (.ifCond .eq 15, 3) := by decide +kernel
theorem dX6_put_76 : decode cX6_put 76 = .ok (.iload 6, 2) := by decide +kernel
theorem dX6_put_78 : decode cX6_put 78 = .ok (.ifCond .eq 10, 3) := by decide +kernel
theorem dX6_put_81 : decode cX6_put 81 = .ok (.lload 4, 2) := by decide +kernel
theorem dX6_put_83 : decode cX6_put 83 = .ok (.lconst 0, 1) := by decide +kernel
theorem dX6_put_84 : decode cX6_put 84 = .ok (.lcmp, 1) := by decide +kernel
theorem dX6_put_85 : decode cX6_put 85 = .ok (.ifCond .eq 6, 3) := by decide +kernel
theorem dX6_put_88 : decode cX6_put 88 = .ok (.bipush (-2), 2) := by decide +kernel
theorem dX6_put_90 : decode cX6_put 90 = .ok (.ireturn, 1) := by decide +kernel
theorem dX6_put_91 : decode cX6_put 91 = .ok (.aload_n 0, 1) := by decide +kernel
theorem dX6_put_92 : decode cX6_put 92 = .ok (.getfield 178, 3) := by decide +kernel
theorem dX6_put_95 : decode cX6_put 95 = .ok (.iload_n 3, 1) := by decide +kernel
theorem dX6_put_96 : decode cX6_put 96 = .ok (.iadd, 1) := by decide +kernel
theorem dX6_put_97 : decode cX6_put 97 = .ok (.bipush 80, 2) := by decide +kernel
theorem dX6_put_99 : decode cX6_put 99 = .ok (.if_icmp .le 6, 3) := by decide +kernel
theorem dX6_put_102 : decode cX6_put 102 = .ok (.bipush (-4), 2) := by decide +kernel
theorem dX6_put_104 : decode cX6_put 104 = .ok (.ireturn, 1) := by decide +kernel
theorem dX6_put_105 : decode cX6_put 105 = .ok (.iconst 0, 1) := by decide +kernel
theorem dX6_put_106 : decode cX6_put 106 = .ok (.istore 7, 2) := by decide +kernel
theorem dX6_put_108 : decode cX6_put 108 = .ok (.iload 7, 2) := by decide +kernel
theorem dX6_put_110 : decode cX6_put 110 = .ok (.iload_n 3, 1) := by decide +kernel
theorem dX6_put_111 : decode cX6_put 111 = .ok (.if_icmp .ge 37, 3) := by decide +kernel
theorem dX6_put_114 : decode cX6_put 114 = .ok (.aload_n 0, 1) := by decide +kernel
theorem dX6_put_115 : decode cX6_put 115 = .ok (.getfield 26, 3) := by decide +kernel
theorem dX6_put_118 : decode cX6_put 118 = .ok (.aload_n 0, 1) := by decide +kernel
theorem dX6_put_119 : decode cX6_put 119 = .ok (.getfield 178, 3) := by decide +kernel
theorem dX6_put_122 : decode cX6_put 122 = .ok (.iload 7, 2) := by decide +kernel
theorem dX6_put_124 : decode cX6_put 124 = .ok (.iadd, 1) := by decide +kernel
theorem dX6_put_125 : decode cX6_put 125 = .ok (.lload_n 1, 1) := by decide +kernel
theorem dX6_put_126 : decode cX6_put 126 = .ok (.bipush 8, 2) := by decide +kernel
theorem dX6_put_128 : decode cX6_put 128 = .ok (.iload_n 3, 1) := by decide +kernel
theorem dX6_put_129 : decode cX6_put 129 = .ok (.iconst 1, 1) := by decide +kernel
theorem dX6_put_130 : decode cX6_put 130 = .ok (.isub, 1) := by decide +kernel
theorem dX6_put_131 : decode cX6_put 131 = .ok (.iload 7, 2) := by decide +kernel
theorem dX6_put_133 : decode cX6_put 133 = .ok (.isub, 1) := by decide +kernel
theorem dX6_put_134 : decode cX6_put 134 = .ok (.imul, 1) := by decide +kernel
theorem dX6_put_135 : decode cX6_put 135 = .ok (.lushr, 1) := by decide +kernel
theorem dX6_put_136 : decode cX6_put 136 = .ok (.ldc2_w 187, 3) := by decide +kernel
theorem dX6_put_139 : decode cX6_put 139 = .ok (.land, 1) := by decide +kernel
theorem dX6_put_140 : decode cX6_put 140 = .ok (.l2i, 1) := by decide +kernel
theorem dX6_put_141 : decode cX6_put 141 = .ok (.iastore, 1) := by decide +kernel
theorem dX6_put_142 : decode cX6_put 142 = .ok (.iinc 7 1, 3) := by decide +kernel
theorem dX6_put_145 : decode cX6_put 145 = .ok (.goto (-37), 3) := by decide +kernel
theorem dX6_put_148 : decode cX6_put 148 = .ok (.aload_n 0, 1) := by decide +kernel
theorem dX6_put_149 : decode cX6_put 149 = .ok (.dup, 1) := by decide +kernel
theorem dX6_put_150 : decode cX6_put 150 = .ok (.getfield 178, 3) := by decide +kernel
theorem dX6_put_153 : decode cX6_put 153 = .ok (.iload_n 3, 1) := by decide +kernel
theorem dX6_put_154 : decode cX6_put 154 = .ok (.iadd, 1) := by decide +kernel
theorem dX6_put_155 : decode cX6_put 155 = .ok (.putfield 178, 3) := by decide +kernel
theorem dX6_put_158 : decode cX6_put 158 = .ok (.aload_n 0, 1) := by decide +kernel
theorem dX6_put_159 : decode cX6_put 159 = .ok (.getfield 178, 3) := by decide +kernel
theorem dX6_put_162 : decode cX6_put 162 = .ok (.ireturn, 1) := by decide +kernel
theorem dX6_wipe_0 : decode cX6_wipe 0 = .ok (.aload_n 0, 1) := by decide +kernel
theorem dX6_wipe_1 : decode cX6_wipe 1 = .ok (.iconst 0, 1) := by decide +kernel
theorem dX6_wipe_2 : decode cX6_wipe 2 = .ok (.putfield 32, 3) := by decide +kernel
theorem dX6_wipe_5 : decode cX6_wipe 5 = .ok (.aload_n 0, 1) := by decide +kernel
theorem dX6_wipe_6 : decode cX6_wipe 6 = .ok (.getfield 178, 3) := by decide +kernel
theorem dX6_wipe_9 : decode cX6_wipe 9 = .ok (.istore_n 1, 1) := by decide +kernel
theorem dX6_wipe_10 : decode cX6_wipe 10 = .ok (.aload_n 0, 1) := by decide +kernel
theorem dX6_wipe_11 : decode cX6_wipe 11 = .ok (.iconst 0, 1) := by decide +kernel
theorem dX6_wipe_12 : decode cX6_wipe 12 = .ok (.putfield 178, 3) := by decide +kernel
theorem dX6_wipe_15 : decode cX6_wipe 15 = .ok (.iload_n 1, 1) := by decide +kernel
theorem dX6_wipe_16 : decode cX6_wipe 16 = .ok (.ireturn, 1) := by decide +kernel
theorem dX6_letter_0 : decode cX6_letter 0 = .ok (.aload_n 0, 1) := by decide +kernel
theorem dX6_letter_1 : decode cX6_letter 1 = .ok (.getfield 189, 3) := by decide +kernel
theorem dX6_letter_4 : decode cX6_letter 4 = .ok (.aload_n 0, 1) := by decide +kernel
theorem dX6_letter_5 : decode cX6_letter 5 = .ok (.getfield 178, 3) := by decide +kernel
theorem dX6_letter_8 : decode cX6_letter 8 = .ok (.if_icmp .ge 15, 3) := by decide +kernel
theorem dX6_letter_11 : decode cX6_letter 11 = .ok (.aload_n 0, 1) := by decide +kernel
theorem dX6_letter_12 : decode cX6_letter 12 = .ok (.getfield 26, 3) := by decide +kernel
theorem dX6_letter_15 : decode cX6_letter 15 = .ok (.aload_n 0, 1) := by decide +kernel
theorem dX6_letter_16 : decode cX6_letter 16 = .ok (.getfield 189, 3) := by decide +kernel
theorem dX6_letter_19 : decode cX6_letter 19 = .ok (.iaload, 1) := by decide +kernel
theorem dX6_letter_20 : decode cX6_letter 20 = .ok (.goto 4, 3) := by decide +kernel
theorem dX6_letter_23 : decode cX6_letter 23 = .ok (.iconst 0, 1) := by decide +kernel
theorem dX6_letter_24 : decode cX6_letter 24 = .ok (.ireturn, 1) := by decide +kernel
theorem dX6_wants_0 : decode cX6_wants 0 = .ok (.aload_n 0, 1) := by decide +kernel
theorem dX6_wants_1 : decode cX6_wants 1 = .ok (.aload_n 0, 1) := by decide +kernel
theorem dX6_wants_2 : decode cX6_wants 2 = .ok (.getfield 192, 3) := by decide +kernel
theorem dX6_wants_5 : decode cX6_wants 5 = .ok (.ifCond .eq 15, 3) := by decide +kernel
theorem dX6_wants_8 : decode cX6_wants 8 = .ok (.aload_n 0, 1) := by decide +kernel
theorem dX6_wants_9 : decode cX6_wants 9 = .ok (.invokevirtual 196, 3) := by decide +kernel
theorem dX6_wants_12 : decode cX6_wants 12 = .ok (.iload_n 1, 1) := by decide +kernel
theorem dX6_wants_13 : decode cX6_wants 13 = .ok (.if_icmp .ne 7, 3) := by decide +kernel
theorem dX6_wants_16 : decode cX6_wants 16 = .ok (.iconst 1, 1) := by decide +kernel
theorem dX6_wants_17 : decode cX6_wants 17 = .ok (.goto 4, 3) := by decide +kernel
theorem dX6_wants_20 : decode cX6_wants 20 = .ok (.iconst 0, 1) := by decide +kernel
theorem dX6_wants_21 : decode cX6_wants 21 = .ok (.putfield 192, 3) := by decide +kernel
theorem dX6_wants_24 : decode cX6_wants 24 = .ok (.aload_n 0, 1) := by decide +kernel
theorem dX6_wants_25 : decode cX6_wants 25 = .ok (.dup, 1) := by decide +kernel
theorem dX6_wants_26 : decode cX6_wants 26 = .ok (.getfield 189, 3) := by decide +kernel
theorem dX6_wants_29 : decode cX6_wants 29 = .ok (.aload_n 0, 1) := by decide +kernel
theorem dX6_wants_30 : decode cX6_wants 30 = .ok (.getfield 192, 3) := by decide +kernel
theorem dX6_wants_33 : decode cX6_wants 33 = .ok (.ifCond .eq 7, 3) := by decide +kernel
theorem dX6_wants_36 : decode cX6_wants 36 = .ok (.iconst 1, 1) := by decide +kernel
theorem dX6_wants_37 : decode cX6_wants 37 = .ok (.goto 4, 3) := by decide +kernel
theorem dX6_wants_40 : decode cX6_wants 40 = .ok (.iconst 0, 1) := by decide +kernel
theorem dX6_wants_41 : decode cX6_wants 41 = .ok (.iadd, 1) := by decide +kernel
theorem dX6_wants_42 : decode cX6_wants 42 = .ok (.putfield 189, 3) := by decide +kernel
theorem dX6_wants_45 : decode cX6_wants 45 = .ok (.return_, 1) := by decide +kernel
theorem dX6_digit_0 : decode cX6_digit 0 = .ok (.aload_n 0, 1) := by decide +kernel
theorem dX6_digit_1 : decode cX6_digit 1 = .ok (.aload_n 0, 1) := by decide +kernel
theorem dX6_digit_2 : decode cX6_digit 2 = .ok (.getfield 192, 3) := by decide +kernel
theorem dX6_digit_5 : decode cX6_digit 5 = .ok (.ifCond .eq 21, 3) := by decide +kernel
theorem dX6_digit_8 : decode cX6_digit 8 = .ok (.aload_n 0, 1) := by decide +kernel
theorem dX6_digit_9 : decode cX6_digit 9 = .ok (.invokevirtual 196, 3) := by decide +kernel
theorem dX6_digit_12 : decode cX6_digit 12 = .ok (.bipush 48, 2) := by decide +kernel
theorem dX6_digit_14 : decode cX6_digit 14 = .ok (.bipush 57, 2) := by decide +kernel
theorem dX6_digit_16 : decode cX6_digit 16 = .ok (.invokestatic 36, 3) := by decide +kernel
theorem dX6_digit_19 : decode cX6_digit 19 = .ok (.ifCond .eq 7, 3) := by decide +kernel
theorem dX6_digit_22 : decode cX6_digit 22 = .ok (.iconst 1, 1) := by decide +kernel
theorem dX6_digit_23 : decode cX6_digit 23 = .ok (.goto 4, 3) := by decide +kernel
theorem dX6_digit_26 : decode cX6_digit 26 = .ok (.iconst 0, 1) := by decide +kernel
theorem dX6_digit_27 : decode cX6_digit 27 = .ok (.putfield 192, 3) := by decide +kernel
theorem dX6_digit_30 : decode cX6_digit 30 = .ok (.aload_n 0, 1) := by decide +kernel
theorem dX6_digit_31 : decode cX6_digit 31 = .ok (.invokevirtual 196, 3) := by decide +kernel
theorem dX6_digit_34 : decode cX6_digit 34 = .ok (.bipush 48, 2) := by decide +kernel
theorem dX6_digit_36 : decode cX6_digit 36 = .ok (.isub, 1) := by decide +kernel
theorem dX6_digit_37 : decode cX6_digit 37 = .ok (.istore_n 1, 1) := by decide +kernel
theorem dX6_digit_38 : decode cX6_digit 38 = .ok (.aload_n 0, 1) := by decide +kernel
theorem dX6_digit_39 : decode cX6_digit 39 = .ok (.dup, 1) := by decide +kernel
theorem dX6_digit_40 : decode cX6_digit 40 = .ok (.getfield 189, 3) := by decide +kernel
theorem dX6_digit_43 : decode cX6_digit 43 = .ok (.aload_n 0, 1) := by decide +kernel
theorem dX6_digit_44 : decode cX6_digit 44 = .ok (.getfield 192, 3) := by decide +kernel
theorem dX6_digit_47 : decode cX6_digit 47 = .ok (.ifCond .eq 7, 3) := by decide +kernel
theorem dX6_digit_50 : decode cX6_digit 50 = .ok (.iconst 1, 1) := by decide +kernel
theorem dX6_digit_51 : decode cX6_digit 51 = .ok (.goto 4, 3) := by decide +kernel
theorem dX6_digit_54 : decode cX6_digit 54 = .ok (.iconst 0, 1) := by decide +kernel
theorem dX6_digit_55 : decode cX6_digit 55 = .ok (.iadd, 1) := by decide +kernel
theorem dX6_digit_56 : decode cX6_digit 56 = .ok (.putfield 189, 3) := by decide +kernel
theorem dX6_digit_59 : decode cX6_digit 59 = .ok (.iload_n 1, 1) := by decide +kernel
theorem dX6_digit_60 : decode cX6_digit 60 = .ok (.ireturn, 1) := by decide +kernel
theorem dX6_number_0 : decode cX6_number 0 = .ok (.aload_n 0, 1) := by decide +kernel
theorem dX6_number_1 : decode cX6_number 1 = .ok (.invokevirtual 199, 3) := by decide +kernel
theorem dX6_number_4 : decode cX6_number 4 = .ok (.istore_n 1, 1) := by decide +kernel
theorem dX6_number_5 : decode cX6_number 5 = .ok (.aload_n 0, 1) := by decide +kernel
theorem dX6_number_6 : decode cX6_number 6 = .ok (.getfield 192, 3) := by decide +kernel
theorem dX6_number_9 : decode cX6_number 9 = .ok (.ifCond .eq 53, 3) := by decide +kernel
theorem dX6_number_12 : decode cX6_number 12 = .ok (.iload_n 1, 1) := by decide +kernel
theorem dX6_number_13 : decode cX6_number 13 = .ok (.iconst 1, 1) := by decide +kernel
theorem dX6_number_14 : decode cX6_number 14 = .ok (.bipush 99, 2) := by decide +kernel
theorem dX6_number_16 : decode cX6_number 16 = .ok (.invokestatic 36, 3) := by decide +kernel
theorem dX6_number_19 : decode cX6_number 19 = .ok (.ifCond .eq 43, 3) := by decide +kernel
theorem dX6_number_22 : decode cX6_number 22 = .ok (.aload_n 0, 1) := by decide +kernel
theorem dX6_number_23 : decode cX6_number 23 = .ok (.invokevirtual 196, 3) := by decide +kernel
theorem dX6_number_26 : decode cX6_number 26 = .ok (.bipush 48, 2) := by decide +kernel
theorem dX6_number_28 : decode cX6_number 28 = .ok (.bipush 57, 2) := by decide +kernel
theorem dX6_number_30 : decode cX6_number 30 = .ok (.invokestatic 36, 3) := by decide +kernel
theorem dX6_number_33 : decode cX6_number 33 = .ok (.ifCond .eq 29, 3) := by decide +kernel
theorem dX6_number_36 : decode cX6_number 36 = .ok (.bipush 10, 2) := by decide +kernel
theorem dX6_number_38 : decode cX6_number 38 = .ok (.iload_n 1, 1) := by decide +kernel
theorem dX6_number_39 : decode cX6_number 39 = .ok (.imul, 1) := by decide +kernel
theorem dX6_number_40 : decode cX6_number 40 = .ok (.aload_n 0, 1) := by decide +kernel
theorem dX6_number_41 : decode cX6_number 41 = .ok (.invokevirtual 196, 3) := by decide +kernel
theorem dX6_number_44 : decode cX6_number 44 = .ok (.iadd, 1) := by decide +kernel
theorem dX6_number_45 : decode cX6_number 45 = .ok (.bipush 48, 2) := by decide +kernel
theorem dX6_number_47 : decode cX6_number 47 = .ok (.isub, 1) := by decide +kernel
theorem dX6_number_48 : decode cX6_number 48 = .ok (.istore_n 1, 1) := by decide +kernel
theorem dX6_number_49 : decode cX6_number 49 = .ok (.aload_n 0, 1) := by decide +kernel
theorem dX6_number_50 : decode cX6_number 50 = .ok (.dup, 1) := by decide +kernel
theorem dX6_number_51 : decode cX6_number 51 = .ok (.getfield 189, 3) := by decide +kernel
theorem dX6_number_54 : decode cX6_number 54 = .ok (.iconst 1, 1) := by decide +kernel
theorem dX6_number_55 : decode cX6_number 55 = .ok (.iadd, 1) := by decide +kernel
theorem dX6_number_56 : decode cX6_number 56 = .ok (.putfield 189, 3) := by decide +kernel
theorem dX6_number_59 : decode cX6_number 59 = .ok (.goto (-54), 3) := by decide +kernel
theorem dX6_number_62 : decode cX6_number 62 = .ok (.iload_n 1, 1) := by decide +kernel
theorem dX6_number_63 : decode cX6_number 63 = .ok (.ireturn, 1) := by decide +kernel
theorem dX6_readsCrew_0 : decode cX6_readsCrew 0 = .ok (.aload_n 0, 1) := by decide +kernel
theorem dX6_readsCrew_1 : decode cX6_readsCrew 1 = .ok (.bipush 58, 2) := by decide +kernel
theorem dX6_readsCrew_3 : decode cX6_readsCrew 3 = .ok (.invokevirtual 202, 3) := by decide +kernel
theorem dX6_readsCrew_6 : decode cX6_readsCrew 6 = .ok (.iconst 1, 1) := by decide +kernel
theorem dX6_readsCrew_7 : decode cX6_readsCrew 7 = .ok (.aload_n 0, 1) := by decide +kernel
theorem dX6_readsCrew_8 : decode cX6_readsCrew 8 = .ok (.invokevirtual 199, 3) := by decide +kernel
theorem dX6_readsCrew_11 : decode cX6_readsCrew 11 = .ok (.bipush 15, 2) := by decide +kernel
theorem dX6_readsCrew_13 : decode cX6_readsCrew 13 = .ok (.iand, 1) := by decide +kernel
theorem dX6_readsCrew_14 : decode cX6_readsCrew 14 = .ok (.ishl, 1) := by decide +kernel
theorem dX6_readsCrew_15 : decode cX6_readsCrew 15 = .ok (.istore_n 2, 1) := by decide +kernel
theorem dX6_readsCrew_16 : decode cX6_readsCrew 16 = .ok (.aload_n 0, 1) := by decide +kernel
theorem dX6_readsCrew_17 : decode cX6_readsCrew 17 = .ok (.getfield 192, 3) := by decide +kernel
theorem dX6_readsCrew_20 : decode cX6_readsCrew 20 = .ok (.ifCond .eq 29, 3) := by decide +kernel
theorem dX6_readsCrew_23 : decode cX6_readsCrew 23 = .ok (.aload_n 0, 1) := by decide +kernel
theorem dX6_readsCrew_24 : decode cX6_readsCrew 24 = .ok (.invokevirtual 196, 3) := by decide +kernel
theorem dX6_readsCrew_27 : decode cX6_readsCrew 27 = .ok (.bipush 48, 2) := by decide +kernel
theorem dX6_readsCrew_29 : decode cX6_readsCrew 29 = .ok (.bipush 57, 2) := by decide +kernel
theorem dX6_readsCrew_31 : decode cX6_readsCrew 31 = .ok (.invokestatic 36, 3) := by decide +kernel
theorem dX6_readsCrew_34 : decode cX6_readsCrew 34 = .ok (.ifCond .eq 15, 3) := by decide +kernel
theorem dX6_readsCrew_37 : decode cX6_readsCrew 37 = .ok (.iload_n 2, 1) := by decide +kernel
theorem dX6_readsCrew_38 : decode cX6_readsCrew 38 = .ok (.iconst 1, 1) := by decide +kernel
theorem dX6_readsCrew_39 : decode cX6_readsCrew 39 = .ok (.aload_n 0, 1) := by decide +kernel
theorem dX6_readsCrew_40 : decode cX6_readsCrew 40 = .ok (.invokevirtual 199, 3) := by decide +kernel
theorem dX6_readsCrew_43 : decode cX6_readsCrew 43 = .ok (.ishl, 1) := by decide +kernel
theorem dX6_readsCrew_44 : decode cX6_readsCrew 44 = .ok (.ior, 1) := by decide +kernel
theorem dX6_readsCrew_45 : decode cX6_readsCrew 45 = .ok (.istore_n 2, 1) := by decide +kernel
theorem dX6_readsCrew_46 : decode cX6_readsCrew 46 = .ok (.goto (-30), 3) := by decide +kernel
theorem dX6_readsCrew_49 : decode cX6_readsCrew 49 = .ok (.aload_n 0, 1) := by decide +kernel
theorem dX6_readsCrew_50 : decode cX6_readsCrew 50 = .ok (.getfield 29, 3) := by decide +kernel
theorem dX6_readsCrew_53 : decode cX6_readsCrew 53 = .ok (.iload_n 1, 1) := by decide +kernel
theorem dX6_readsCrew_54 : decode cX6_readsCrew 54 = .ok (.iconst 2, 1) := by decide +kernel
theorem dX6_readsCrew_55 : decode cX6_readsCrew 55 = .ok (.iadd, 1) := by decide +kernel
theorem dX6_readsCrew_56 : decode cX6_readsCrew 56 = .ok (.iload_n 2, 1) := by decide +kernel
theorem dX6_readsCrew_57 : decode cX6_readsCrew 57 = .ok (.iastore, 1) := by decide +kernel
theorem dX6_readsCrew_58 : decode cX6_readsCrew 58 = .ok (.aload_n 0, 1) := by decide +kernel
theorem dX6_readsCrew_59 : decode cX6_readsCrew 59 = .ok (.getfield 29, 3) := by decide +kernel
theorem dX6_readsCrew_62 : decode cX6_readsCrew 62 = .ok (.iload_n 1, 1) := by decide +kernel
theorem dX6_readsCrew_63 : decode cX6_readsCrew 63 = .ok (.iconst 3, 1) := by decide +kernel
theorem dX6_readsCrew_64 : decode cX6_readsCrew 64 = .ok (.iadd, 1) := by decide +kernel
theorem dX6_readsCrew_65 : decode cX6_readsCrew 65 = .ok (.bipush (-6), 2) := by decide +kernel
theorem dX6_readsCrew_67 : decode cX6_readsCrew 67 = .ok (.iastore, 1) := by decide +kernel
theorem dX6_readsCrew_68 : decode cX6_readsCrew 68 = .ok (.aload_n 0, 1) := by decide +kernel
theorem dX6_readsCrew_69 : decode cX6_readsCrew 69 = .ok (.getfield 192, 3) := by decide +kernel
theorem dX6_readsCrew_72 : decode cX6_readsCrew 72 = .ok (.ifCond .eq 34, 3) := by decide +kernel
theorem dX6_readsCrew_75 : decode cX6_readsCrew 75 = .ok (.aload_n 0, 1) := by decide +kernel
theorem dX6_readsCrew_76 : decode cX6_readsCrew 76 = .ok (.invokevirtual 196, 3) := by decide +kernel
theorem dX6_readsCrew_79 : decode cX6_readsCrew 79 = .ok (.bipush 43, 2) := by decide +kernel
theorem dX6_readsCrew_81 : decode cX6_readsCrew 81 = .ok (.if_icmp .ne 25, 3) := by decide +kernel
theorem dX6_readsCrew_84 : decode cX6_readsCrew 84 = .ok (.aload_n 0, 1) := by decide +kernel
theorem dX6_readsCrew_85 : decode cX6_readsCrew 85 = .ok (.dup, 1) := by decide +kernel
theorem dX6_readsCrew_86 : decode cX6_readsCrew 86 = .ok (.getfield 189, 3) := by decide +kernel
theorem dX6_readsCrew_89 : decode cX6_readsCrew 89 = .ok (.iconst 1, 1) := by decide +kernel
theorem dX6_readsCrew_90 : decode cX6_readsCrew 90 = .ok (.iadd, 1) := by decide +kernel
theorem dX6_readsCrew_91 : decode cX6_readsCrew 91 = .ok (.putfield 189, 3) := by decide +kernel
theorem dX6_readsCrew_94 : decode cX6_readsCrew 94 = .ok (.aload_n 0, 1) := by decide +kernel
theorem dX6_readsCrew_95 : decode cX6_readsCrew 95 = .ok (.getfield 29, 3) := by decide +kernel
theorem dX6_readsCrew_98 : decode cX6_readsCrew 98 = .ok (.iload_n 1, 1) := by decide +kernel
theorem dX6_readsCrew_99 : decode cX6_readsCrew 99 = .ok (.iconst 3, 1) := by decide +kernel
theorem dX6_readsCrew_100 : decode cX6_readsCrew 100 = .ok (.iadd, 1) := by decide +kernel
theorem dX6_readsCrew_101 : decode cX6_readsCrew 101 = .ok (.aload_n 0, 1) := by decide +kernel
theorem dX6_readsCrew_102 : decode cX6_readsCrew 102 = .ok (.invokevirtual 199, 3) := by decide +kernel
theorem dX6_readsCrew_105 : decode cX6_readsCrew 105 = .ok (.iastore, 1) := by decide +kernel
theorem dX6_readsCrew_106 : decode cX6_readsCrew 106 = .ok (.return_, 1) := by decide +kernel
theorem dX6_readsJob_0 : decode cX6_readsJob 0 = .ok (.iconst 2, 1) := by decide +kernel
theorem dX6_readsJob_1 : decode cX6_readsJob 1 = .ok (.istore_n 2, 1) := by decide +kernel
theorem dX6_readsJob_2 : decode cX6_readsJob 2 = .ok (.iload_n 2, 1) := by decide +kernel
theorem dX6_readsJob_3 : decode cX6_readsJob 3 = .ok (.bipush 6, 2) := by decide +kernel
theorem dX6_readsJob_5 : decode cX6_readsJob 5 = .ok (.if_icmp .ge 39, 3) := by decide +kernel
theorem dX6_readsJob_8 : decode cX6_readsJob 8 = .ok (.aload_n 0, 1) := by decide +kernel
theorem dX6_readsJob_9 : decode cX6_readsJob 9 = .ok (.bipush 44, 2) := by decide +kernel
theorem dX6_readsJob_11 : decode cX6_readsJob 11 = .ok (.invokevirtual 202, 3) := by decide +kernel
theorem dX6_readsJob_14 : decode cX6_readsJob 14 = .ok (.aload_n 0, 1) := by decide +kernel
theorem dX6_readsJob_15 : decode cX6_readsJob 15 = .ok (.getfield 29, 3) := by decide +kernel
theorem dX6_readsJob_18 : decode cX6_readsJob 18 = .ok (.iload_n 1, 1) := by decide +kernel
theorem dX6_readsJob_19 : decode cX6_readsJob 19 = .ok (.iload_n 2, 1) := by decide +kernel
theorem dX6_readsJob_20 : decode cX6_readsJob 20 = .ok (.iadd, 1) := by decide +kernel
theorem dX6_readsJob_21 : decode cX6_readsJob 21 = .ok (.iload_n 2, 1) := by decide +kernel
theorem dX6_readsJob_22 : decode cX6_readsJob 22 = .ok (.iconst 5, 1) := by decide +kernel
theorem dX6_readsJob_23 : decode cX6_readsJob 23 = .ok (.if_icmp .ge 10, 3) := by decide +kernel
theorem dX6_readsJob_26 : decode cX6_readsJob 26 = .ok (.aload_n 0, 1) := by decide +kernel
theorem dX6_readsJob_27 : decode cX6_readsJob 27 = .ok (.invokevirtual 199, 3) := by decide +kernel
theorem dX6_readsJob_30 : decode cX6_readsJob 30 = .ok (.goto 7, 3) := by decide +kernel
theorem dX6_readsJob_33 : decode cX6_readsJob 33 = .ok (.aload_n 0, 1) := by decide +kernel
theorem dX6_readsJob_34 : decode cX6_readsJob 34 = .ok (.invokevirtual 205, 3) := by decide +kernel
theorem dX6_readsJob_37 : decode cX6_readsJob 37 = .ok (.iastore, 1) := by decide +kernel
theorem dX6_readsJob_38 : decode cX6_readsJob 38 = .ok (.iinc 2 1, 3) := by decide +kernel
theorem dX6_readsJob_41 : decode cX6_readsJob 41 = .ok (.goto (-39), 3) := by decide +kernel
theorem dX6_readsJob_44 : decode cX6_readsJob 44 = .ok (.return_, 1) := by decide +kernel
theorem dX6_isOrder_0 : decode cX6_isOrder 0 = .ok (.iload_n 0, 1) := by decide +kernel
theorem dX6_isOrder_1 : decode cX6_isOrder 1 = .ok (.bipush 119, 2) := by decide +kernel
theorem dX6_isOrder_3 : decode cX6_isOrder 3 = .ok (.if_icmp .eq 39, 3) := by decide +kernel
theorem dX6_isOrder_6 : decode cX6_isOrder 6 = .ok (.iload_n 0, 1) := by decide +kernel
theorem dX6_isOrder_7 : decode cX6_isOrder 7 = .ok (.bipush 106, 2) := by decide +kernel
theorem dX6_isOrder_9 : decode cX6_isOrder 9 = .ok (.if_icmp .eq 33, 3) := by decide +kernel
theorem dX6_isOrder_12 : decode cX6_isOrder 12 = .ok (.iload_n 0, 1) := by decide +kernel
theorem dX6_isOrder_13 : decode cX6_isOrder 13 = .ok (.bipush 103, 2) := by decide +kernel
theorem dX6_isOrder_15 : decode cX6_isOrder 15 = .ok (.if_icmp .eq 27, 3) := by decide +kernel
theorem dX6_isOrder_18 : decode cX6_isOrder 18 = .ok (.iload_n 0, 1) := by decide +kernel
theorem dX6_isOrder_19 : decode cX6_isOrder 19 = .ok (.bipush 100, 2) := by decide +kernel
theorem dX6_isOrder_21 : decode cX6_isOrder 21 = .ok (.if_icmp .eq 21, 3) := by decide +kernel
theorem dX6_isOrder_24 : decode cX6_isOrder 24 = .ok (.iload_n 0, 1) := by decide +kernel
theorem dX6_isOrder_25 : decode cX6_isOrder 25 = .ok (.bipush 120, 2) := by decide +kernel
theorem dX6_isOrder_27 : decode cX6_isOrder 27 = .ok (.if_icmp .eq 15, 3) := by decide +kernel
theorem dX6_isOrder_30 : decode cX6_isOrder 30 = .ok (.iload_n 0, 1) := by decide +kernel
theorem dX6_isOrder_31 : decode cX6_isOrder 31 = .ok (.bipush 97, 2) := by decide +kernel
theorem dX6_isOrder_33 : decode cX6_isOrder 33 = .ok (.if_icmp .eq 9, 3) := by decide +kernel
theorem dX6_isOrder_36 : decode cX6_isOrder 36 = .ok (.iload_n 0, 1) := by decide +kernel
theorem dX6_isOrder_37 : decode cX6_isOrder 37 = .ok (.bipush 110, 2) := by decide +kernel
theorem dX6_isOrder_39 : decode cX6_isOrder 39 = .ok (.if_icmp .ne 7, 3) := by decide +kernel
theorem dX6_isOrder_42 : decode cX6_isOrder 42 = .ok (.iconst 1, 1) := by decide +kernel
theorem dX6_isOrder_43 : decode cX6_isOrder 43 = .ok (.goto 4, 3) := by decide +kernel
theorem dX6_isOrder_46 : decode cX6_isOrder 46 = .ok (.iconst 0, 1) := by decide +kernel
theorem dX6_isOrder_47 : decode cX6_isOrder 47 = .ok (.ireturn, 1) := by decide +kernel
theorem dX6_readsOrder_0 : decode cX6_readsOrder 0 = .ok (.bipush 6, 2) := by decide +kernel
theorem dX6_readsOrder_2 : decode cX6_readsOrder 2 = .ok (.aload_n 0, 1) := by decide +kernel
theorem dX6_readsOrder_3 : decode cX6_readsOrder 3 = .ok (.getfield 208, 3) := by decide +kernel
theorem dX6_readsOrder_6 : decode cX6_readsOrder 6 = .ok (.imul, 1) := by decide +kernel
theorem dX6_readsOrder_7 : decode cX6_readsOrder 7 = .ok (.istore_n 1, 1) := by decide +kernel
theorem dX6_readsOrder_8 : decode cX6_readsOrder 8 = .ok (.aload_n 0, 1) := by decide +kernel
theorem dX6_readsOrder_9 : decode cX6_readsOrder 9 = .ok (.invokevirtual 196, 3) := by decide +kernel
theorem dX6_readsOrder_12 : decode cX6_readsOrder 12 = .ok (.istore_n 2, 1) := by decide +kernel
theorem dX6_readsOrder_13 : decode cX6_readsOrder 13 = .ok (.aload_n 0, 1) := by decide +kernel
theorem dX6_readsOrder_14 : decode cX6_readsOrder 14 = .ok (.iload_n 2, 1) := by decide +kernel
theorem dX6_readsOrder_15 : decode cX6_readsOrder 15 = .ok (.invokestatic 211, 3) := by decide +kernel
theorem dX6_readsOrder_18 : decode cX6_readsOrder 18 = .ok (.putfield 192, 3) := by decide +kernel
theorem dX6_readsOrder_21 : decode cX6_readsOrder 21 = .ok (.aload_n 0, 1) := by decide +kernel
theorem dX6_readsOrder_22 : decode cX6_readsOrder 22 = .ok (.dup, 1) := by decide +kernel
theorem dX6_readsOrder_23 : decode cX6_readsOrder 23 = .ok (.getfield 189, 3) := by decide +kernel
theorem dX6_readsOrder_26 : decode cX6_readsOrder 26 = .ok (.aload_n 0, 1) := by decide +kernel
theorem dX6_readsOrder_27 : decode cX6_readsOrder 27 = .ok (.getfield 192, 3) := by decide +kernel
theorem dX6_readsOrder_30 : decode cX6_readsOrder 30 = .ok (.ifCond .eq 7, 3) := by decide +kernel
theorem dX6_readsOrder_33 : decode cX6_readsOrder 33 = .ok (.iconst 1, 1) := by decide +kernel
theorem dX6_readsOrder_34 : decode cX6_readsOrder 34 = .ok (.goto 4, 3) := by decide +kernel
theorem dX6_readsOrder_37 : decode cX6_readsOrder 37 = .ok (.iconst 0, 1) := by decide +kernel
theorem dX6_readsOrder_38 : decode cX6_readsOrder 38 = .ok (.iadd, 1) := by decide +kernel
theorem dX6_readsOrder_39 : decode cX6_readsOrder 39 = .ok (.putfield 189, 3) := by decide +kernel
theorem dX6_readsOrder_42 : decode cX6_readsOrder 42 = .ok (.aload_n 0, 1) := by decide +kernel
theorem dX6_readsOrder_43 : decode cX6_readsOrder 43 = .ok (.getfield 29, 3) := by decide +kernel
theorem dX6_readsOrder_46 : decode cX6_readsOrder 46 = .ok (.iload_n 1, 1) := by decide +kernel
theorem dX6_readsOrder_47 : decode cX6_readsOrder 47 = .ok (.iload_n 2, 1) := by decide +kernel
theorem dX6_readsOrder_48 : decode cX6_readsOrder 48 = .ok (.iastore, 1) := by decide +kernel
theorem dX6_readsOrder_49 : decode cX6_readsOrder 49 = .ok (.aload_n 0, 1) := by decide +kernel
theorem dX6_readsOrder_50 : decode cX6_readsOrder 50 = .ok (.getfield 29, 3) := by decide +kernel
theorem dX6_readsOrder_53 : decode cX6_readsOrder 53 = .ok (.iload_n 1, 1) := by decide +kernel
theorem dX6_readsOrder_54 : decode cX6_readsOrder 54 = .ok (.iconst 1, 1) := by decide +kernel
theorem dX6_readsOrder_55 : decode cX6_readsOrder 55 = .ok (.iadd, 1) := by decide +kernel
theorem dX6_readsOrder_56 : decode cX6_readsOrder 56 = .ok (.iload_n 2, 1) := by decide +kernel
theorem dX6_readsOrder_57 : decode cX6_readsOrder 57 = .ok (.bipush 97, 2) := by decide +kernel
theorem dX6_readsOrder_59 : decode cX6_readsOrder 59 = .ok (.if_icmp .ne 7, 3) := by decide +kernel
theorem dX6_readsOrder_62 : decode cX6_readsOrder 62 = .ok (.iconst 0, 1) := by decide +kernel
theorem dX6_readsOrder_63 : decode cX6_readsOrder 63 = .ok (.goto 7, 3) := by decide +kernel
theorem dX6_readsOrder_66 : decode cX6_readsOrder 66 = .ok (.aload_n 0, 1) := by decide +kernel
theorem dX6_readsOrder_67 : decode cX6_readsOrder 67 = .ok (.invokevirtual 205, 3) := by decide +kernel
theorem dX6_readsOrder_70 : decode cX6_readsOrder 70 = .ok (.iastore, 1) := by decide +kernel
theorem dX6_readsOrder_71 : decode cX6_readsOrder 71 = .ok (.iload_n 2, 1) := by decide +kernel
theorem dX6_readsOrder_72 : decode cX6_readsOrder 72 = .ok (.bipush 106, 2) := by decide +kernel
theorem dX6_readsOrder_74 : decode cX6_readsOrder 74 = .ok (.if_icmp .ne 11, 3) := by decide +kernel
theorem dX6_readsOrder_77 : decode cX6_readsOrder 77 = .ok (.aload_n 0, 1) := by decide +kernel
theorem dX6_readsOrder_78 : decode cX6_readsOrder 78 = .ok (.iload_n 1, 1) := by decide +kernel
theorem dX6_readsOrder_79 : decode cX6_readsOrder 79 = .ok (.invokevirtual 214, 3) := by decide +kernel
theorem dX6_readsOrder_82 : decode cX6_readsOrder 82 = .ok (.goto 41, 3) := by decide +kernel
theorem dX6_readsOrder_85 : decode cX6_readsOrder 85 = .ok (.iload_n 2, 1) := by decide +kernel
theorem dX6_readsOrder_86 : decode cX6_readsOrder 86 = .ok (.bipush 103, 2) := by decide +kernel
theorem dX6_readsOrder_88 : decode cX6_readsOrder 88 = .ok (.if_icmp .ne 11, 3) := by decide +kernel
theorem dX6_readsOrder_91 : decode cX6_readsOrder 91 = .ok (.aload_n 0, 1) := by decide +kernel
theorem dX6_readsOrder_92 : decode cX6_readsOrder 92 = .ok (.iload_n 1, 1) := by decide +kernel
theorem dX6_readsOrder_93 : decode cX6_readsOrder 93 = .ok (.invokevirtual 217, 3) := by decide +kernel
theorem dX6_readsOrder_96 : decode cX6_readsOrder 96 = .ok (.goto 27, 3) := by decide +kernel
theorem dX6_readsOrder_99 : decode cX6_readsOrder 99 = .ok (.iload_n 2, 1) := by decide +kernel
theorem dX6_readsOrder_100 : decode cX6_readsOrder 100 = .ok (.bipush 100, 2) := by decide +kernel
theorem dX6_readsOrder_102 : decode cX6_readsOrder 102 = .ok (.if_icmp .ne 21, 3) := by decide +kernel
theorem dX6_readsOrder_105 : decode cX6_readsOrder 105 = .ok (.aload_n 0, 1) := by decide +kernel
theorem dX6_readsOrder_106 : decode cX6_readsOrder 106 = .ok (.bipush 43, 2) := by decide +kernel
theorem dX6_readsOrder_108 : decode cX6_readsOrder 108 = .ok (.invokevirtual 202, 3) := by decide +kernel
theorem dX6_readsOrder_111 : decode cX6_readsOrder 111 = .ok (.aload_n 0, 1) := by decide +kernel
theorem dX6_readsOrder_112 : decode cX6_readsOrder 112 = .ok (.getfield 29, 3) := by decide +kernel
theorem dX6_readsOrder_115 : decode cX6_readsOrder 115 = .ok (.iload_n 1, 1) := by decide +kernel
theorem dX6_readsOrder_116 : decode cX6_readsOrder 116 = .ok (.iconst 2, 1) := by decide +kernel
theorem dX6_readsOrder_117 : decode cX6_readsOrder 117 = .ok (.iadd, 1) := by decide +kernel
theorem dX6_readsOrder_118 : decode cX6_readsOrder 118 = .ok (.aload_n 0, 1) := by decide +kernel
theorem dX6_readsOrder_119 : decode cX6_readsOrder 119 = .ok (.invokevirtual 205, 3) := by decide +kernel
theorem dX6_readsOrder_122 : decode cX6_readsOrder 122 = .ok (.iastore, 1) := by decide +kernel
theorem dX6_readsOrder_123 : decode cX6_readsOrder 123 = .ok (.aload_n 0, 1) := by decide +kernel
theorem dX6_readsOrder_124 : decode cX6_readsOrder 124 = .ok (.dup, 1) := by decide +kernel
theorem dX6_readsOrder_125 : decode cX6_readsOrder 125 = .ok (.getfield 208, 3) := by decide +kernel
theorem dX6_readsOrder_128 : decode cX6_readsOrder 128 = .ok (.aload_n 0, 1) := by decide +kernel
theorem dX6_readsOrder_129 : decode cX6_readsOrder 129 = .ok (.getfield 192, 3) := by decide +kernel
theorem dX6_readsOrder_132 : decode cX6_readsOrder 132 = .ok (.ifCond .eq 7, 3) := by decide +kernel
theorem dX6_readsOrder_135 : decode cX6_readsOrder 135 = .ok (.iconst 1, 1) := by decide +kernel
theorem dX6_readsOrder_136 : decode cX6_readsOrder 136 = .ok (.goto 4, 3) := by decide +kernel
theorem dX6_readsOrder_139 : decode cX6_readsOrder 139 = .ok (.iconst 0, 1) := by decide +kernel
theorem dX6_readsOrder_140 : decode cX6_readsOrder 140 = .ok (.iadd, 1) := by decide +kernel
theorem dX6_readsOrder_141 : decode cX6_readsOrder 141 = .ok (.putfield 208, 3) := by decide +kernel
theorem dX6_readsOrder_144 : decode cX6_readsOrder 144 = .ok (.return_, 1) := by decide +kernel
theorem dX6_reads_0 : decode cX6_reads 0 = .ok (.aload_n 0, 1) := by decide +kernel
theorem dX6_reads_1 : decode cX6_reads 1 = .ok (.iconst 0, 1) := by decide +kernel
theorem dX6_reads_2 : decode cX6_reads 2 = .ok (.putfield 189, 3) := by decide +kernel
theorem dX6_reads_5 : decode cX6_reads 5 = .ok (.aload_n 0, 1) := by decide +kernel
theorem dX6_reads_6 : decode cX6_reads 6 = .ok (.iconst 0, 1) := by decide +kernel
theorem dX6_reads_7 : decode cX6_reads 7 = .ok (.putfield 208, 3) := by decide +kernel
theorem dX6_reads_10 : decode cX6_reads 10 = .ok (.aload_n 0, 1) := by decide +kernel
theorem dX6_reads_11 : decode cX6_reads 11 = .ok (.invokevirtual 220, 3) := by decide +kernel
theorem dX6_reads_14 : decode cX6_reads 14 = .ok (.aload_n 0, 1) := by decide +kernel
theorem dX6_reads_15 : decode cX6_reads 15 = .ok (.getfield 192, 3) := by decide +kernel
theorem dX6_reads_18 : decode cX6_reads 18 = .ok (.ifCond .eq 34, 3) := by decide +kernel
theorem dX6_reads_21 : decode cX6_reads 21 = .ok (.aload_n 0, 1) := by decide +kernel
theorem dX6_reads_22 : decode cX6_reads 22 = .ok (.getfield 189, 3) := by decide +kernel
theorem dX6_reads_25 : decode cX6_reads 25 = .ok (.aload_n 0, 1) := by decide +kernel
theorem dX6_reads_26 : decode cX6_reads 26 = .ok (.getfield 178, 3) := by decide +kernel
theorem dX6_reads_29 : decode cX6_reads 29 = .ok (.if_icmp .ge 23, 3) := by decide +kernel
theorem dX6_reads_32 : decode cX6_reads 32 = .ok (.aload_n 0, 1) := by decide +kernel
theorem dX6_reads_33 : decode cX6_reads 33 = .ok (.bipush 59, 2) := by decide +kernel
theorem dX6_reads_35 : decode cX6_reads 35 = .ok (.invokevirtual 202, 3) := by decide +kernel
theorem dX6_reads_38 : decode cX6_reads 38 = .ok (.aload_n 0, 1) := by decide +kernel
theorem dX6_reads_39 : decode cX6_reads 39 = .ok (.getfield 192, 3) := by decide +kernel
theorem dX6_reads_42 : decode cX6_reads 42 = .ok (.ifCond .eq (-28), 3) := by decide +kernel
theorem dX6_reads_45 : decode cX6_reads 45 = .ok (.aload_n 0, 1) := by decide +kernel
theorem dX6_reads_46 : decode cX6_reads 46 = .ok (.invokevirtual 220, 3) := by decide +kernel
theorem dX6_reads_49 : decode cX6_reads 49 = .ok (.goto (-35), 3) := by decide +kernel
theorem dX6_reads_52 : decode cX6_reads 52 = .ok (.aload_n 0, 1) := by decide +kernel
theorem dX6_reads_53 : decode cX6_reads 53 = .ok (.getfield 192, 3) := by decide +kernel
theorem dX6_reads_56 : decode cX6_reads 56 = .ok (.ifCond .eq 8, 3) := by decide +kernel
theorem dX6_reads_59 : decode cX6_reads 59 = .ok (.bipush (-6), 2) := by decide +kernel
theorem dX6_reads_61 : decode cX6_reads 61 = .ok (.goto 7, 3) := by decide +kernel
theorem dX6_reads_64 : decode cX6_reads 64 = .ok (.aload_n 0, 1) := by decide +kernel
theorem dX6_reads_65 : decode cX6_reads 65 = .ok (.getfield 189, 3) := by decide +kernel
theorem dX6_reads_68 : decode cX6_reads 68 = .ok (.ireturn, 1) := by decide +kernel
theorem dX6_fault_0 : decode cX6_fault 0 = .ok (.aload_n 0, 1) := by decide +kernel
theorem dX6_fault_1 : decode cX6_fault 1 = .ok (.iconst 0, 1) := by decide +kernel
theorem dX6_fault_2 : decode cX6_fault 2 = .ok (.putfield 32, 3) := by decide +kernel
theorem dX6_fault_5 : decode cX6_fault 5 = .ok (.aload_n 0, 1) := by decide +kernel
theorem dX6_fault_6 : decode cX6_fault 6 = .ok (.invokevirtual 223, 3) := by decide +kernel
theorem dX6_fault_9 : decode cX6_fault 9 = .ok (.ireturn, 1) := by decide +kernel
theorem dX6_refuses_0 : decode cX6_refuses 0 = .ok (.aload_n 0, 1) := by decide +kernel
theorem dX6_refuses_1 : decode cX6_refuses 1 = .ok (.getfield 29, 3) := by decide +kernel
theorem dX6_refuses_4 : decode cX6_refuses 4 = .ok (.iload_n 1, 1) := by decide +kernel
theorem dX6_refuses_5 : decode cX6_refuses 5 = .ok (.iconst 1, 1) := by decide +kernel
theorem dX6_refuses_6 : decode cX6_refuses 6 = .ok (.iadd, 1) := by decide +kernel
theorem dX6_refuses_7 : decode cX6_refuses 7 = .ok (.iaload, 1) := by decide +kernel
theorem dX6_refuses_8 : decode cX6_refuses 8 = .ok (.istore_n 2, 1) := by decide +kernel
theorem dX6_refuses_9 : decode cX6_refuses 9 = .ok (.aload_n 0, 1) := by decide +kernel
theorem dX6_refuses_10 : decode cX6_refuses 10 = .ok (.getfield 29, 3) := by decide +kernel
theorem dX6_refuses_13 : decode cX6_refuses 13 = .ok (.iload_n 1, 1) := by decide +kernel
theorem dX6_refuses_14 : decode cX6_refuses 14 = .ok (.iconst 2, 1) := by decide +kernel
theorem dX6_refuses_15 : decode cX6_refuses 15 = .ok (.iadd, 1) := by decide +kernel
theorem dX6_refuses_16 : decode cX6_refuses 16 = .ok (.iaload, 1) := by decide +kernel
theorem dX6_refuses_17 : decode cX6_refuses 17 = .ok (.istore_n 3, 1) := by decide +kernel
theorem dX6_refuses_18 : decode cX6_refuses 18 = .ok (.aload_n 0, 1) := by decide +kernel
theorem dX6_refuses_19 : decode cX6_refuses 19 = .ok (.getfield 29, 3) := by decide +kernel
theorem dX6_refuses_22 : decode cX6_refuses 22 = .ok (.iload_n 1, 1) := by decide +kernel
theorem dX6_refuses_23 : decode cX6_refuses 23 = .ok (.iaload, 1) := by decide +kernel
theorem dX6_refuses_24 : decode cX6_refuses 24 = .ok (.lookupswitch 131 #[(100, 112), (103, 97), (106, 66), (110, 125), (119, 60), (120, 119)], 60) := by decide +kernel
theorem dX6_refuses_84 : decode cX6_refuses 84 = .ok (.aload_n 0, 1) := by decide +kernel
theorem dX6_refuses_85 : decode cX6_refuses 85 = .ok (.iload_n 2, 1) := by decide +kernel
theorem dX6_refuses_86 : decode cX6_refuses 86 = .ok (.invokevirtual 120, 3) := by decide +kernel
theorem dX6_refuses_89 : decode cX6_refuses 89 = .ok (.ireturn, 1) := by decide +kernel
theorem dX6_refuses_90 : decode cX6_refuses 90 = .ok (.aload_n 0, 1) := by decide +kernel
theorem dX6_refuses_91 : decode cX6_refuses 91 = .ok (.iload_n 2, 1) := by decide +kernel
theorem dX6_refuses_92 : decode cX6_refuses 92 = .ok (.iload_n 3, 1) := by decide +kernel
theorem dX6_refuses_93 : decode cX6_refuses 93 = .ok (.aload_n 0, 1) := by decide +kernel
theorem dX6_refuses_94 : decode cX6_refuses 94 = .ok (.getfield 29, 3) := by decide +kernel
theorem dX6_refuses_97 : decode cX6_refuses 97 = .ok (.iload_n 1, 1) := by decide +kernel
theorem dX6_refuses_98 : decode cX6_refuses 98 = .ok (.iconst 3, 1) := by decide +kernel
theorem dX6_refuses_99 : decode cX6_refuses 99 = .ok (.iadd, 1) := by decide +kernel
theorem dX6_refuses_100 : decode cX6_refuses 100 = .ok (.iaload, 1) := by decide +kernel
theorem dX6_refuses_101 : decode cX6_refuses 101 = .ok (.aload_n 0, 1) := by decide +kernel
theorem dX6_refuses_102 : decode cX6_refuses 102 = .ok (.getfield 29, 3) := by decide +kernel
theorem dX6_refuses_105 : decode cX6_refuses 105 = .ok (.iload_n 1, 1) := by decide +kernel
theorem dX6_refuses_106 : decode cX6_refuses 106 = .ok (.iconst 4, 1) := by decide +kernel
theorem dX6_refuses_107 : decode cX6_refuses 107 = .ok (.iadd, 1) := by decide +kernel
theorem dX6_refuses_108 : decode cX6_refuses 108 = .ok (.iaload, 1) := by decide +kernel
theorem dX6_refuses_109 : decode cX6_refuses 109 = .ok (.aload_n 0, 1) := by decide +kernel
theorem dX6_refuses_110 : decode cX6_refuses 110 = .ok (.getfield 29, 3) := by decide +kernel
theorem dX6_refuses_113 : decode cX6_refuses 113 = .ok (.iload_n 1, 1) := by decide +kernel
theorem dX6_refuses_114 : decode cX6_refuses 114 = .ok (.iconst 5, 1) := by decide +kernel
theorem dX6_refuses_115 : decode cX6_refuses 115 = .ok (.iadd, 1) := by decide +kernel
theorem dX6_refuses_116 : decode cX6_refuses 116 = .ok (.iaload, 1) := by decide +kernel
theorem dX6_refuses_117 : decode cX6_refuses 117 = .ok (.invokevirtual 126, 3) := by decide +kernel
theorem dX6_refuses_120 : decode cX6_refuses 120 = .ok (.ireturn, 1) := by decide +kernel
theorem dX6_refuses_121 : decode cX6_refuses 121 = .ok (.aload_n 0, 1) := by decide +kernel
theorem dX6_refuses_122 : decode cX6_refuses 122 = .ok (.iload_n 2, 1) := by decide +kernel
theorem dX6_refuses_123 : decode cX6_refuses 123 = .ok (.iload_n 3, 1) := by decide +kernel
theorem dX6_refuses_124 : decode cX6_refuses 124 = .ok (.aload_n 0, 1) := by decide +kernel
theorem dX6_refuses_125 : decode cX6_refuses 125 = .ok (.getfield 29, 3) := by decide +kernel
theorem dX6_refuses_128 : decode cX6_refuses 128 = .ok (.iload_n 1, 1) := by decide +kernel
theorem dX6_refuses_129 : decode cX6_refuses 129 = .ok (.iconst 3, 1) := by decide +kernel
theorem dX6_refuses_130 : decode cX6_refuses 130 = .ok (.iadd, 1) := by decide +kernel
theorem dX6_refuses_131 : decode cX6_refuses 131 = .ok (.iaload, 1) := by decide +kernel
theorem dX6_refuses_132 : decode cX6_refuses 132 = .ok (.invokevirtual 142, 3) := by decide +kernel
theorem dX6_refuses_135 : decode cX6_refuses 135 = .ok (.ireturn, 1) := by decide +kernel
theorem dX6_refuses_136 : decode cX6_refuses 136 = .ok (.aload_n 0, 1) := by decide +kernel
theorem dX6_refuses_137 : decode cX6_refuses 137 = .ok (.iload_n 2, 1) := by decide +kernel
theorem dX6_refuses_138 : decode cX6_refuses 138 = .ok (.iload_n 3, 1) := by decide +kernel
theorem dX6_refuses_139 : decode cX6_refuses 139 = .ok (.invokevirtual 148, 3) := by decide +kernel
theorem dX6_refuses_142 : decode cX6_refuses 142 = .ok (.ireturn, 1) := by decide +kernel
theorem dX6_refuses_143 : decode cX6_refuses 143 = .ok (.aload_n 0, 1) := by decide +kernel
theorem dX6_refuses_144 : decode cX6_refuses 144 = .ok (.iload_n 2, 1) := by decide +kernel
theorem dX6_refuses_145 : decode cX6_refuses 145 = .ok (.invokevirtual 154, 3) := by decide +kernel
theorem dX6_refuses_148 : decode cX6_refuses 148 = .ok (.ireturn, 1) := by decide +kernel
theorem dX6_refuses_149 : decode cX6_refuses 149 = .ok (.aload_n 0, 1) := by decide +kernel
theorem dX6_refuses_150 : decode cX6_refuses 150 = .ok (.iload_n 2, 1) := by decide +kernel
theorem dX6_refuses_151 : decode cX6_refuses 151 = .ok (.invokevirtual 163, 3) := by decide +kernel
theorem dX6_refuses_154 : decode cX6_refuses 154 = .ok (.ireturn, 1) := by decide +kernel
theorem dX6_refuses_155 : decode cX6_refuses 155 = .ok (.iconst 0, 1) := by decide +kernel
theorem dX6_refuses_156 : decode cX6_refuses 156 = .ok (.ireturn, 1) := by decide +kernel
theorem dX6_does_0 : decode cX6_does 0 = .ok (.aload_n 0, 1) := by decide +kernel
theorem dX6_does_1 : decode cX6_does 1 = .ok (.getfield 29, 3) := by decide +kernel
theorem dX6_does_4 : decode cX6_does 4 = .ok (.iload_n 1, 1) := by decide +kernel
theorem dX6_does_5 : decode cX6_does 5 = .ok (.iconst 1, 1) := by decide +kernel
theorem dX6_does_6 : decode cX6_does 6 = .ok (.iadd, 1) := by decide +kernel
theorem dX6_does_7 : decode cX6_does 7 = .ok (.iaload, 1) := by decide +kernel
theorem dX6_does_8 : decode cX6_does 8 = .ok (.istore_n 2, 1) := by decide +kernel
theorem dX6_does_9 : decode cX6_does 9 = .ok (.aload_n 0, 1) := by decide +kernel
theorem dX6_does_10 : decode cX6_does 10 = .ok (.getfield 29, 3) := by decide +kernel
theorem dX6_does_13 : decode cX6_does 13 = .ok (.iload_n 1, 1) := by decide +kernel
theorem dX6_does_14 : decode cX6_does 14 = .ok (.iconst 2, 1) := by decide +kernel
theorem dX6_does_15 : decode cX6_does 15 = .ok (.iadd, 1) := by decide +kernel
theorem dX6_does_16 : decode cX6_does 16 = .ok (.iaload, 1) := by decide +kernel
theorem dX6_does_17 : decode cX6_does 17 = .ok (.istore_n 3, 1) := by decide +kernel
theorem dX6_does_18 : decode cX6_does 18 = .ok (.aload_n 0, 1) := by decide +kernel
theorem dX6_does_19 : decode cX6_does 19 = .ok (.getfield 29, 3) := by decide +kernel
theorem dX6_does_22 : decode cX6_does 22 = .ok (.iload_n 1, 1) := by decide +kernel
theorem dX6_does_23 : decode cX6_does 23 = .ok (.iaload, 1) := by decide +kernel
theorem dX6_does_24 : decode cX6_does 24 = .ok (.lookupswitch 149 #[(100, 121), (103, 103), (106, 69), (110, 140), (119, 60), (120, 131)], 60) := by decide +kernel
theorem dX6_does_84 : decode cX6_does 84 = .ok (.aload_n 0, 1) := by decide +kernel
theorem dX6_does_85 : decode cX6_does 85 = .ok (.iload_n 2, 1) := by decide +kernel
theorem dX6_does_86 : decode cX6_does 86 = .ok (.invokevirtual 123, 3) := by decide +kernel
theorem dX6_does_89 : decode cX6_does 89 = .ok (.pop, 1) := by decide +kernel
theorem dX6_does_90 : decode cX6_does 90 = .ok (.goto 88, 3) := by decide +kernel
theorem dX6_does_93 : decode cX6_does 93 = .ok (.aload_n 0, 1) := by decide +kernel
theorem dX6_does_94 : decode cX6_does 94 = .ok (.iload_n 2, 1) := by decide +kernel
theorem dX6_does_95 : decode cX6_does 95 = .ok (.iload_n 3, 1) := by decide +kernel
theorem dX6_does_96 : decode cX6_does 96 = .ok (.aload_n 0, 1) := by decide +kernel
theorem dX6_does_97 : decode cX6_does 97 = .ok (.getfield 29, 3) := by decide +kernel
theorem dX6_does_100 : decode cX6_does 100 = .ok (.iload_n 1, 1) := by decide +kernel
theorem dX6_does_101 : decode cX6_does 101 = .ok (.iconst 3, 1) := by decide +kernel
theorem dX6_does_102 : decode cX6_does 102 = .ok (.iadd, 1) := by decide +kernel
theorem dX6_does_103 : decode cX6_does 103 = .ok (.iaload, 1) := by decide +kernel
theorem dX6_does_104 : decode cX6_does 104 = .ok (.aload_n 0, 1) := by decide +kernel
theorem dX6_does_105 : decode cX6_does 105 = .ok (.getfield 29, 3) := by decide +kernel
theorem dX6_does_108 : decode cX6_does 108 = .ok (.iload_n 1, 1) := by decide +kernel
theorem dX6_does_109 : decode cX6_does 109 = .ok (.iconst 4, 1) := by decide +kernel
theorem dX6_does_110 : decode cX6_does 110 = .ok (.iadd, 1) := by decide +kernel
theorem dX6_does_111 : decode cX6_does 111 = .ok (.iaload, 1) := by decide +kernel
theorem dX6_does_112 : decode cX6_does 112 = .ok (.aload_n 0, 1) := by decide +kernel
theorem dX6_does_113 : decode cX6_does 113 = .ok (.getfield 29, 3) := by decide +kernel
theorem dX6_does_116 : decode cX6_does 116 = .ok (.iload_n 1, 1) := by decide +kernel
theorem dX6_does_117 : decode cX6_does 117 = .ok (.iconst 5, 1) := by decide +kernel
theorem dX6_does_118 : decode cX6_does 118 = .ok (.iadd, 1) := by decide +kernel
theorem dX6_does_119 : decode cX6_does 119 = .ok (.iaload, 1) := by decide +kernel
theorem dX6_does_120 : decode cX6_does 120 = .ok (.invokevirtual 130, 3) := by decide +kernel
theorem dX6_does_123 : decode cX6_does 123 = .ok (.pop, 1) := by decide +kernel
theorem dX6_does_124 : decode cX6_does 124 = .ok (.goto 54, 3) := by decide +kernel
theorem dX6_does_127 : decode cX6_does 127 = .ok (.aload_n 0, 1) := by decide +kernel
theorem dX6_does_128 : decode cX6_does 128 = .ok (.iload_n 2, 1) := by decide +kernel
theorem dX6_does_129 : decode cX6_does 129 = .ok (.iload_n 3, 1) := by decide +kernel
theorem dX6_does_130 : decode cX6_does 130 = .ok (.aload_n 0, 1) := by decide +kernel
theorem dX6_does_131 : decode cX6_does 131 = .ok (.getfield 29, 3) := by decide +kernel
theorem dX6_does_134 : decode cX6_does 134 = .ok (.iload_n 1, 1) := by decide +kernel
theorem dX6_does_135 : decode cX6_does 135 = .ok (.iconst 3, 1) := by decide +kernel
theorem dX6_does_136 : decode cX6_does 136 = .ok (.iadd, 1) := by decide +kernel
theorem dX6_does_137 : decode cX6_does 137 = .ok (.iaload, 1) := by decide +kernel
theorem dX6_does_138 : decode cX6_does 138 = .ok (.invokevirtual 90, 3) := by decide +kernel
theorem dX6_does_141 : decode cX6_does 141 = .ok (.pop, 1) := by decide +kernel
theorem dX6_does_142 : decode cX6_does 142 = .ok (.goto 36, 3) := by decide +kernel
theorem dX6_does_145 : decode cX6_does 145 = .ok (.aload_n 0, 1) := by decide +kernel
theorem dX6_does_146 : decode cX6_does 146 = .ok (.iload_n 2, 1) := by decide +kernel
theorem dX6_does_147 : decode cX6_does 147 = .ok (.iload_n 3, 1) := by decide +kernel
theorem dX6_does_148 : decode cX6_does 148 = .ok (.invokevirtual 151, 3) := by decide +kernel
theorem dX6_does_151 : decode cX6_does 151 = .ok (.pop, 1) := by decide +kernel
theorem dX6_does_152 : decode cX6_does 152 = .ok (.goto 26, 3) := by decide +kernel
theorem dX6_does_155 : decode cX6_does 155 = .ok (.aload_n 0, 1) := by decide +kernel
theorem dX6_does_156 : decode cX6_does 156 = .ok (.iload_n 2, 1) := by decide +kernel
theorem dX6_does_157 : decode cX6_does 157 = .ok (.invokevirtual 157, 3) := by decide +kernel
theorem dX6_does_160 : decode cX6_does 160 = .ok (.pop, 1) := by decide +kernel
theorem dX6_does_161 : decode cX6_does 161 = .ok (.goto 17, 3) := by decide +kernel
theorem dX6_does_164 : decode cX6_does 164 = .ok (.aload_n 0, 1) := by decide +kernel
theorem dX6_does_165 : decode cX6_does 165 = .ok (.iload_n 2, 1) := by decide +kernel
theorem dX6_does_166 : decode cX6_does 166 = .ok (.invokevirtual 166, 3) := by decide +kernel
theorem dX6_does_169 : decode cX6_does 169 = .ok (.pop, 1) := by decide +kernel
theorem dX6_does_170 : decode cX6_does 170 = .ok (.goto 8, 3) := by decide +kernel
theorem dX6_does_173 : decode cX6_does 173 = .ok (.aload_n 0, 1) := by decide +kernel
theorem dX6_does_174 : decode cX6_does 174 = .ok (.invokevirtual 145, 3) := by decide +kernel
theorem dX6_does_177 : decode cX6_does 177 = .ok (.pop, 1) := by decide +kernel
theorem dX6_does_178 : decode cX6_does 178 = .ok (.return_, 1) := by decide +kernel
theorem dX6_carryOut_0 : decode cX6_carryOut 0 = .ok (.aload_n 0, 1) := by decide +kernel
theorem dX6_carryOut_1 : decode cX6_carryOut 1 = .ok (.iconst 0, 1) := by decide +kernel
theorem dX6_carryOut_2 : decode cX6_carryOut 2 = .ok (.putfield 32, 3) := by decide +kernel
theorem dX6_carryOut_5 : decode cX6_carryOut 5 = .ok (.aload_n 0, 1) := by decide +kernel
theorem dX6_carryOut_6 : decode cX6_carryOut 6 = .ok (.invokevirtual 223, 3) := by decide +kernel
theorem dX6_carryOut_9 : decode cX6_carryOut 9 = .ok (.bipush (-6), 2) := by decide +kernel
theorem dX6_carryOut_11 : decode cX6_carryOut 11 = .ok (.if_icmp .eq 6, 3) := by decide +kernel
theorem dX6_carryOut_14 : decode cX6_carryOut 14 = .ok (.bipush (-3), 2) := by decide +kernel
theorem dX6_carryOut_16 : decode cX6_carryOut 16 = .ok (.ireturn, 1) := by decide +kernel
theorem dX6_carryOut_17 : decode cX6_carryOut 17 = .ok (.aload_n 0, 1) := by decide +kernel
theorem dX6_carryOut_18 : decode cX6_carryOut 18 = .ok (.invokevirtual 117, 3) := by decide +kernel
theorem dX6_carryOut_21 : decode cX6_carryOut 21 = .ok (.aload_n 0, 1) := by decide +kernel
theorem dX6_carryOut_22 : decode cX6_carryOut 22 = .ok (.iconst 0, 1) := by decide +kernel
theorem dX6_carryOut_23 : decode cX6_carryOut 23 = .ok (.putfield 178, 3) := by decide +kernel
theorem dX6_carryOut_26 : decode cX6_carryOut 26 = .ok (.iconst 0, 1) := by decide +kernel
theorem dX6_carryOut_27 : decode cX6_carryOut 27 = .ok (.istore_n 1, 1) := by decide +kernel
theorem dX6_carryOut_28 : decode cX6_carryOut 28 = .ok (.iload_n 1, 1) := by decide +kernel
theorem dX6_carryOut_29 : decode cX6_carryOut 29 = .ok (.aload_n 0, 1) := by decide +kernel
theorem dX6_carryOut_30 : decode cX6_carryOut 30 = .ok (.getfield 208, 3) := by decide +kernel
theorem dX6_carryOut_33 : decode cX6_carryOut 33 = .ok (.if_icmp .ge 28, 3) := by decide +kernel
theorem dX6_carryOut_36 : decode cX6_carryOut 36 = .ok (.aload_n 0, 1) := by decide +kernel
theorem dX6_carryOut_37 : decode cX6_carryOut 37 = .ok (.bipush 6, 2) := by decide +kernel
theorem dX6_carryOut_39 : decode cX6_carryOut 39 = .ok (.iload_n 1, 1) := by decide +kernel
theorem dX6_carryOut_40 : decode cX6_carryOut 40 = .ok (.imul, 1) := by decide +kernel
theorem dX6_carryOut_41 : decode cX6_carryOut 41 = .ok (.invokevirtual 226, 3) := by decide +kernel
theorem dX6_carryOut_44 : decode cX6_carryOut 44 = .ok (.ifCond .ne 17, 3) := by decide +kernel
theorem dX6_carryOut_47 : decode cX6_carryOut 47 = .ok (.aload_n 0, 1) := by decide +kernel
theorem dX6_carryOut_48 : decode cX6_carryOut 48 = .ok (.bipush 6, 2) := by decide +kernel
theorem dX6_carryOut_50 : decode cX6_carryOut 50 = .ok (.iload_n 1, 1) := by decide +kernel
theorem dX6_carryOut_51 : decode cX6_carryOut 51 = .ok (.imul, 1) := by decide +kernel
theorem dX6_carryOut_52 : decode cX6_carryOut 52 = .ok (.invokevirtual 229, 3) := by decide +kernel
theorem dX6_carryOut_55 : decode cX6_carryOut 55 = .ok (.iinc 1 1, 3) := by decide +kernel
theorem dX6_carryOut_58 : decode cX6_carryOut 58 = .ok (.goto (-30), 3) := by decide +kernel
theorem dX6_carryOut_61 : decode cX6_carryOut 61 = .ok (.iload_n 1, 1) := by decide +kernel
theorem dX6_carryOut_62 : decode cX6_carryOut 62 = .ok (.ireturn, 1) := by decide +kernel
theorem dX6_undo_0 : decode cX6_undo 0 = .ok (.aload_n 0, 1) := by decide +kernel
theorem dX6_undo_1 : decode cX6_undo 1 = .ok (.iconst 0, 1) := by decide +kernel
theorem dX6_undo_2 : decode cX6_undo 2 = .ok (.putfield 32, 3) := by decide +kernel
theorem dX6_undo_5 : decode cX6_undo 5 = .ok (.aload_n 0, 1) := by decide +kernel
theorem dX6_undo_6 : decode cX6_undo 6 = .ok (.getfield 40, 3) := by decide +kernel
theorem dX6_undo_9 : decode cX6_undo 9 = .ok (.ifCond .ne 6, 3) := by decide +kernel
theorem dX6_undo_12 : decode cX6_undo 12 = .ok (.bipush (-5), 2) := by decide +kernel
theorem dX6_undo_14 : decode cX6_undo 14 = .ok (.ireturn, 1) := by decide +kernel
theorem dX6_undo_15 : decode cX6_undo 15 = .ok (.aload_n 0, 1) := by decide +kernel
theorem dX6_undo_16 : decode cX6_undo 16 = .ok (.dup, 1) := by decide +kernel
theorem dX6_undo_17 : decode cX6_undo 17 = .ok (.getfield 40, 3) := by decide +kernel
theorem dX6_undo_20 : decode cX6_undo 20 = .ok (.iconst 1, 1) := by decide +kernel
theorem dX6_undo_21 : decode cX6_undo 21 = .ok (.isub, 1) := by decide +kernel
theorem dX6_undo_22 : decode cX6_undo 22 = .ok (.putfield 40, 3) := by decide +kernel
theorem dX6_undo_25 : decode cX6_undo 25 = .ok (.iconst 0, 1) := by decide +kernel
theorem dX6_undo_26 : decode cX6_undo 26 = .ok (.istore_n 1, 1) := by decide +kernel
theorem dX6_undo_27 : decode cX6_undo 27 = .ok (.iload_n 1, 1) := by decide +kernel
theorem dX6_undo_28 : decode cX6_undo 28 = .ok (.sipush 244, 3) := by decide +kernel
theorem dX6_undo_31 : decode cX6_undo 31 = .ok (.if_icmp .ge 30, 3) := by decide +kernel
theorem dX6_undo_34 : decode cX6_undo 34 = .ok (.aload_n 0, 1) := by decide +kernel
theorem dX6_undo_35 : decode cX6_undo 35 = .ok (.getfield 7, 3) := by decide +kernel
theorem dX6_undo_38 : decode cX6_undo 38 = .ok (.iload_n 1, 1) := by decide +kernel
theorem dX6_undo_39 : decode cX6_undo 39 = .ok (.aload_n 0, 1) := by decide +kernel
theorem dX6_undo_40 : decode cX6_undo 40 = .ok (.getfield 16, 3) := by decide +kernel
theorem dX6_undo_43 : decode cX6_undo 43 = .ok (.sipush 244, 3) := by decide +kernel
theorem dX6_undo_46 : decode cX6_undo 46 = .ok (.aload_n 0, 1) := by decide +kernel
theorem dX6_undo_47 : decode cX6_undo 47 = .ok (.getfield 40, 3) := by decide +kernel
theorem dX6_undo_50 : decode cX6_undo 50 = .ok (.imul, 1) := by decide +kernel
theorem dX6_undo_51 : decode cX6_undo 51 = .ok (.iload_n 1, 1) := by decide +kernel
theorem dX6_undo_52 : decode cX6_undo 52 = .ok (.iadd, 1) := by decide +kernel
theorem dX6_undo_53 : decode cX6_undo 53 = .ok (.iaload, 1) := by decide +kernel
theorem dX6_undo_54 : decode cX6_undo 54 = .ok (.iastore, 1) := by decide +kernel
theorem dX6_undo_55 : decode cX6_undo 55 = .ok (.iinc 1 1, 3) := by decide +kernel
theorem dX6_undo_58 : decode cX6_undo 58 = .ok (.goto (-31), 3) := by decide +kernel
theorem dX6_undo_61 : decode cX6_undo 61 = .ok (.aload_n 0, 1) := by decide +kernel
theorem dX6_undo_62 : decode cX6_undo 62 = .ok (.getfield 40, 3) := by decide +kernel
theorem dX6_undo_65 : decode cX6_undo 65 = .ok (.ireturn, 1) := by decide +kernel
theorem dX6_save_0 : decode cX6_save 0 = .ok (.aload_n 0, 1) := by decide +kernel
theorem dX6_save_1 : decode cX6_save 1 = .ok (.iconst 0, 1) := by decide +kernel
theorem dX6_save_2 : decode cX6_save 2 = .ok (.putfield 32, 3) := by decide +kernel
theorem dX6_save_5 : decode cX6_save 5 = .ok (.iload_n 1, 1) := by decide +kernel
theorem dX6_save_6 : decode cX6_save 6 = .ok (.iconst 0, 1) := by decide +kernel
theorem dX6_save_7 : decode cX6_save 7 = .ok (.iconst 1, 1) := by decide +kernel
theorem dX6_save_8 : decode cX6_save 8 = .ok (.invokestatic 36, 3) := by decide +kernel
theorem dX6_save_11 : decode cX6_save 11 = .ok (.ifCond .ne 6, 3) := by decide +kernel
theorem dX6_save_14 : decode cX6_save 14 = .ok (.bipush (-2), 2) := by decide +kernel
theorem dX6_save_16 : decode cX6_save 16 = .ok (.ireturn, 1) := by decide +kernel
theorem dX6_save_17 : decode cX6_save 17 = .ok (.iconst 0, 1) := by decide +kernel
theorem dX6_save_18 : decode cX6_save 18 = .ok (.istore_n 2, 1) := by decide +kernel
theorem dX6_save_19 : decode cX6_save 19 = .ok (.iload_n 2, 1) := by decide +kernel
theorem dX6_save_20 : decode cX6_save 20 = .ok (.sipush 244, 3) := by decide +kernel
theorem dX6_save_23 : decode cX6_save 23 = .ok (.if_icmp .ge 27, 3) := by decide +kernel
theorem dX6_save_26 : decode cX6_save 26 = .ok (.aload_n 0, 1) := by decide +kernel
theorem dX6_save_27 : decode cX6_save 27 = .ok (.getfield 19, 3) := by decide +kernel
theorem dX6_save_30 : decode cX6_save 30 = .ok (.sipush 244, 3) := by decide +kernel
theorem dX6_save_33 : decode cX6_save 33 = .ok (.iload_n 1, 1) := by decide +kernel
theorem dX6_save_34 : decode cX6_save 34 = .ok (.imul, 1) := by decide +kernel
theorem dX6_save_35 : decode cX6_save 35 = .ok (.iload_n 2, 1) := by decide +kernel
theorem dX6_save_36 : decode cX6_save 36 = .ok (.iadd, 1) := by decide +kernel
theorem dX6_save_37 : decode cX6_save 37 = .ok (.aload_n 0, 1) := by decide +kernel
theorem dX6_save_38 : decode cX6_save 38 = .ok (.getfield 7, 3) := by decide +kernel
theorem dX6_save_41 : decode cX6_save 41 = .ok (.iload_n 2, 1) := by decide +kernel
theorem dX6_save_42 : decode cX6_save 42 = .ok (.iaload, 1) := by decide +kernel
theorem dX6_save_43 : decode cX6_save 43 = .ok (.iastore, 1) := by decide +kernel
theorem dX6_save_44 : decode cX6_save 44 = .ok (.iinc 2 1, 3) := by decide +kernel
theorem dX6_save_47 : decode cX6_save 47 = .ok (.goto (-28), 3) := by decide +kernel
theorem dX6_save_50 : decode cX6_save 50 = .ok (.aload_n 0, 1) := by decide +kernel
theorem dX6_save_51 : decode cX6_save 51 = .ok (.getfield 22, 3) := by decide +kernel
theorem dX6_save_54 : decode cX6_save 54 = .ok (.iload_n 1, 1) := by decide +kernel
theorem dX6_save_55 : decode cX6_save 55 = .ok (.iconst 1, 1) := by decide +kernel
theorem dX6_save_56 : decode cX6_save 56 = .ok (.bastore, 1) := by decide +kernel
theorem dX6_save_57 : decode cX6_save 57 = .ok (.aload_n 0, 1) := by decide +kernel
theorem dX6_save_58 : decode cX6_save 58 = .ok (.getfield 7, 3) := by decide +kernel
theorem dX6_save_61 : decode cX6_save 61 = .ok (.bipush 6, 2) := by decide +kernel
theorem dX6_save_63 : decode cX6_save 63 = .ok (.iaload, 1) := by decide +kernel
theorem dX6_save_64 : decode cX6_save 64 = .ok (.ireturn, 1) := by decide +kernel
theorem dX6_restore_0 : decode cX6_restore 0 = .ok (.aload_n 0, 1) := by decide +kernel
theorem dX6_restore_1 : decode cX6_restore 1 = .ok (.iconst 0, 1) := by decide +kernel
theorem dX6_restore_2 : decode cX6_restore 2 = .ok (.putfield 32, 3) := by decide +kernel
theorem dX6_restore_5 : decode cX6_restore 5 = .ok (.iload_n 1, 1) := by decide +kernel
theorem dX6_restore_6 : decode cX6_restore 6 = .ok (.iconst 0, 1) := by decide +kernel
theorem dX6_restore_7 : decode cX6_restore 7 = .ok (.iconst 1, 1) := by decide +kernel
theorem dX6_restore_8 : decode cX6_restore 8 = .ok (.invokestatic 36, 3) := by decide +kernel
theorem dX6_restore_11 : decode cX6_restore 11 = .ok (.ifCond .ne 6, 3) := by decide +kernel
theorem dX6_restore_14 : decode cX6_restore 14 = .ok (.bipush (-2), 2) := by decide +kernel
theorem dX6_restore_16 : decode cX6_restore 16 = .ok (.ireturn, 1) := by decide +kernel
theorem dX6_restore_17 : decode cX6_restore 17 = .ok (.aload_n 0, 1) := by decide +kernel
theorem dX6_restore_18 : decode cX6_restore 18 = .ok (.getfield 22, 3) := by decide +kernel
theorem dX6_restore_21 : decode cX6_restore 21 = .ok (.iload_n 1, 1) := by decide +kernel
theorem dX6_restore_22 : decode cX6_restore 22 = .ok (.baload, 1) := by decide +kernel
theorem dX6_restore_23 : decode cX6_restore 23 = .ok (.ifCond .ne 6, 3) := by decide +kernel
theorem dX6_restore_26 : decode cX6_restore 26 = .ok (.bipush (-5), 2) := by decide +kernel
theorem dX6_restore_28 : decode cX6_restore 28 = .ok (.ireturn, 1) := by decide +kernel
theorem dX6_restore_29 : decode cX6_restore 29 = .ok (.aload_n 0, 1) := by decide +kernel
theorem dX6_restore_30 : decode cX6_restore 30 = .ok (.invokevirtual 117, 3) := by decide +kernel
theorem dX6_restore_33 : decode cX6_restore 33 = .ok (.iconst 0, 1) := by decide +kernel
theorem dX6_restore_34 : decode cX6_restore 34 = .ok (.istore_n 2, 1) := by decide +kernel
theorem dX6_restore_35 : decode cX6_restore 35 = .ok (.iload_n 2, 1) := by decide +kernel
theorem dX6_restore_36 : decode cX6_restore 36 = .ok (.sipush 244, 3) := by decide +kernel
theorem dX6_restore_39 : decode cX6_restore 39 = .ok (.if_icmp .ge 27, 3) := by decide +kernel
theorem dX6_restore_42 : decode cX6_restore 42 = .ok (.aload_n 0, 1) := by decide +kernel
theorem dX6_restore_43 : decode cX6_restore 43 = .ok (.getfield 7, 3) := by decide +kernel
theorem dX6_restore_46 : decode cX6_restore 46 = .ok (.iload_n 2, 1) := by decide +kernel
theorem dX6_restore_47 : decode cX6_restore 47 = .ok (.aload_n 0, 1) := by decide +kernel
theorem dX6_restore_48 : decode cX6_restore 48 = .ok (.getfield 19, 3) := by decide +kernel
theorem dX6_restore_51 : decode cX6_restore 51 = .ok (.sipush 244, 3) := by decide +kernel
theorem dX6_restore_54 : decode cX6_restore 54 = .ok (.iload_n 1, 1) := by decide +kernel
theorem dX6_restore_55 : decode cX6_restore 55 = .ok (.imul, 1) := by decide +kernel
theorem dX6_restore_56 : decode cX6_restore 56 = .ok (.iload_n 2, 1) := by decide +kernel
theorem dX6_restore_57 : decode cX6_restore 57 = .ok (.iadd, 1) := by decide +kernel
theorem dX6_restore_58 : decode cX6_restore 58 = .ok (.iaload, 1) := by decide +kernel
theorem dX6_restore_59 : decode cX6_restore 59 = .ok (.iastore, 1) := by decide +kernel
theorem dX6_restore_60 : decode cX6_restore 60 = .ok (.iinc 2 1, 3) := by decide +kernel
theorem dX6_restore_63 : decode cX6_restore 63 = .ok (.goto (-28), 3) := by decide +kernel
theorem dX6_restore_66 : decode cX6_restore 66 = .ok (.aload_n 0, 1) := by decide +kernel
theorem dX6_restore_67 : decode cX6_restore 67 = .ok (.getfield 7, 3) := by decide +kernel
theorem dX6_restore_70 : decode cX6_restore 70 = .ok (.bipush 6, 2) := by decide +kernel
theorem dX6_restore_72 : decode cX6_restore 72 = .ok (.iaload, 1) := by decide +kernel
theorem dX6_restore_73 : decode cX6_restore 73 = .ok (.ireturn, 1) := by decide +kernel
theorem dJ6_bitCount_0f7a4_0 : decode cJ6_bitCount_0f7a4 0 = .ok (.iload_n 0, 1) := by decide +kernel
theorem dJ6_bitCount_0f7a4_1 : decode cJ6_bitCount_0f7a4 1 = .ok (.iload_n 0, 1) := by decide +kernel
theorem dJ6_bitCount_0f7a4_2 : decode cJ6_bitCount_0f7a4 2 = .ok (.iconst 1, 1) := by decide +kernel
theorem dJ6_bitCount_0f7a4_3 : decode cJ6_bitCount_0f7a4 3 = .ok (.iushr, 1) := by decide +kernel
theorem dJ6_bitCount_0f7a4_4 : decode cJ6_bitCount_0f7a4 4 = .ok (.ldc_w 265, 3) := by decide +kernel
theorem dJ6_bitCount_0f7a4_7 : decode cJ6_bitCount_0f7a4 7 = .ok (.iand, 1) := by decide +kernel
theorem dJ6_bitCount_0f7a4_8 : decode cJ6_bitCount_0f7a4 8 = .ok (.isub, 1) := by decide +kernel
theorem dJ6_bitCount_0f7a4_9 : decode cJ6_bitCount_0f7a4 9 = .ok (.istore_n 0, 1) := by decide +kernel
theorem dJ6_bitCount_0f7a4_10 : decode cJ6_bitCount_0f7a4 10 = .ok (.iload_n 0, 1) := by decide +kernel
theorem dJ6_bitCount_0f7a4_11 : decode cJ6_bitCount_0f7a4 11 = .ok (.ldc_w 266, 3) := by decide +kernel
theorem dJ6_bitCount_0f7a4_14 : decode cJ6_bitCount_0f7a4 14 = .ok (.iand, 1) := by decide +kernel
theorem dJ6_bitCount_0f7a4_15 : decode cJ6_bitCount_0f7a4 15 = .ok (.iload_n 0, 1) := by decide +kernel
theorem dJ6_bitCount_0f7a4_16 : decode cJ6_bitCount_0f7a4 16 = .ok (.iconst 2, 1) := by decide +kernel
theorem dJ6_bitCount_0f7a4_17 : decode cJ6_bitCount_0f7a4 17 = .ok (.iushr, 1) := by decide +kernel
theorem dJ6_bitCount_0f7a4_18 : decode cJ6_bitCount_0f7a4 18 = .ok (.ldc_w 266, 3) := by decide +kernel
theorem dJ6_bitCount_0f7a4_21 : decode cJ6_bitCount_0f7a4 21 = .ok (.iand, 1) := by decide +kernel
theorem dJ6_bitCount_0f7a4_22 : decode cJ6_bitCount_0f7a4 22 = .ok (.iadd, 1) := by decide +kernel
theorem dJ6_bitCount_0f7a4_23 : decode cJ6_bitCount_0f7a4 23 = .ok (.istore_n 0, 1) := by decide +kernel
theorem dJ6_bitCount_0f7a4_24 : decode cJ6_bitCount_0f7a4 24 = .ok (.iload_n 0, 1) := by decide +kernel
theorem dJ6_bitCount_0f7a4_25 : decode cJ6_bitCount_0f7a4 25 = .ok (.iload_n 0, 1) := by decide +kernel
theorem dJ6_bitCount_0f7a4_26 : decode cJ6_bitCount_0f7a4 26 = .ok (.iconst 4, 1) := by decide +kernel
theorem dJ6_bitCount_0f7a4_27 : decode cJ6_bitCount_0f7a4 27 = .ok (.iushr, 1) := by decide +kernel
theorem dJ6_bitCount_0f7a4_28 : decode cJ6_bitCount_0f7a4 28 = .ok (.iadd, 1) := by decide +kernel
theorem dJ6_bitCount_0f7a4_29 : decode cJ6_bitCount_0f7a4 29 = .ok (.ldc_w 267, 3) := by decide +kernel
theorem dJ6_bitCount_0f7a4_32 : decode cJ6_bitCount_0f7a4 32 = .ok (.iand, 1) := by decide +kernel
theorem dJ6_bitCount_0f7a4_33 : decode cJ6_bitCount_0f7a4 33 = .ok (.istore_n 0, 1) := by decide +kernel
theorem dJ6_bitCount_0f7a4_34 : decode cJ6_bitCount_0f7a4 34 = .ok (.iload_n 0, 1) := by decide +kernel
theorem dJ6_bitCount_0f7a4_35 : decode cJ6_bitCount_0f7a4 35 = .ok (.iload_n 0, 1) := by decide +kernel
theorem dJ6_bitCount_0f7a4_36 : decode cJ6_bitCount_0f7a4 36 = .ok (.bipush 8, 2) := by decide +kernel
theorem dJ6_bitCount_0f7a4_38 : decode cJ6_bitCount_0f7a4 38 = .ok (.iushr, 1) := by decide +kernel
theorem dJ6_bitCount_0f7a4_39 : decode cJ6_bitCount_0f7a4 39 = .ok (.iadd, 1) := by decide +kernel
theorem dJ6_bitCount_0f7a4_40 : decode cJ6_bitCount_0f7a4 40 = .ok (.istore_n 0, 1) := by decide +kernel
theorem dJ6_bitCount_0f7a4_41 : decode cJ6_bitCount_0f7a4 41 = .ok (.iload_n 0, 1) := by decide +kernel
theorem dJ6_bitCount_0f7a4_42 : decode cJ6_bitCount_0f7a4 42 = .ok (.iload_n 0, 1) := by decide +kernel
theorem dJ6_bitCount_0f7a4_43 : decode cJ6_bitCount_0f7a4 43 = .ok (.bipush 16, 2) := by decide +kernel
theorem dJ6_bitCount_0f7a4_45 : decode cJ6_bitCount_0f7a4 45 = .ok (.iushr, 1) := by decide +kernel
theorem dJ6_bitCount_0f7a4_46 : decode cJ6_bitCount_0f7a4 46 = .ok (.iadd, 1) := by decide +kernel
theorem dJ6_bitCount_0f7a4_47 : decode cJ6_bitCount_0f7a4 47 = .ok (.istore_n 0, 1) := by decide +kernel
theorem dJ6_bitCount_0f7a4_48 : decode cJ6_bitCount_0f7a4 48 = .ok (.iload_n 0, 1) := by decide +kernel
theorem dJ6_bitCount_0f7a4_49 : decode cJ6_bitCount_0f7a4 49 = .ok (.bipush 63, 2) := by decide +kernel
theorem dJ6_bitCount_0f7a4_51 : decode cJ6_bitCount_0f7a4 51 = .ok (.iand, 1) := by decide +kernel
theorem dJ6_bitCount_0f7a4_52 : decode cJ6_bitCount_0f7a4 52 = .ok (.ireturn, 1) := by decide +kernel
theorem dJ9_floorMod_7cf53_0 : decode cJ9_floorMod_7cf53 0 = .ok (.iload_n 0, 1) := by decide +kernel
theorem dJ9_floorMod_7cf53_1 : decode cJ9_floorMod_7cf53 1 = .ok (.iload_n 1, 1) := by decide +kernel
theorem dJ9_floorMod_7cf53_2 : decode cJ9_floorMod_7cf53 2 = .ok (.irem, 1) := by decide +kernel
theorem dJ9_floorMod_7cf53_3 : decode cJ9_floorMod_7cf53 3 = .ok (.istore_n 2, 1) := by decide +kernel
theorem dJ9_floorMod_7cf53_4 : decode cJ9_floorMod_7cf53 4 = .ok (.iload_n 0, 1) := by decide +kernel
theorem dJ9_floorMod_7cf53_5 : decode cJ9_floorMod_7cf53 5 = .ok (.iload_n 1, 1) := by decide +kernel
theorem dJ9_floorMod_7cf53_6 : decode cJ9_floorMod_7cf53 6 = .ok (.ixor, 1) := by decide +kernel
theorem dJ9_floorMod_7cf53_7 : decode cJ9_floorMod_7cf53 7 = .ok (.ifCond .ge 11, 3) := by decide +kernel
theorem dJ9_floorMod_7cf53_10 : decode cJ9_floorMod_7cf53 10 = .ok (.iload_n 2, 1) := by decide +kernel
theorem dJ9_floorMod_7cf53_11 : decode cJ9_floorMod_7cf53 11 = .ok (.ifCond .eq 7, 3) := by decide +kernel
theorem dJ9_floorMod_7cf53_14 : decode cJ9_floorMod_7cf53 14 = .ok (.iload_n 2, 1) := by decide +kernel
theorem dJ9_floorMod_7cf53_15 : decode cJ9_floorMod_7cf53 15 = .ok (.iload_n 1, 1) := by decide +kernel
theorem dJ9_floorMod_7cf53_16 : decode cJ9_floorMod_7cf53 16 = .ok (.iadd, 1) := by decide +kernel
theorem dJ9_floorMod_7cf53_17 : decode cJ9_floorMod_7cf53 17 = .ok (.ireturn, 1) := by decide +kernel
theorem dJ9_floorMod_7cf53_18 : decode cJ9_floorMod_7cf53 18 = .ok (.iload_n 2, 1) := by decide +kernel
theorem dJ9_floorMod_7cf53_19 : decode cJ9_floorMod_7cf53 19 = .ok (.ireturn, 1) := by decide +kernel
theorem dJ9_max_7cf53_0 : decode cJ9_max_7cf53 0 = .ok (.iload_n 0, 1) := by decide +kernel
theorem dJ9_max_7cf53_1 : decode cJ9_max_7cf53 1 = .ok (.iload_n 1, 1) := by decide +kernel
theorem dJ9_max_7cf53_2 : decode cJ9_max_7cf53 2 = .ok (.if_icmp .lt 7, 3) := by decide +kernel
theorem dJ9_max_7cf53_5 : decode cJ9_max_7cf53 5 = .ok (.iload_n 0, 1) := by decide +kernel
theorem dJ9_max_7cf53_6 : decode cJ9_max_7cf53 6 = .ok (.goto 4, 3) := by decide +kernel
theorem dJ9_max_7cf53_9 : decode cJ9_max_7cf53 9 = .ok (.iload_n 1, 1) := by decide +kernel
theorem dJ9_max_7cf53_10 : decode cJ9_max_7cf53 10 = .ok (.ireturn, 1) := by decide +kernel
theorem dJ9_min_7cf53_0 : decode cJ9_min_7cf53 0 = .ok (.iload_n 0, 1) := by decide +kernel
theorem dJ9_min_7cf53_1 : decode cJ9_min_7cf53 1 = .ok (.iload_n 1, 1) := by decide +kernel
theorem dJ9_min_7cf53_2 : decode cJ9_min_7cf53 2 = .ok (.if_icmp .gt 7, 3) := by decide +kernel
theorem dJ9_min_7cf53_5 : decode cJ9_min_7cf53 5 = .ok (.iload_n 0, 1) := by decide +kernel
theorem dJ9_min_7cf53_6 : decode cJ9_min_7cf53 6 = .ok (.goto 4, 3) := by decide +kernel
theorem dJ9_min_7cf53_9 : decode cJ9_min_7cf53 9 = .ok (.iload_n 1, 1) := by decide +kernel
theorem dJ9_min_7cf53_10 : decode cJ9_min_7cf53 10 = .ok (.ireturn, 1) := by decide +kernel
theorem dJ0_length_8abf5_0 : decode cJ0_length_8abf5 0 = .ok (.aload_n 0, 1) := by decide +kernel
theorem dJ0_length_8abf5_1 : decode cJ0_length_8abf5 1 = .ok (.getfield 9, 3) := by decide +kernel
theorem dJ0_length_8abf5_4 : decode cJ0_length_8abf5 4 = .ok (.arraylength, 1) := by decide +kernel
