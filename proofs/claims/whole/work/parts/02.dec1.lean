theorem dX0_workOneHour_57 : decode cX0_workOneHour 57 = .ok (.iconst 1, 1) := by decide +kernel
theorem dX0_workOneHour_58 : decode cX0_workOneHour 58 = .ok (.iadd, 1) := by decide +kernel
theorem dX0_workOneHour_59 : decode cX0_workOneHour 59 = .ok (.putfield 54, 3) := by decide +kernel
theorem dX0_workOneHour_62 : decode cX0_workOneHour 62 = .ok (.aload_n 0, 1) := by decide +kernel
theorem dX0_workOneHour_63 : decode cX0_workOneHour 63 = .ok (.aload_n 1, 1) := by decide +kernel
theorem dX0_workOneHour_64 : decode cX0_workOneHour 64 = .ok (.getfield 157, 3) := by decide +kernel
theorem dX0_workOneHour_67 : decode cX0_workOneHour 67 = .ok (.invokevirtual 196, 3) := by decide +kernel
theorem dX0_workOneHour_70 : decode cX0_workOneHour 70 = .ok (.iconst 0, 1) := by decide +kernel
theorem dX0_workOneHour_71 : decode cX0_workOneHour 71 = .ok (.ireturn, 1) := by decide +kernel
theorem dX0_workOneHour_72 : decode cX0_workOneHour 72 = .ok (.aload_n 1, 1) := by decide +kernel
theorem dX0_workOneHour_73 : decode cX0_workOneHour 73 = .ok (.dup, 1) := by decide +kernel
theorem dX0_workOneHour_74 : decode cX0_workOneHour 74 = .ok (.getfield 200, 3) := by decide +kernel
theorem dX0_workOneHour_77 : decode cX0_workOneHour 77 = .ok (.iconst 1, 1) := by decide +kernel
theorem dX0_workOneHour_78 : decode cX0_workOneHour 78 = .ok (.isub, 1) := by decide +kernel
theorem dX0_workOneHour_79 : decode cX0_workOneHour 79 = .ok (.putfield 200, 3) := by decide +kernel
theorem dX0_workOneHour_82 : decode cX0_workOneHour 82 = .ok (.aload_n 0, 1) := by decide +kernel
theorem dX0_workOneHour_83 : decode cX0_workOneHour 83 = .ok (.dup, 1) := by decide +kernel
theorem dX0_workOneHour_84 : decode cX0_workOneHour 84 = .ok (.getfield 51, 3) := by decide +kernel
theorem dX0_workOneHour_87 : decode cX0_workOneHour 87 = .ok (.iconst 1, 1) := by decide +kernel
theorem dX0_workOneHour_88 : decode cX0_workOneHour 88 = .ok (.iadd, 1) := by decide +kernel
theorem dX0_workOneHour_89 : decode cX0_workOneHour 89 = .ok (.putfield 51, 3) := by decide +kernel
theorem dX0_workOneHour_92 : decode cX0_workOneHour 92 = .ok (.aload_n 1, 1) := by decide +kernel
theorem dX0_workOneHour_93 : decode cX0_workOneHour 93 = .ok (.getfield 200, 3) := by decide +kernel
theorem dX0_workOneHour_96 : decode cX0_workOneHour 96 = .ok (.ifCond .gt 7, 3) := by decide +kernel
theorem dX0_workOneHour_99 : decode cX0_workOneHour 99 = .ok (.iconst 1, 1) := by decide +kernel
theorem dX0_workOneHour_100 : decode cX0_workOneHour 100 = .ok (.goto 4, 3) := by decide +kernel
theorem dX0_workOneHour_103 : decode cX0_workOneHour 103 = .ok (.iconst 0, 1) := by decide +kernel
theorem dX0_workOneHour_104 : decode cX0_workOneHour 104 = .ok (.istore_n 2, 1) := by decide +kernel
theorem dX0_workOneHour_105 : decode cX0_workOneHour 105 = .ok (.aload_n 0, 1) := by decide +kernel
theorem dX0_workOneHour_106 : decode cX0_workOneHour 106 = .ok (.aload_n 1, 1) := by decide +kernel
theorem dX0_workOneHour_107 : decode cX0_workOneHour 107 = .ok (.getfield 157, 3) := by decide +kernel
theorem dX0_workOneHour_110 : decode cX0_workOneHour 110 = .ok (.iload_n 2, 1) := by decide +kernel
theorem dX0_workOneHour_111 : decode cX0_workOneHour 111 = .ok (.invokevirtual 203, 3) := by decide +kernel
theorem dX0_workOneHour_114 : decode cX0_workOneHour 114 = .ok (.iload_n 2, 1) := by decide +kernel
theorem dX0_workOneHour_115 : decode cX0_workOneHour 115 = .ok (.ifCond .eq 17, 3) := by decide +kernel
theorem dX0_workOneHour_118 : decode cX0_workOneHour 118 = .ok (.aload_n 1, 1) := by decide +kernel
theorem dX0_workOneHour_119 : decode cX0_workOneHour 119 = .ok (.aload_n 0, 1) := by decide +kernel
theorem dX0_workOneHour_120 : decode cX0_workOneHour 120 = .ok (.getfield 48, 3) := by decide +kernel
theorem dX0_workOneHour_123 : decode cX0_workOneHour 123 = .ok (.putfield 207, 3) := by decide +kernel
theorem dX0_workOneHour_126 : decode cX0_workOneHour 126 = .ok (.aload_n 0, 1) := by decide +kernel
theorem dX0_workOneHour_127 : decode cX0_workOneHour 127 = .ok (.aload_n 1, 1) := by decide +kernel
theorem dX0_workOneHour_128 : decode cX0_workOneHour 128 = .ok (.iconst 2, 1) := by decide +kernel
theorem dX0_workOneHour_129 : decode cX0_workOneHour 129 = .ok (.invokevirtual 186, 3) := by decide +kernel
theorem dX0_workOneHour_132 : decode cX0_workOneHour 132 = .ok (.iload_n 2, 1) := by decide +kernel
theorem dX0_workOneHour_133 : decode cX0_workOneHour 133 = .ok (.ireturn, 1) := by decide +kernel
theorem dX0_restPeople_0 : decode cX0_restPeople 0 = .ok (.iconst 0, 1) := by decide +kernel
theorem dX0_restPeople_1 : decode cX0_restPeople 1 = .ok (.istore_n 2, 1) := by decide +kernel
theorem dX0_restPeople_2 : decode cX0_restPeople 2 = .ok (.iload_n 2, 1) := by decide +kernel
theorem dX0_restPeople_3 : decode cX0_restPeople 3 = .ok (.aload_n 0, 1) := by decide +kernel
theorem dX0_restPeople_4 : decode cX0_restPeople 4 = .ok (.getfield 41, 3) := by decide +kernel
theorem dX0_restPeople_7 : decode cX0_restPeople 7 = .ok (.if_icmp .ge 32, 3) := by decide +kernel
theorem dX0_restPeople_10 : decode cX0_restPeople 10 = .ok (.iload_n 2, 1) := by decide +kernel
theorem dX0_restPeople_11 : decode cX0_restPeople 11 = .ok (.iload_n 1, 1) := by decide +kernel
theorem dX0_restPeople_12 : decode cX0_restPeople 12 = .ok (.invokestatic 101, 3) := by decide +kernel
theorem dX0_restPeople_15 : decode cX0_restPeople 15 = .ok (.ifCond .eq 18, 3) := by decide +kernel
theorem dX0_restPeople_18 : decode cX0_restPeople 18 = .ok (.aload_n 0, 1) := by decide +kernel
theorem dX0_restPeople_19 : decode cX0_restPeople 19 = .ok (.getfield 23, 3) := by decide +kernel
theorem dX0_restPeople_22 : decode cX0_restPeople 22 = .ok (.iload_n 2, 1) := by decide +kernel
theorem dX0_restPeople_23 : decode cX0_restPeople 23 = .ok (.aaload, 1) := by decide +kernel
theorem dX0_restPeople_24 : decode cX0_restPeople 24 = .ok (.aload_n 0, 1) := by decide +kernel
theorem dX0_restPeople_25 : decode cX0_restPeople 25 = .ok (.getfield 9, 3) := by decide +kernel
theorem dX0_restPeople_28 : decode cX0_restPeople 28 = .ok (.iconst 1, 1) := by decide +kernel
theorem dX0_restPeople_29 : decode cX0_restPeople 29 = .ok (.iaload, 1) := by decide +kernel
theorem dX0_restPeople_30 : decode cX0_restPeople 30 = .ok (.invokevirtual 210, 3) := by decide +kernel
theorem dX0_restPeople_33 : decode cX0_restPeople 33 = .ok (.iinc 2 1, 3) := by decide +kernel
theorem dX0_restPeople_36 : decode cX0_restPeople 36 = .ok (.goto (-34), 3) := by decide +kernel
theorem dX0_restPeople_39 : decode cX0_restPeople 39 = .ok (.return_, 1) := by decide +kernel
theorem dX0_carryHour_0 : decode cX0_carryHour 0 = .ok (.iconst 0, 1) := by decide +kernel
theorem dX0_carryHour_1 : decode cX0_carryHour 1 = .ok (.istore_n 3, 1) := by decide +kernel
theorem dX0_carryHour_2 : decode cX0_carryHour 2 = .ok (.iload_n 3, 1) := by decide +kernel
theorem dX0_carryHour_3 : decode cX0_carryHour 3 = .ok (.aload_n 0, 1) := by decide +kernel
theorem dX0_carryHour_4 : decode cX0_carryHour 4 = .ok (.getfield 41, 3) := by decide +kernel
theorem dX0_carryHour_7 : decode cX0_carryHour 7 = .ok (.if_icmp .ge 55, 3) := by decide +kernel
theorem dX0_carryHour_10 : decode cX0_carryHour 10 = .ok (.iload_n 3, 1) := by decide +kernel
theorem dX0_carryHour_11 : decode cX0_carryHour 11 = .ok (.iload_n 1, 1) := by decide +kernel
theorem dX0_carryHour_12 : decode cX0_carryHour 12 = .ok (.invokestatic 101, 3) := by decide +kernel
theorem dX0_carryHour_15 : decode cX0_carryHour 15 = .ok (.ifCond .eq 41, 3) := by decide +kernel
theorem dX0_carryHour_18 : decode cX0_carryHour 18 = .ok (.aload_n 0, 1) := by decide +kernel
theorem dX0_carryHour_19 : decode cX0_carryHour 19 = .ok (.getfield 23, 3) := by decide +kernel
theorem dX0_carryHour_22 : decode cX0_carryHour 22 = .ok (.iload_n 3, 1) := by decide +kernel
theorem dX0_carryHour_23 : decode cX0_carryHour 23 = .ok (.aaload, 1) := by decide +kernel
theorem dX0_carryHour_24 : decode cX0_carryHour 24 = .ok (.aload_n 0, 1) := by decide +kernel
theorem dX0_carryHour_25 : decode cX0_carryHour 25 = .ok (.getfield 9, 3) := by decide +kernel
theorem dX0_carryHour_28 : decode cX0_carryHour 28 = .ok (.iconst 2, 1) := by decide +kernel
theorem dX0_carryHour_29 : decode cX0_carryHour 29 = .ok (.iaload, 1) := by decide +kernel
theorem dX0_carryHour_30 : decode cX0_carryHour 30 = .ok (.invokevirtual 213, 3) := by decide +kernel
theorem dX0_carryHour_33 : decode cX0_carryHour 33 = .ok (.aload_n 0, 1) := by decide +kernel
theorem dX0_carryHour_34 : decode cX0_carryHour 34 = .ok (.getfield 23, 3) := by decide +kernel
theorem dX0_carryHour_37 : decode cX0_carryHour 37 = .ok (.iload_n 3, 1) := by decide +kernel
theorem dX0_carryHour_38 : decode cX0_carryHour 38 = .ok (.aaload, 1) := by decide +kernel
theorem dX0_carryHour_39 : decode cX0_carryHour 39 = .ok (.dup, 1) := by decide +kernel
theorem dX0_carryHour_40 : decode cX0_carryHour 40 = .ok (.getfield 216, 3) := by decide +kernel
theorem dX0_carryHour_43 : decode cX0_carryHour 43 = .ok (.iload_n 2, 1) := by decide +kernel
theorem dX0_carryHour_44 : decode cX0_carryHour 44 = .ok (.ifCond .eq 7, 3) := by decide +kernel
theorem dX0_carryHour_47 : decode cX0_carryHour 47 = .ok (.iconst 1, 1) := by decide +kernel
theorem dX0_carryHour_48 : decode cX0_carryHour 48 = .ok (.goto 4, 3) := by decide +kernel
theorem dX0_carryHour_51 : decode cX0_carryHour 51 = .ok (.iconst 0, 1) := by decide +kernel
theorem dX0_carryHour_52 : decode cX0_carryHour 52 = .ok (.iadd, 1) := by decide +kernel
theorem dX0_carryHour_53 : decode cX0_carryHour 53 = .ok (.putfield 216, 3) := by decide +kernel
theorem dX0_carryHour_56 : decode cX0_carryHour 56 = .ok (.iinc 3 1, 3) := by decide +kernel
theorem dX0_carryHour_59 : decode cX0_carryHour 59 = .ok (.goto (-57), 3) := by decide +kernel
theorem dX0_carryHour_62 : decode cX0_carryHour 62 = .ok (.return_, 1) := by decide +kernel
theorem dX0_tellOfJob_0 : decode cX0_tellOfJob 0 = .ok (.iload_n 2, 1) := by decide +kernel
theorem dX0_tellOfJob_1 : decode cX0_tellOfJob 1 = .ok (.tableswitch 159 0 12 #[67, 72, 77, 82, 87, 92, 97, 117, 122, 127, 132, 137, 142], 67) := by decide +kernel
theorem dX0_tellOfJob_68 : decode cX0_tellOfJob 68 = .ok (.aload_n 1, 1) := by decide +kernel
theorem dX0_tellOfJob_69 : decode cX0_tellOfJob 69 = .ok (.getfield 85, 3) := by decide +kernel
theorem dX0_tellOfJob_72 : decode cX0_tellOfJob 72 = .ok (.ireturn, 1) := by decide +kernel
theorem dX0_tellOfJob_73 : decode cX0_tellOfJob 73 = .ok (.aload_n 1, 1) := by decide +kernel
theorem dX0_tellOfJob_74 : decode cX0_tellOfJob 74 = .ok (.getfield 88, 3) := by decide +kernel
theorem dX0_tellOfJob_77 : decode cX0_tellOfJob 77 = .ok (.ireturn, 1) := by decide +kernel
theorem dX0_tellOfJob_78 : decode cX0_tellOfJob 78 = .ok (.aload_n 1, 1) := by decide +kernel
theorem dX0_tellOfJob_79 : decode cX0_tellOfJob 79 = .ok (.getfield 200, 3) := by decide +kernel
theorem dX0_tellOfJob_82 : decode cX0_tellOfJob 82 = .ok (.ireturn, 1) := by decide +kernel
theorem dX0_tellOfJob_83 : decode cX0_tellOfJob 83 = .ok (.aload_n 1, 1) := by decide +kernel
theorem dX0_tellOfJob_84 : decode cX0_tellOfJob 84 = .ok (.getfield 219, 3) := by decide +kernel
theorem dX0_tellOfJob_87 : decode cX0_tellOfJob 87 = .ok (.ireturn, 1) := by decide +kernel
theorem dX0_tellOfJob_88 : decode cX0_tellOfJob 88 = .ok (.aload_n 1, 1) := by decide +kernel
theorem dX0_tellOfJob_89 : decode cX0_tellOfJob 89 = .ok (.getfield 222, 3) := by decide +kernel
theorem dX0_tellOfJob_92 : decode cX0_tellOfJob 92 = .ok (.ireturn, 1) := by decide +kernel
theorem dX0_tellOfJob_93 : decode cX0_tellOfJob 93 = .ok (.aload_n 1, 1) := by decide +kernel
theorem dX0_tellOfJob_94 : decode cX0_tellOfJob 94 = .ok (.getfield 120, 3) := by decide +kernel
theorem dX0_tellOfJob_97 : decode cX0_tellOfJob 97 = .ok (.ireturn, 1) := by decide +kernel
theorem dX0_tellOfJob_98 : decode cX0_tellOfJob 98 = .ok (.aload_n 1, 1) := by decide +kernel
theorem dX0_tellOfJob_99 : decode cX0_tellOfJob 99 = .ok (.invokevirtual 225, 3) := by decide +kernel
theorem dX0_tellOfJob_102 : decode cX0_tellOfJob 102 = .ok (.ifCond .eq 10, 3) := by decide +kernel
theorem dX0_tellOfJob_105 : decode cX0_tellOfJob 105 = .ok (.aload_n 1, 1) := by decide +kernel
theorem dX0_tellOfJob_106 : decode cX0_tellOfJob 106 = .ok (.getfield 154, 3) := by decide +kernel
theorem dX0_tellOfJob_109 : decode cX0_tellOfJob 109 = .ok (.goto 8, 3) := by decide +kernel
theorem dX0_tellOfJob_112 : decode cX0_tellOfJob 112 = .ok (.aload_n 0, 1) := by decide +kernel
theorem dX0_tellOfJob_113 : decode cX0_tellOfJob 113 = .ok (.aload_n 1, 1) := by decide +kernel
theorem dX0_tellOfJob_114 : decode cX0_tellOfJob 114 = .ok (.invokevirtual 94, 3) := by decide +kernel
theorem dX0_tellOfJob_117 : decode cX0_tellOfJob 117 = .ok (.ireturn, 1) := by decide +kernel
theorem dX0_tellOfJob_118 : decode cX0_tellOfJob 118 = .ok (.aload_n 1, 1) := by decide +kernel
theorem dX0_tellOfJob_119 : decode cX0_tellOfJob 119 = .ok (.getfield 157, 3) := by decide +kernel
theorem dX0_tellOfJob_122 : decode cX0_tellOfJob 122 = .ok (.ireturn, 1) := by decide +kernel
theorem dX0_tellOfJob_123 : decode cX0_tellOfJob 123 = .ok (.aload_n 1, 1) := by decide +kernel
theorem dX0_tellOfJob_124 : decode cX0_tellOfJob 124 = .ok (.getfield 160, 3) := by decide +kernel
theorem dX0_tellOfJob_127 : decode cX0_tellOfJob 127 = .ok (.ireturn, 1) := by decide +kernel
theorem dX0_tellOfJob_128 : decode cX0_tellOfJob 128 = .ok (.aload_n 1, 1) := by decide +kernel
theorem dX0_tellOfJob_129 : decode cX0_tellOfJob 129 = .ok (.getfield 183, 3) := by decide +kernel
theorem dX0_tellOfJob_132 : decode cX0_tellOfJob 132 = .ok (.ireturn, 1) := by decide +kernel
theorem dX0_tellOfJob_133 : decode cX0_tellOfJob 133 = .ok (.aload_n 1, 1) := by decide +kernel
theorem dX0_tellOfJob_134 : decode cX0_tellOfJob 134 = .ok (.getfield 199, 3) := by decide +kernel
theorem dX0_tellOfJob_137 : decode cX0_tellOfJob 137 = .ok (.ireturn, 1) := by decide +kernel
theorem dX0_tellOfJob_138 : decode cX0_tellOfJob 138 = .ok (.aload_n 1, 1) := by decide +kernel
theorem dX0_tellOfJob_139 : decode cX0_tellOfJob 139 = .ok (.getfield 207, 3) := by decide +kernel
theorem dX0_tellOfJob_142 : decode cX0_tellOfJob 142 = .ok (.ireturn, 1) := by decide +kernel
theorem dX0_tellOfJob_143 : decode cX0_tellOfJob 143 = .ok (.aload_n 1, 1) := by decide +kernel
theorem dX0_tellOfJob_144 : decode cX0_tellOfJob 144 = .ok (.aload_n 0, 1) := by decide +kernel
theorem dX0_tellOfJob_145 : decode cX0_tellOfJob 145 = .ok (.getfield 48, 3) := by decide +kernel
theorem dX0_tellOfJob_148 : decode cX0_tellOfJob 148 = .ok (.invokevirtual 229, 3) := by decide +kernel
theorem dX0_tellOfJob_151 : decode cX0_tellOfJob 151 = .ok (.ifCond .eq 7, 3) := by decide +kernel
theorem dX0_tellOfJob_154 : decode cX0_tellOfJob 154 = .ok (.iconst 1, 1) := by decide +kernel
theorem dX0_tellOfJob_155 : decode cX0_tellOfJob 155 = .ok (.goto 4, 3) := by decide +kernel
theorem dX0_tellOfJob_158 : decode cX0_tellOfJob 158 = .ok (.iconst 0, 1) := by decide +kernel
theorem dX0_tellOfJob_159 : decode cX0_tellOfJob 159 = .ok (.ireturn, 1) := by decide +kernel
theorem dX0_tellOfJob_160 : decode cX0_tellOfJob 160 = .ok (.bipush (-2), 2) := by decide +kernel
theorem dX0_tellOfJob_162 : decode cX0_tellOfJob 162 = .ok (.ireturn, 1) := by decide +kernel
theorem dX0_tellCount_0 : decode cX0_tellCount 0 = .ok (.iload_n 1, 1) := by decide +kernel
theorem dX0_tellCount_1 : decode cX0_tellCount 1 = .ok (.tableswitch 152 0 13 #[71, 76, 81, 86, 91, 97, 103, 109, 114, 119, 124, 131, 138, 145], 71) := by decide +kernel
theorem dX0_tellCount_72 : decode cX0_tellCount 72 = .ok (.aload_n 0, 1) := by decide +kernel
theorem dX0_tellCount_73 : decode cX0_tellCount 73 = .ok (.getfield 48, 3) := by decide +kernel
theorem dX0_tellCount_76 : decode cX0_tellCount 76 = .ok (.ireturn, 1) := by decide +kernel
theorem dX0_tellCount_77 : decode cX0_tellCount 77 = .ok (.aload_n 0, 1) := by decide +kernel
theorem dX0_tellCount_78 : decode cX0_tellCount 78 = .ok (.getfield 41, 3) := by decide +kernel
theorem dX0_tellCount_81 : decode cX0_tellCount 81 = .ok (.ireturn, 1) := by decide +kernel
theorem dX0_tellCount_82 : decode cX0_tellCount 82 = .ok (.aload_n 0, 1) := by decide +kernel
theorem dX0_tellCount_83 : decode cX0_tellCount 83 = .ok (.invokevirtual 126, 3) := by decide +kernel
theorem dX0_tellCount_86 : decode cX0_tellCount 86 = .ok (.ireturn, 1) := by decide +kernel
theorem dX0_tellCount_87 : decode cX0_tellCount 87 = .ok (.aload_n 0, 1) := by decide +kernel
theorem dX0_tellCount_88 : decode cX0_tellCount 88 = .ok (.getfield 45, 3) := by decide +kernel
theorem dX0_tellCount_91 : decode cX0_tellCount 91 = .ok (.ireturn, 1) := by decide +kernel
theorem dX0_tellCount_92 : decode cX0_tellCount 92 = .ok (.aload_n 0, 1) := by decide +kernel
theorem dX0_tellCount_93 : decode cX0_tellCount 93 = .ok (.iconst 0, 1) := by decide +kernel
theorem dX0_tellCount_94 : decode cX0_tellCount 94 = .ok (.invokevirtual 232, 3) := by decide +kernel
theorem dX0_tellCount_97 : decode cX0_tellCount 97 = .ok (.ireturn, 1) := by decide +kernel
theorem dX0_tellCount_98 : decode cX0_tellCount 98 = .ok (.aload_n 0, 1) := by decide +kernel
theorem dX0_tellCount_99 : decode cX0_tellCount 99 = .ok (.iconst 1, 1) := by decide +kernel
theorem dX0_tellCount_100 : decode cX0_tellCount 100 = .ok (.invokevirtual 232, 3) := by decide +kernel
theorem dX0_tellCount_103 : decode cX0_tellCount 103 = .ok (.ireturn, 1) := by decide +kernel
theorem dX0_tellCount_104 : decode cX0_tellCount 104 = .ok (.aload_n 0, 1) := by decide +kernel
theorem dX0_tellCount_105 : decode cX0_tellCount 105 = .ok (.iconst 2, 1) := by decide +kernel
theorem dX0_tellCount_106 : decode cX0_tellCount 106 = .ok (.invokevirtual 232, 3) := by decide +kernel
theorem dX0_tellCount_109 : decode cX0_tellCount 109 = .ok (.ireturn, 1) := by decide +kernel
theorem dX0_tellCount_110 : decode cX0_tellCount 110 = .ok (.aload_n 0, 1) := by decide +kernel
theorem dX0_tellCount_111 : decode cX0_tellCount 111 = .ok (.invokevirtual 235, 3) := by decide +kernel
theorem dX0_tellCount_114 : decode cX0_tellCount 114 = .ok (.ireturn, 1) := by decide +kernel
theorem dX0_tellCount_115 : decode cX0_tellCount 115 = .ok (.aload_n 0, 1) := by decide +kernel
theorem dX0_tellCount_116 : decode cX0_tellCount 116 = .ok (.getfield 51, 3) := by decide +kernel
theorem dX0_tellCount_119 : decode cX0_tellCount 119 = .ok (.ireturn, 1) := by decide +kernel
theorem dX0_tellCount_120 : decode cX0_tellCount 120 = .ok (.aload_n 0, 1) := by decide +kernel
theorem dX0_tellCount_121 : decode cX0_tellCount 121 = .ok (.getfield 54, 3) := by decide +kernel
theorem dX0_tellCount_124 : decode cX0_tellCount 124 = .ok (.ireturn, 1) := by decide +kernel
theorem dX0_tellCount_125 : decode cX0_tellCount 125 = .ok (.aload_n 0, 1) := by decide +kernel
theorem dX0_tellCount_126 : decode cX0_tellCount 126 = .ok (.getfield 9, 3) := by decide +kernel
theorem dX0_tellCount_129 : decode cX0_tellCount 129 = .ok (.iconst 0, 1) := by decide +kernel
theorem dX0_tellCount_130 : decode cX0_tellCount 130 = .ok (.iaload, 1) := by decide +kernel
theorem dX0_tellCount_131 : decode cX0_tellCount 131 = .ok (.ireturn, 1) := by decide +kernel
theorem dX0_tellCount_132 : decode cX0_tellCount 132 = .ok (.aload_n 0, 1) := by decide +kernel
theorem dX0_tellCount_133 : decode cX0_tellCount 133 = .ok (.getfield 9, 3) := by decide +kernel
theorem dX0_tellCount_136 : decode cX0_tellCount 136 = .ok (.iconst 1, 1) := by decide +kernel
theorem dX0_tellCount_137 : decode cX0_tellCount 137 = .ok (.iaload, 1) := by decide +kernel
theorem dX0_tellCount_138 : decode cX0_tellCount 138 = .ok (.ireturn, 1) := by decide +kernel
theorem dX0_tellCount_139 : decode cX0_tellCount 139 = .ok (.aload_n 0, 1) := by decide +kernel
theorem dX0_tellCount_140 : decode cX0_tellCount 140 = .ok (.getfield 9, 3) := by decide +kernel
theorem dX0_tellCount_143 : decode cX0_tellCount 143 = .ok (.iconst 2, 1) := by decide +kernel
theorem dX0_tellCount_144 : decode cX0_tellCount 144 = .ok (.iaload, 1) := by decide +kernel
theorem dX0_tellCount_145 : decode cX0_tellCount 145 = .ok (.ireturn, 1) := by decide +kernel
theorem dX0_tellCount_146 : decode cX0_tellCount 146 = .ok (.aload_n 0, 1) := by decide +kernel
theorem dX0_tellCount_147 : decode cX0_tellCount 147 = .ok (.getfield 9, 3) := by decide +kernel
theorem dX0_tellCount_150 : decode cX0_tellCount 150 = .ok (.iconst 3, 1) := by decide +kernel
theorem dX0_tellCount_151 : decode cX0_tellCount 151 = .ok (.iaload, 1) := by decide +kernel
theorem dX0_tellCount_152 : decode cX0_tellCount 152 = .ok (.ireturn, 1) := by decide +kernel
theorem dX0_tellCount_153 : decode cX0_tellCount 153 = .ok (.bipush (-2), 2) := by decide +kernel
theorem dX0_tellCount_155 : decode cX0_tellCount 155 = .ok (.ireturn, 1) := by decide +kernel
theorem dX0_jobsInState_0 : decode cX0_jobsInState 0 = .ok (.iconst 0, 1) := by decide +kernel
theorem dX0_jobsInState_1 : decode cX0_jobsInState 1 = .ok (.istore_n 2, 1) := by decide +kernel
theorem dX0_jobsInState_2 : decode cX0_jobsInState 2 = .ok (.iconst 0, 1) := by decide +kernel
theorem dX0_jobsInState_3 : decode cX0_jobsInState 3 = .ok (.istore_n 3, 1) := by decide +kernel
theorem dX0_jobsInState_4 : decode cX0_jobsInState 4 = .ok (.iload_n 3, 1) := by decide +kernel
theorem dX0_jobsInState_5 : decode cX0_jobsInState 5 = .ok (.aload_n 0, 1) := by decide +kernel
theorem dX0_jobsInState_6 : decode cX0_jobsInState 6 = .ok (.getfield 45, 3) := by decide +kernel
theorem dX0_jobsInState_9 : decode cX0_jobsInState 9 = .ok (.if_icmp .ge 28, 3) := by decide +kernel
theorem dX0_jobsInState_12 : decode cX0_jobsInState 12 = .ok (.aload_n 0, 1) := by decide +kernel
theorem dX0_jobsInState_13 : decode cX0_jobsInState 13 = .ok (.getfield 29, 3) := by decide +kernel
theorem dX0_jobsInState_16 : decode cX0_jobsInState 16 = .ok (.iload_n 3, 1) := by decide +kernel
theorem dX0_jobsInState_17 : decode cX0_jobsInState 17 = .ok (.aaload, 1) := by decide +kernel
theorem dX0_jobsInState_18 : decode cX0_jobsInState 18 = .ok (.getfield 120, 3) := by decide +kernel
theorem dX0_jobsInState_21 : decode cX0_jobsInState 21 = .ok (.iload_n 1, 1) := by decide +kernel
theorem dX0_jobsInState_22 : decode cX0_jobsInState 22 = .ok (.if_icmp .ne 9, 3) := by decide +kernel
theorem dX0_jobsInState_25 : decode cX0_jobsInState 25 = .ok (.iload_n 2, 1) := by decide +kernel
theorem dX0_jobsInState_26 : decode cX0_jobsInState 26 = .ok (.iconst 1, 1) := by decide +kernel
theorem dX0_jobsInState_27 : decode cX0_jobsInState 27 = .ok (.iload_n 3, 1) := by decide +kernel
theorem dX0_jobsInState_28 : decode cX0_jobsInState 28 = .ok (.ishl, 1) := by decide +kernel
theorem dX0_jobsInState_29 : decode cX0_jobsInState 29 = .ok (.ior, 1) := by decide +kernel
theorem dX0_jobsInState_30 : decode cX0_jobsInState 30 = .ok (.istore_n 2, 1) := by decide +kernel
theorem dX0_jobsInState_31 : decode cX0_jobsInState 31 = .ok (.iinc 3 1, 3) := by decide +kernel
theorem dX0_jobsInState_34 : decode cX0_jobsInState 34 = .ok (.goto (-30), 3) := by decide +kernel
theorem dX0_jobsInState_37 : decode cX0_jobsInState 37 = .ok (.iload_n 2, 1) := by decide +kernel
theorem dX0_jobsInState_38 : decode cX0_jobsInState 38 = .ok (.ireturn, 1) := by decide +kernel
theorem dX0_lateJobs_0 : decode cX0_lateJobs 0 = .ok (.iconst 0, 1) := by decide +kernel
theorem dX0_lateJobs_1 : decode cX0_lateJobs 1 = .ok (.istore_n 1, 1) := by decide +kernel
theorem dX0_lateJobs_2 : decode cX0_lateJobs 2 = .ok (.iconst 0, 1) := by decide +kernel
theorem dX0_lateJobs_3 : decode cX0_lateJobs 3 = .ok (.istore_n 2, 1) := by decide +kernel
theorem dX0_lateJobs_4 : decode cX0_lateJobs 4 = .ok (.iload_n 2, 1) := by decide +kernel
theorem dX0_lateJobs_5 : decode cX0_lateJobs 5 = .ok (.aload_n 0, 1) := by decide +kernel
theorem dX0_lateJobs_6 : decode cX0_lateJobs 6 = .ok (.getfield 45, 3) := by decide +kernel
theorem dX0_lateJobs_9 : decode cX0_lateJobs 9 = .ok (.if_icmp .ge 31, 3) := by decide +kernel
theorem dX0_lateJobs_12 : decode cX0_lateJobs 12 = .ok (.aload_n 0, 1) := by decide +kernel
theorem dX0_lateJobs_13 : decode cX0_lateJobs 13 = .ok (.getfield 29, 3) := by decide +kernel
theorem dX0_lateJobs_16 : decode cX0_lateJobs 16 = .ok (.iload_n 2, 1) := by decide +kernel
theorem dX0_lateJobs_17 : decode cX0_lateJobs 17 = .ok (.aaload, 1) := by decide +kernel
theorem dX0_lateJobs_18 : decode cX0_lateJobs 18 = .ok (.aload_n 0, 1) := by decide +kernel
theorem dX0_lateJobs_19 : decode cX0_lateJobs 19 = .ok (.getfield 48, 3) := by decide +kernel
theorem dX0_lateJobs_22 : decode cX0_lateJobs 22 = .ok (.invokevirtual 229, 3) := by decide +kernel
theorem dX0_lateJobs_25 : decode cX0_lateJobs 25 = .ok (.ifCond .eq 9, 3) := by decide +kernel
theorem dX0_lateJobs_28 : decode cX0_lateJobs 28 = .ok (.iload_n 1, 1) := by decide +kernel
theorem dX0_lateJobs_29 : decode cX0_lateJobs 29 = .ok (.iconst 1, 1) := by decide +kernel
theorem dX0_lateJobs_30 : decode cX0_lateJobs 30 = .ok (.iload_n 2, 1) := by decide +kernel
theorem dX0_lateJobs_31 : decode cX0_lateJobs 31 = .ok (.ishl, 1) := by decide +kernel
theorem dX0_lateJobs_32 : decode cX0_lateJobs 32 = .ok (.ior, 1) := by decide +kernel
theorem dX0_lateJobs_33 : decode cX0_lateJobs 33 = .ok (.istore_n 1, 1) := by decide +kernel
theorem dX0_lateJobs_34 : decode cX0_lateJobs 34 = .ok (.iinc 2 1, 3) := by decide +kernel
theorem dX0_lateJobs_37 : decode cX0_lateJobs 37 = .ok (.goto (-33), 3) := by decide +kernel
theorem dX0_lateJobs_40 : decode cX0_lateJobs 40 = .ok (.iload_n 1, 1) := by decide +kernel
theorem dX0_lateJobs_41 : decode cX0_lateJobs 41 = .ok (.ireturn, 1) := by decide +kernel
theorem dX1_init_0 : decode cX1_init 0 = .ok (.aload_n 0, 1) := by decide +kernel
theorem dX1_init_1 : decode cX1_init 1 = .ok (.invokespecial 3, 3) := by decide +kernel
theorem dX1_init_4 : decode cX1_init 4 = .ok (.aload_n 0, 1) := by decide +kernel
theorem dX1_init_5 : decode cX1_init 5 = .ok (.bipush 7, 2) := by decide +kernel
theorem dX1_init_7 : decode cX1_init 7 = .ok (.anewarray 11, 3) := by decide +kernel
theorem dX1_init_10 : decode cX1_init 10 = .ok (.putfield 13, 3) := by decide +kernel
theorem dX1_init_13 : decode cX1_init 13 = .ok (.iconst 0, 1) := by decide +kernel
theorem dX1_init_14 : decode cX1_init 14 = .ok (.istore_n 1, 1) := by decide +kernel
theorem dX1_init_15 : decode cX1_init 15 = .ok (.iload_n 1, 1) := by decide +kernel
theorem dX1_init_16 : decode cX1_init 16 = .ok (.bipush 7, 2) := by decide +kernel
theorem dX1_init_18 : decode cX1_init 18 = .ok (.if_icmp .ge 22, 3) := by decide +kernel
theorem dX1_init_21 : decode cX1_init 21 = .ok (.aload_n 0, 1) := by decide +kernel
theorem dX1_init_22 : decode cX1_init 22 = .ok (.getfield 13, 3) := by decide +kernel
theorem dX1_init_25 : decode cX1_init 25 = .ok (.iload_n 1, 1) := by decide +kernel
theorem dX1_init_26 : decode cX1_init 26 = .ok (.new 11, 3) := by decide +kernel
theorem dX1_init_29 : decode cX1_init 29 = .ok (.dup, 1) := by decide +kernel
theorem dX1_init_30 : decode cX1_init 30 = .ok (.invokespecial 17, 3) := by decide +kernel
theorem dX1_init_33 : decode cX1_init 33 = .ok (.aastore, 1) := by decide +kernel
theorem dX1_init_34 : decode cX1_init 34 = .ok (.iinc 1 1, 3) := by decide +kernel
theorem dX1_init_37 : decode cX1_init 37 = .ok (.goto (-22), 3) := by decide +kernel
theorem dX1_init_40 : decode cX1_init 40 = .ok (.return_, 1) := by decide +kernel
theorem dX1_note_0 : decode cX1_note 0 = .ok (.aload_n 0, 1) := by decide +kernel
theorem dX1_note_1 : decode cX1_note 1 = .ok (.getfield 13, 3) := by decide +kernel
theorem dX1_note_4 : decode cX1_note 4 = .ok (.aload_n 0, 1) := by decide +kernel
theorem dX1_note_5 : decode cX1_note 5 = .ok (.aload_n 0, 1) := by decide +kernel
theorem dX1_note_6 : decode cX1_note 6 = .ok (.getfield 18, 3) := by decide +kernel
theorem dX1_note_9 : decode cX1_note 9 = .ok (.invokevirtual 22, 3) := by decide +kernel
theorem dX1_note_12 : decode cX1_note 12 = .ok (.aaload, 1) := by decide +kernel
theorem dX1_note_13 : decode cX1_note 13 = .ok (.aload_n 1, 1) := by decide +kernel
theorem dX1_note_14 : decode cX1_note 14 = .ok (.invokevirtual 26, 3) := by decide +kernel
theorem dX1_note_17 : decode cX1_note 17 = .ok (.return_, 1) := by decide +kernel
theorem dX1_keepUnlessError_0 : decode cX1_keepUnlessError 0 = .ok (.iload_n 1, 1) := by decide +kernel
theorem dX1_keepUnlessError_1 : decode cX1_keepUnlessError 1 = .ok (.ifCond .ge 5, 3) := by decide +kernel
theorem dX1_keepUnlessError_4 : decode cX1_keepUnlessError 4 = .ok (.iload_n 1, 1) := by decide +kernel
theorem dX1_keepUnlessError_5 : decode cX1_keepUnlessError 5 = .ok (.ireturn, 1) := by decide +kernel
theorem dX1_keepUnlessError_6 : decode cX1_keepUnlessError 6 = .ok (.aload_n 0, 1) := by decide +kernel
theorem dX1_keepUnlessError_7 : decode cX1_keepUnlessError 7 = .ok (.getfield 18, 3) := by decide +kernel
theorem dX1_keepUnlessError_10 : decode cX1_keepUnlessError 10 = .ok (.bipush 6, 2) := by decide +kernel
theorem dX1_keepUnlessError_12 : decode cX1_keepUnlessError 12 = .ok (.if_icmp .ge 16, 3) := by decide +kernel
theorem dX1_keepUnlessError_15 : decode cX1_keepUnlessError 15 = .ok (.aload_n 0, 1) := by decide +kernel
theorem dX1_keepUnlessError_16 : decode cX1_keepUnlessError 16 = .ok (.dup, 1) := by decide +kernel
theorem dX1_keepUnlessError_17 : decode cX1_keepUnlessError 17 = .ok (.getfield 18, 3) := by decide +kernel
theorem dX1_keepUnlessError_20 : decode cX1_keepUnlessError 20 = .ok (.iconst 1, 1) := by decide +kernel
theorem dX1_keepUnlessError_21 : decode cX1_keepUnlessError 21 = .ok (.iadd, 1) := by decide +kernel
theorem dX1_keepUnlessError_22 : decode cX1_keepUnlessError 22 = .ok (.putfield 18, 3) := by decide +kernel
theorem dX1_keepUnlessError_25 : decode cX1_keepUnlessError 25 = .ok (.goto 12, 3) := by decide +kernel
theorem dX1_keepUnlessError_28 : decode cX1_keepUnlessError 28 = .ok (.aload_n 0, 1) := by decide +kernel
theorem dX1_keepUnlessError_29 : decode cX1_keepUnlessError 29 = .ok (.aload_n 0, 1) := by decide +kernel
theorem dX1_keepUnlessError_30 : decode cX1_keepUnlessError 30 = .ok (.iconst 1, 1) := by decide +kernel
theorem dX1_keepUnlessError_31 : decode cX1_keepUnlessError 31 = .ok (.invokevirtual 22, 3) := by decide +kernel
theorem dX1_keepUnlessError_34 : decode cX1_keepUnlessError 34 = .ok (.putfield 30, 3) := by decide +kernel
theorem dX1_keepUnlessError_37 : decode cX1_keepUnlessError 37 = .ok (.iload_n 1, 1) := by decide +kernel
theorem dX1_keepUnlessError_38 : decode cX1_keepUnlessError 38 = .ok (.ireturn, 1) := by decide +kernel
theorem dX1_takeBack_0 : decode cX1_takeBack 0 = .ok (.aload_n 0, 1) := by decide +kernel
theorem dX1_takeBack_1 : decode cX1_takeBack 1 = .ok (.getfield 18, 3) := by decide +kernel
theorem dX1_takeBack_4 : decode cX1_takeBack 4 = .ok (.ifCond .gt 6, 3) := by decide +kernel
theorem dX1_takeBack_7 : decode cX1_takeBack 7 = .ok (.bipush (-5), 2) := by decide +kernel
theorem dX1_takeBack_9 : decode cX1_takeBack 9 = .ok (.ireturn, 1) := by decide +kernel
theorem dX1_takeBack_10 : decode cX1_takeBack 10 = .ok (.aload_n 0, 1) := by decide +kernel
theorem dX1_takeBack_11 : decode cX1_takeBack 11 = .ok (.dup, 1) := by decide +kernel
theorem dX1_takeBack_12 : decode cX1_takeBack 12 = .ok (.getfield 18, 3) := by decide +kernel
theorem dX1_takeBack_15 : decode cX1_takeBack 15 = .ok (.iconst 1, 1) := by decide +kernel
theorem dX1_takeBack_16 : decode cX1_takeBack 16 = .ok (.isub, 1) := by decide +kernel
theorem dX1_takeBack_17 : decode cX1_takeBack 17 = .ok (.putfield 18, 3) := by decide +kernel
theorem dX1_takeBack_20 : decode cX1_takeBack 20 = .ok (.aload_n 1, 1) := by decide +kernel
theorem dX1_takeBack_21 : decode cX1_takeBack 21 = .ok (.aload_n 0, 1) := by decide +kernel
theorem dX1_takeBack_22 : decode cX1_takeBack 22 = .ok (.getfield 13, 3) := by decide +kernel
theorem dX1_takeBack_25 : decode cX1_takeBack 25 = .ok (.aload_n 0, 1) := by decide +kernel
theorem dX1_takeBack_26 : decode cX1_takeBack 26 = .ok (.aload_n 0, 1) := by decide +kernel
theorem dX1_takeBack_27 : decode cX1_takeBack 27 = .ok (.getfield 18, 3) := by decide +kernel
theorem dX1_takeBack_30 : decode cX1_takeBack 30 = .ok (.invokevirtual 22, 3) := by decide +kernel
theorem dX1_takeBack_33 : decode cX1_takeBack 33 = .ok (.aaload, 1) := by decide +kernel
theorem dX1_takeBack_34 : decode cX1_takeBack 34 = .ok (.invokevirtual 26, 3) := by decide +kernel
theorem dX1_takeBack_37 : decode cX1_takeBack 37 = .ok (.aload_n 0, 1) := by decide +kernel
theorem dX1_takeBack_38 : decode cX1_takeBack 38 = .ok (.getfield 18, 3) := by decide +kernel
theorem dX1_takeBack_41 : decode cX1_takeBack 41 = .ok (.ireturn, 1) := by decide +kernel
theorem dX1_row_0 : decode cX1_row 0 = .ok (.aload_n 0, 1) := by decide +kernel
theorem dX1_row_1 : decode cX1_row 1 = .ok (.getfield 30, 3) := by decide +kernel
theorem dX1_row_4 : decode cX1_row 4 = .ok (.iload_n 1, 1) := by decide +kernel
theorem dX1_row_5 : decode cX1_row 5 = .ok (.iadd, 1) := by decide +kernel
theorem dX1_row_6 : decode cX1_row 6 = .ok (.bipush 7, 2) := by decide +kernel
theorem dX1_row_8 : decode cX1_row 8 = .ok (.invokestatic 33, 3) := by decide +kernel
theorem dX1_row_11 : decode cX1_row 11 = .ok (.ireturn, 1) := by decide +kernel
theorem dX2_init_0 : decode cX2_init 0 = .ok (.aload_n 0, 1) := by decide +kernel
theorem dX2_init_1 : decode cX2_init 1 = .ok (.invokespecial 3, 3) := by decide +kernel
theorem dX2_init_4 : decode cX2_init 4 = .ok (.return_, 1) := by decide +kernel
theorem dX2_come_0 : decode cX2_come 0 = .ok (.aload_n 0, 1) := by decide +kernel
theorem dX2_come_1 : decode cX2_come 1 = .ok (.iload_n 1, 1) := by decide +kernel
theorem dX2_come_2 : decode cX2_come 2 = .ok (.putfield 9, 3) := by decide +kernel
theorem dX2_come_5 : decode cX2_come 5 = .ok (.aload_n 0, 1) := by decide +kernel
theorem dX2_come_6 : decode cX2_come 6 = .ok (.iload_n 2, 1) := by decide +kernel
theorem dX2_come_7 : decode cX2_come 7 = .ok (.putfield 15, 3) := by decide +kernel
theorem dX2_come_10 : decode cX2_come 10 = .ok (.aload_n 0, 1) := by decide +kernel
theorem dX2_come_11 : decode cX2_come 11 = .ok (.iload_n 3, 1) := by decide +kernel
theorem dX2_come_12 : decode cX2_come 12 = .ok (.putfield 18, 3) := by decide +kernel
theorem dX2_come_15 : decode cX2_come 15 = .ok (.aload_n 0, 1) := by decide +kernel
theorem dX2_come_16 : decode cX2_come 16 = .ok (.iload 4, 2) := by decide +kernel
theorem dX2_come_18 : decode cX2_come 18 = .ok (.putfield 21, 3) := by decide +kernel
theorem dX2_come_21 : decode cX2_come 21 = .ok (.aload_n 0, 1) := by decide +kernel
theorem dX2_come_22 : decode cX2_come 22 = .ok (.iload 5, 2) := by decide +kernel
theorem dX2_come_24 : decode cX2_come 24 = .ok (.putfield 24, 3) := by decide +kernel
theorem dX2_come_27 : decode cX2_come 27 = .ok (.aload_n 0, 1) := by decide +kernel
theorem dX2_come_28 : decode cX2_come 28 = .ok (.iconst 0, 1) := by decide +kernel
theorem dX2_come_29 : decode cX2_come 29 = .ok (.putfield 27, 3) := by decide +kernel
theorem dX2_come_32 : decode cX2_come 32 = .ok (.aload_n 0, 1) := by decide +kernel
theorem dX2_come_33 : decode cX2_come 33 = .ok (.iconst 0, 1) := by decide +kernel
theorem dX2_come_34 : decode cX2_come 34 = .ok (.putfield 30, 3) := by decide +kernel
theorem dX2_come_37 : decode cX2_come 37 = .ok (.aload_n 0, 1) := by decide +kernel
theorem dX2_come_38 : decode cX2_come 38 = .ok (.iconst 0, 1) := by decide +kernel
theorem dX2_come_39 : decode cX2_come 39 = .ok (.putfield 33, 3) := by decide +kernel
theorem dX2_come_42 : decode cX2_come 42 = .ok (.aload_n 0, 1) := by decide +kernel
theorem dX2_come_43 : decode cX2_come 43 = .ok (.bipush (-6), 2) := by decide +kernel
theorem dX2_come_45 : decode cX2_come 45 = .ok (.putfield 36, 3) := by decide +kernel
theorem dX2_come_48 : decode cX2_come 48 = .ok (.aload_n 0, 1) := by decide +kernel
theorem dX2_come_49 : decode cX2_come 49 = .ok (.iconst 0, 1) := by decide +kernel
theorem dX2_come_50 : decode cX2_come 50 = .ok (.putfield 39, 3) := by decide +kernel
theorem dX2_come_53 : decode cX2_come 53 = .ok (.aload_n 0, 1) := by decide +kernel
theorem dX2_come_54 : decode cX2_come 54 = .ok (.iconst 0, 1) := by decide +kernel
theorem dX2_come_55 : decode cX2_come 55 = .ok (.putfield 42, 3) := by decide +kernel
theorem dX2_come_58 : decode cX2_come 58 = .ok (.aload_n 0, 1) := by decide +kernel
theorem dX2_come_59 : decode cX2_come 59 = .ok (.bipush (-6), 2) := by decide +kernel
theorem dX2_come_61 : decode cX2_come 61 = .ok (.putfield 45, 3) := by decide +kernel
theorem dX2_come_64 : decode cX2_come 64 = .ok (.return_, 1) := by decide +kernel
theorem dX2_copyFrom_0 : decode cX2_copyFrom 0 = .ok (.aload_n 0, 1) := by decide +kernel
theorem dX2_copyFrom_1 : decode cX2_copyFrom 1 = .ok (.aload_n 1, 1) := by decide +kernel
theorem dX2_copyFrom_2 : decode cX2_copyFrom 2 = .ok (.getfield 9, 3) := by decide +kernel
theorem dX2_copyFrom_5 : decode cX2_copyFrom 5 = .ok (.putfield 9, 3) := by decide +kernel
theorem dX2_copyFrom_8 : decode cX2_copyFrom 8 = .ok (.aload_n 0, 1) := by decide +kernel
theorem dX2_copyFrom_9 : decode cX2_copyFrom 9 = .ok (.aload_n 1, 1) := by decide +kernel
theorem dX2_copyFrom_10 : decode cX2_copyFrom 10 = .ok (.getfield 15, 3) := by decide +kernel
theorem dX2_copyFrom_13 : decode cX2_copyFrom 13 = .ok (.putfield 15, 3) := by decide +kernel
theorem dX2_copyFrom_16 : decode cX2_copyFrom 16 = .ok (.aload_n 0, 1) := by decide +kernel
theorem dX2_copyFrom_17 : decode cX2_copyFrom 17 = .ok (.aload_n 1, 1) := by decide +kernel
theorem dX2_copyFrom_18 : decode cX2_copyFrom 18 = .ok (.getfield 18, 3) := by decide +kernel
theorem dX2_copyFrom_21 : decode cX2_copyFrom 21 = .ok (.putfield 18, 3) := by decide +kernel
theorem dX2_copyFrom_24 : decode cX2_copyFrom 24 = .ok (.aload_n 0, 1) := by decide +kernel
theorem dX2_copyFrom_25 : decode cX2_copyFrom 25 = .ok (.aload_n 1, 1) := by decide +kernel
theorem dX2_copyFrom_26 : decode cX2_copyFrom 26 = .ok (.getfield 21, 3) := by decide +kernel
theorem dX2_copyFrom_29 : decode cX2_copyFrom 29 = .ok (.putfield 21, 3) := by decide +kernel
theorem dX2_copyFrom_32 : decode cX2_copyFrom 32 = .ok (.aload_n 0, 1) := by decide +kernel
theorem dX2_copyFrom_33 : decode cX2_copyFrom 33 = .ok (.aload_n 1, 1) := by decide +kernel
theorem dX2_copyFrom_34 : decode cX2_copyFrom 34 = .ok (.getfield 24, 3) := by decide +kernel
theorem dX2_copyFrom_37 : decode cX2_copyFrom 37 = .ok (.putfield 24, 3) := by decide +kernel
theorem dX2_copyFrom_40 : decode cX2_copyFrom 40 = .ok (.aload_n 0, 1) := by decide +kernel
theorem dX2_copyFrom_41 : decode cX2_copyFrom 41 = .ok (.aload_n 1, 1) := by decide +kernel
theorem dX2_copyFrom_42 : decode cX2_copyFrom 42 = .ok (.getfield 27, 3) := by decide +kernel
theorem dX2_copyFrom_45 : decode cX2_copyFrom 45 = .ok (.putfield 27, 3) := by decide +kernel
theorem dX2_copyFrom_48 : decode cX2_copyFrom 48 = .ok (.aload_n 0, 1) := by decide +kernel
theorem dX2_copyFrom_49 : decode cX2_copyFrom 49 = .ok (.aload_n 1, 1) := by decide +kernel
theorem dX2_copyFrom_50 : decode cX2_copyFrom 50 = .ok (.getfield 30, 3) := by decide +kernel
theorem dX2_copyFrom_53 : decode cX2_copyFrom 53 = .ok (.putfield 30, 3) := by decide +kernel
theorem dX2_copyFrom_56 : decode cX2_copyFrom 56 = .ok (.aload_n 0, 1) := by decide +kernel
theorem dX2_copyFrom_57 : decode cX2_copyFrom 57 = .ok (.aload_n 1, 1) := by decide +kernel
theorem dX2_copyFrom_58 : decode cX2_copyFrom 58 = .ok (.getfield 33, 3) := by decide +kernel
theorem dX2_copyFrom_61 : decode cX2_copyFrom 61 = .ok (.putfield 33, 3) := by decide +kernel
theorem dX2_copyFrom_64 : decode cX2_copyFrom 64 = .ok (.aload_n 0, 1) := by decide +kernel
theorem dX2_copyFrom_65 : decode cX2_copyFrom 65 = .ok (.aload_n 1, 1) := by decide +kernel
theorem dX2_copyFrom_66 : decode cX2_copyFrom 66 = .ok (.getfield 36, 3) := by decide +kernel
theorem dX2_copyFrom_69 : decode cX2_copyFrom 69 = .ok (.putfield 36, 3) := by decide +kernel
theorem dX2_copyFrom_72 : decode cX2_copyFrom 72 = .ok (.aload_n 0, 1) := by decide +kernel
theorem dX2_copyFrom_73 : decode cX2_copyFrom 73 = .ok (.aload_n 1, 1) := by decide +kernel
theorem dX2_copyFrom_74 : decode cX2_copyFrom 74 = .ok (.getfield 39, 3) := by decide +kernel
theorem dX2_copyFrom_77 : decode cX2_copyFrom 77 = .ok (.putfield 39, 3) := by decide +kernel
theorem dX2_copyFrom_80 : decode cX2_copyFrom 80 = .ok (.aload_n 0, 1) := by decide +kernel
theorem dX2_copyFrom_81 : decode cX2_copyFrom 81 = .ok (.aload_n 1, 1) := by decide +kernel
theorem dX2_copyFrom_82 : decode cX2_copyFrom 82 = .ok (.getfield 42, 3) := by decide +kernel
theorem dX2_copyFrom_85 : decode cX2_copyFrom 85 = .ok (.putfield 42, 3) := by decide +kernel
theorem dX2_copyFrom_88 : decode cX2_copyFrom 88 = .ok (.aload_n 0, 1) := by decide +kernel
theorem dX2_copyFrom_89 : decode cX2_copyFrom 89 = .ok (.aload_n 1, 1) := by decide +kernel
theorem dX2_copyFrom_90 : decode cX2_copyFrom 90 = .ok (.getfield 45, 3) := by decide +kernel
theorem dX2_copyFrom_93 : decode cX2_copyFrom 93 = .ok (.putfield 45, 3) := by decide +kernel
theorem dX2_copyFrom_96 : decode cX2_copyFrom 96 = .ok (.return_, 1) := by decide +kernel
theorem dX2_wasBegun_0 : decode cX2_wasBegun 0 = .ok (.aload_n 0, 1) := by decide +kernel
theorem dX2_wasBegun_1 : decode cX2_wasBegun 1 = .ok (.getfield 33, 3) := by decide +kernel
theorem dX2_wasBegun_4 : decode cX2_wasBegun 4 = .ok (.ifCond .eq 7, 3) := by decide +kernel
theorem dX2_wasBegun_7 : decode cX2_wasBegun 7 = .ok (.iconst 1, 1) := by decide +kernel
theorem dX2_wasBegun_8 : decode cX2_wasBegun 8 = .ok (.goto 4, 3) := by decide +kernel
theorem dX2_wasBegun_11 : decode cX2_wasBegun 11 = .ok (.iconst 0, 1) := by decide +kernel
theorem dX2_wasBegun_12 : decode cX2_wasBegun 12 = .ok (.ireturn, 1) := by decide +kernel
theorem dX2_isLate_0 : decode cX2_isLate 0 = .ok (.aload_n 0, 1) := by decide +kernel
theorem dX2_isLate_1 : decode cX2_isLate 1 = .ok (.getfield 27, 3) := by decide +kernel
theorem dX2_isLate_4 : decode cX2_isLate 4 = .ok (.lookupswitch 47 #[(2, 28), (3, 45)], 28) := by decide +kernel
theorem dX2_isLate_32 : decode cX2_isLate 32 = .ok (.aload_n 0, 1) := by decide +kernel
theorem dX2_isLate_33 : decode cX2_isLate 33 = .ok (.getfield 45, 3) := by decide +kernel
theorem dX2_isLate_36 : decode cX2_isLate 36 = .ok (.aload_n 0, 1) := by decide +kernel
theorem dX2_isLate_37 : decode cX2_isLate 37 = .ok (.getfield 24, 3) := by decide +kernel
theorem dX2_isLate_40 : decode cX2_isLate 40 = .ok (.if_icmp .le 7, 3) := by decide +kernel
theorem dX2_isLate_43 : decode cX2_isLate 43 = .ok (.iconst 1, 1) := by decide +kernel
theorem dX2_isLate_44 : decode cX2_isLate 44 = .ok (.goto 4, 3) := by decide +kernel
theorem dX2_isLate_47 : decode cX2_isLate 47 = .ok (.iconst 0, 1) := by decide +kernel
theorem dX2_isLate_48 : decode cX2_isLate 48 = .ok (.ireturn, 1) := by decide +kernel
theorem dX2_isLate_49 : decode cX2_isLate 49 = .ok (.iconst 0, 1) := by decide +kernel
theorem dX2_isLate_50 : decode cX2_isLate 50 = .ok (.ireturn, 1) := by decide +kernel
theorem dX2_isLate_51 : decode cX2_isLate 51 = .ok (.iload_n 1, 1) := by decide +kernel
theorem dX2_isLate_52 : decode cX2_isLate 52 = .ok (.aload_n 0, 1) := by decide +kernel
theorem dX2_isLate_53 : decode cX2_isLate 53 = .ok (.getfield 24, 3) := by decide +kernel
theorem dX2_isLate_56 : decode cX2_isLate 56 = .ok (.if_icmp .le 7, 3) := by decide +kernel
theorem dX2_isLate_59 : decode cX2_isLate 59 = .ok (.iconst 1, 1) := by decide +kernel
theorem dX2_isLate_60 : decode cX2_isLate 60 = .ok (.goto 4, 3) := by decide +kernel
theorem dX2_isLate_63 : decode cX2_isLate 63 = .ok (.iconst 0, 1) := by decide +kernel
theorem dX2_isLate_64 : decode cX2_isLate 64 = .ok (.ireturn, 1) := by decide +kernel
theorem dX2_isAheadOfLater_0 : decode cX2_isAheadOfLater 0 = .ok (.aload_n 0, 1) := by decide +kernel
theorem dX2_isAheadOfLater_1 : decode cX2_isAheadOfLater 1 = .ok (.getfield 21, 3) := by decide +kernel
theorem dX2_isAheadOfLater_4 : decode cX2_isAheadOfLater 4 = .ok (.aload_n 1, 1) := by decide +kernel
theorem dX2_isAheadOfLater_5 : decode cX2_isAheadOfLater 5 = .ok (.getfield 21, 3) := by decide +kernel
theorem dX2_isAheadOfLater_8 : decode cX2_isAheadOfLater 8 = .ok (.if_icmp .eq 22, 3) := by decide +kernel
theorem dX2_isAheadOfLater_11 : decode cX2_isAheadOfLater 11 = .ok (.aload_n 0, 1) := by decide +kernel
theorem dX2_isAheadOfLater_12 : decode cX2_isAheadOfLater 12 = .ok (.getfield 21, 3) := by decide +kernel
theorem dX2_isAheadOfLater_15 : decode cX2_isAheadOfLater 15 = .ok (.aload_n 1, 1) := by decide +kernel
theorem dX2_isAheadOfLater_16 : decode cX2_isAheadOfLater 16 = .ok (.getfield 21, 3) := by decide +kernel
theorem dX2_isAheadOfLater_19 : decode cX2_isAheadOfLater 19 = .ok (.if_icmp .le 7, 3) := by decide +kernel
theorem dX2_isAheadOfLater_22 : decode cX2_isAheadOfLater 22 = .ok (.iconst 1, 1) := by decide +kernel
theorem dX2_isAheadOfLater_23 : decode cX2_isAheadOfLater 23 = .ok (.goto 23, 3) := by decide +kernel
theorem dX2_isAheadOfLater_26 : decode cX2_isAheadOfLater 26 = .ok (.iconst 0, 1) := by decide +kernel
theorem dX2_isAheadOfLater_27 : decode cX2_isAheadOfLater 27 = .ok (.goto 19, 3) := by decide +kernel
theorem dX2_isAheadOfLater_30 : decode cX2_isAheadOfLater 30 = .ok (.aload_n 0, 1) := by decide +kernel
theorem dX2_isAheadOfLater_31 : decode cX2_isAheadOfLater 31 = .ok (.getfield 24, 3) := by decide +kernel
theorem dX2_isAheadOfLater_34 : decode cX2_isAheadOfLater 34 = .ok (.aload_n 1, 1) := by decide +kernel
theorem dX2_isAheadOfLater_35 : decode cX2_isAheadOfLater 35 = .ok (.getfield 24, 3) := by decide +kernel
theorem dX2_isAheadOfLater_38 : decode cX2_isAheadOfLater 38 = .ok (.if_icmp .gt 7, 3) := by decide +kernel
theorem dX2_isAheadOfLater_41 : decode cX2_isAheadOfLater 41 = .ok (.iconst 1, 1) := by decide +kernel
theorem dX2_isAheadOfLater_42 : decode cX2_isAheadOfLater 42 = .ok (.goto 4, 3) := by decide +kernel
theorem dX2_isAheadOfLater_45 : decode cX2_isAheadOfLater 45 = .ok (.iconst 0, 1) := by decide +kernel
theorem dX2_isAheadOfLater_46 : decode cX2_isAheadOfLater 46 = .ok (.ireturn, 1) := by decide +kernel
theorem dX3_init_0 : decode cX3_init 0 = .ok (.aload_n 0, 1) := by decide +kernel
theorem dX3_init_1 : decode cX3_init 1 = .ok (.invokespecial 3, 3) := by decide +kernel
theorem dX3_init_4 : decode cX3_init 4 = .ok (.aload_n 0, 1) := by decide +kernel
theorem dX3_init_5 : decode cX3_init 5 = .ok (.bipush 80, 2) := by decide +kernel
theorem dX3_init_7 : decode cX3_init 7 = .ok (.newarray .int, 2) := by decide +kernel
theorem dX3_init_9 : decode cX3_init 9 = .ok (.putfield 9, 3) := by decide +kernel
theorem dX3_init_12 : decode cX3_init 12 = .ok (.aload_n 0, 1) := by decide +kernel
theorem dX3_init_13 : decode cX3_init 13 = .ok (.iconst 5, 1) := by decide +kernel
theorem dX3_init_14 : decode cX3_init 14 = .ok (.newarray .int, 2) := by decide +kernel
theorem dX3_init_16 : decode cX3_init 16 = .ok (.putfield 15, 3) := by decide +kernel
theorem dX3_init_19 : decode cX3_init 19 = .ok (.return_, 1) := by decide +kernel
theorem dX3_append_0 : decode cX3_append 0 = .ok (.lload_n 1, 1) := by decide +kernel
theorem dX3_append_1 : decode cX3_append 1 = .ok (.invokestatic 18, 3) := by decide +kernel
theorem dX3_append_4 : decode cX3_append 4 = .ok (.istore_n 3, 1) := by decide +kernel
theorem dX3_append_5 : decode cX3_append 5 = .ok (.iload_n 3, 1) := by decide +kernel
theorem dX3_append_6 : decode cX3_append 6 = .ok (.ifCond .gt 6, 3) := by decide +kernel
theorem dX3_append_9 : decode cX3_append 9 = .ok (.bipush (-2), 2) := by decide +kernel
theorem dX3_append_11 : decode cX3_append 11 = .ok (.ireturn, 1) := by decide +kernel
theorem dX3_append_12 : decode cX3_append 12 = .ok (.aload_n 0, 1) := by decide +kernel
theorem dX3_append_13 : decode cX3_append 13 = .ok (.getfield 22, 3) := by decide +kernel
theorem dX3_append_16 : decode cX3_append 16 = .ok (.iload_n 3, 1) := by decide +kernel
theorem dX3_append_17 : decode cX3_append 17 = .ok (.iadd, 1) := by decide +kernel
theorem dX3_append_18 : decode cX3_append 18 = .ok (.bipush 80, 2) := by decide +kernel
theorem dX3_append_20 : decode cX3_append 20 = .ok (.if_icmp .le 6, 3) := by decide +kernel
theorem dX3_append_23 : decode cX3_append 23 = .ok (.bipush (-4), 2) := by decide +kernel
theorem dX3_append_25 : decode cX3_append 25 = .ok (.ireturn, 1) := by decide +kernel
theorem dX3_append_26 : decode cX3_append 26 = .ok (.iconst 0, 1) := by decide +kernel
theorem dX3_append_27 : decode cX3_append 27 = .ok (.istore 4, 2) := by decide +kernel
theorem dX3_append_29 : decode cX3_append 29 = .ok (.iload 4, 2) := by decide +kernel
theorem dX3_append_31 : decode cX3_append 31 = .ok (.iload_n 3, 1) := by decide +kernel
theorem dX3_append_32 : decode cX3_append 32 = .ok (.if_icmp .ge 31, 3) := by decide +kernel
theorem dX3_append_35 : decode cX3_append 35 = .ok (.aload_n 0, 1) := by decide +kernel
theorem dX3_append_36 : decode cX3_append 36 = .ok (.getfield 9, 3) := by decide +kernel
theorem dX3_append_39 : decode cX3_append 39 = .ok (.aload_n 0, 1) := by decide +kernel
theorem dX3_append_40 : decode cX3_append 40 = .ok (.getfield 22, 3) := by decide +kernel
theorem dX3_append_43 : decode cX3_append 43 = .ok (.iload 4, 2) := by decide +kernel
theorem dX3_append_45 : decode cX3_append 45 = .ok (.iadd, 1) := by decide +kernel
theorem dX3_append_46 : decode cX3_append 46 = .ok (.lload_n 1, 1) := by decide +kernel
theorem dX3_append_47 : decode cX3_append 47 = .ok (.iload_n 3, 1) := by decide +kernel
theorem dX3_append_48 : decode cX3_append 48 = .ok (.iconst 1, 1) := by decide +kernel
theorem dX3_append_49 : decode cX3_append 49 = .ok (.isub, 1) := by decide +kernel
theorem dX3_append_50 : decode cX3_append 50 = .ok (.iload 4, 2) := by decide +kernel
theorem dX3_append_52 : decode cX3_append 52 = .ok (.isub, 1) := by decide +kernel
theorem dX3_append_53 : decode cX3_append 53 = .ok (.invokestatic 26, 3) := by decide +kernel
theorem dX3_append_56 : decode cX3_append 56 = .ok (.iastore, 1) := by decide +kernel
theorem dX3_append_57 : decode cX3_append 57 = .ok (.iinc 4 1, 3) := by decide +kernel
theorem dX3_append_60 : decode cX3_append 60 = .ok (.goto (-31), 3) := by decide +kernel
theorem dX3_append_63 : decode cX3_append 63 = .ok (.aload_n 0, 1) := by decide +kernel
theorem dX3_append_64 : decode cX3_append 64 = .ok (.dup, 1) := by decide +kernel
theorem dX3_append_65 : decode cX3_append 65 = .ok (.getfield 22, 3) := by decide +kernel
theorem dX3_append_68 : decode cX3_append 68 = .ok (.iload_n 3, 1) := by decide +kernel
theorem dX3_append_69 : decode cX3_append 69 = .ok (.iadd, 1) := by decide +kernel
theorem dX3_append_70 : decode cX3_append 70 = .ok (.putfield 22, 3) := by decide +kernel
theorem dX3_append_73 : decode cX3_append 73 = .ok (.aload_n 0, 1) := by decide +kernel
theorem dX3_append_74 : decode cX3_append 74 = .ok (.getfield 22, 3) := by decide +kernel
theorem dX3_append_77 : decode cX3_append 77 = .ok (.ireturn, 1) := by decide +kernel
theorem dX3_signsIn_0 : decode cX3_signsIn 0 = .ok (.iconst 0, 1) := by decide +kernel
theorem dX3_signsIn_1 : decode cX3_signsIn 1 = .ok (.istore_n 2, 1) := by decide +kernel
theorem dX3_signsIn_2 : decode cX3_signsIn 2 = .ok (.iload_n 2, 1) := by decide +kernel
theorem dX3_signsIn_3 : decode cX3_signsIn 3 = .ok (.bipush 8, 2) := by decide +kernel
theorem dX3_signsIn_5 : decode cX3_signsIn 5 = .ok (.if_icmp .ge 34, 3) := by decide +kernel
theorem dX3_signsIn_8 : decode cX3_signsIn 8 = .ok (.lload_n 0, 1) := by decide +kernel
theorem dX3_signsIn_9 : decode cX3_signsIn 9 = .ok (.iload_n 2, 1) := by decide +kernel
theorem dX3_signsIn_10 : decode cX3_signsIn 10 = .ok (.invokestatic 26, 3) := by decide +kernel
theorem dX3_signsIn_13 : decode cX3_signsIn 13 = .ok (.ifCond .eq 26, 3) := by decide +kernel
theorem dX3_signsIn_16 : decode cX3_signsIn 16 = .ok (.lload_n 0, 1) := by decide +kernel
theorem dX3_signsIn_17 : decode cX3_signsIn 17 = .ok (.iload_n 2, 1) := by decide +kernel
theorem dX3_signsIn_18 : decode cX3_signsIn 18 = .ok (.invokestatic 26, 3) := by decide +kernel
theorem dX3_signsIn_21 : decode cX3_signsIn 21 = .ok (.bipush 33, 2) := by decide +kernel
theorem dX3_signsIn_23 : decode cX3_signsIn 23 = .ok (.bipush 126, 2) := by decide +kernel
theorem dX3_signsIn_25 : decode cX3_signsIn 25 = .ok (.invokestatic 30, 3) := by decide +kernel
theorem dX3_signsIn_28 : decode cX3_signsIn 28 = .ok (.ifCond .ne 5, 3) := by decide +kernel
theorem dX3_signsIn_31 : decode cX3_signsIn 31 = .ok (.iconst 0, 1) := by decide +kernel
theorem dX3_signsIn_32 : decode cX3_signsIn 32 = .ok (.ireturn, 1) := by decide +kernel
theorem dX3_signsIn_33 : decode cX3_signsIn 33 = .ok (.iinc 2 1, 3) := by decide +kernel
theorem dX3_signsIn_36 : decode cX3_signsIn 36 = .ok (.goto (-34), 3) := by decide +kernel
theorem dX3_signsIn_39 : decode cX3_signsIn 39 = .ok (.iload_n 2, 1) := by decide +kernel
theorem dX3_signsIn_40 : decode cX3_signsIn 40 = .ok (.bipush 8, 2) := by decide +kernel
theorem dX3_signsIn_42 : decode cX3_signsIn 42 = .ok (.if_icmp .eq 14, 3) := by decide +kernel
theorem dX3_signsIn_45 : decode cX3_signsIn 45 = .ok (.lload_n 0, 1) := by decide +kernel
theorem dX3_signsIn_46 : decode cX3_signsIn 46 = .ok (.bipush 8, 2) := by decide +kernel
theorem dX3_signsIn_48 : decode cX3_signsIn 48 = .ok (.iload_n 2, 1) := by decide +kernel
theorem dX3_signsIn_49 : decode cX3_signsIn 49 = .ok (.imul, 1) := by decide +kernel
theorem dX3_signsIn_50 : decode cX3_signsIn 50 = .ok (.lushr, 1) := by decide +kernel
theorem dX3_signsIn_51 : decode cX3_signsIn 51 = .ok (.lconst 0, 1) := by decide +kernel
theorem dX3_signsIn_52 : decode cX3_signsIn 52 = .ok (.lcmp, 1) := by decide +kernel
theorem dX3_signsIn_53 : decode cX3_signsIn 53 = .ok (.ifCond .ne 7, 3) := by decide +kernel
theorem dX3_signsIn_56 : decode cX3_signsIn 56 = .ok (.iconst 1, 1) := by decide +kernel
theorem dX3_signsIn_57 : decode cX3_signsIn 57 = .ok (.goto 4, 3) := by decide +kernel
theorem dX3_signsIn_60 : decode cX3_signsIn 60 = .ok (.iconst 0, 1) := by decide +kernel
theorem dX3_signsIn_61 : decode cX3_signsIn 61 = .ok (.istore_n 3, 1) := by decide +kernel
theorem dX3_signsIn_62 : decode cX3_signsIn 62 = .ok (.iload_n 3, 1) := by decide +kernel
theorem dX3_signsIn_63 : decode cX3_signsIn 63 = .ok (.ifCond .eq 7, 3) := by decide +kernel
theorem dX3_signsIn_66 : decode cX3_signsIn 66 = .ok (.iload_n 2, 1) := by decide +kernel
theorem dX3_signsIn_67 : decode cX3_signsIn 67 = .ok (.goto 4, 3) := by decide +kernel
theorem dX3_signsIn_70 : decode cX3_signsIn 70 = .ok (.iconst 0, 1) := by decide +kernel
theorem dX3_signsIn_71 : decode cX3_signsIn 71 = .ok (.ireturn, 1) := by decide +kernel
theorem dX3_signOf_0 : decode cX3_signOf 0 = .ok (.lload_n 0, 1) := by decide +kernel
theorem dX3_signOf_1 : decode cX3_signOf 1 = .ok (.bipush 8, 2) := by decide +kernel
theorem dX3_signOf_3 : decode cX3_signOf 3 = .ok (.iload_n 2, 1) := by decide +kernel
theorem dX3_signOf_4 : decode cX3_signOf 4 = .ok (.imul, 1) := by decide +kernel
theorem dX3_signOf_5 : decode cX3_signOf 5 = .ok (.lushr, 1) := by decide +kernel
theorem dX3_signOf_6 : decode cX3_signOf 6 = .ok (.l2i, 1) := by decide +kernel
theorem dX3_signOf_7 : decode cX3_signOf 7 = .ok (.sipush 255, 3) := by decide +kernel
theorem dX3_signOf_10 : decode cX3_signOf 10 = .ok (.iand, 1) := by decide +kernel
theorem dX3_signOf_11 : decode cX3_signOf 11 = .ok (.ireturn, 1) := by decide +kernel
theorem dX3_empty_0 : decode cX3_empty 0 = .ok (.aload_n 0, 1) := by decide +kernel
theorem dX3_empty_1 : decode cX3_empty 1 = .ok (.getfield 22, 3) := by decide +kernel
theorem dX3_empty_4 : decode cX3_empty 4 = .ok (.istore_n 1, 1) := by decide +kernel
theorem dX3_empty_5 : decode cX3_empty 5 = .ok (.aload_n 0, 1) := by decide +kernel
theorem dX3_empty_6 : decode cX3_empty 6 = .ok (.iconst 0, 1) := by decide +kernel
theorem dX3_empty_7 : decode cX3_empty 7 = .ok (.putfield 22, 3) := by decide +kernel
theorem dX3_empty_10 : decode cX3_empty 10 = .ok (.iload_n 1, 1) := by decide +kernel
theorem dX3_empty_11 : decode cX3_empty 11 = .ok (.ireturn, 1) := by decide +kernel
theorem dX3_startReading_0 : decode cX3_startReading 0 = .ok (.aload_n 0, 1) := by decide +kernel
theorem dX3_startReading_1 : decode cX3_startReading 1 = .ok (.iconst 0, 1) := by decide +kernel
theorem dX3_startReading_2 : decode cX3_startReading 2 = .ok (.putfield 34, 3) := by decide +kernel
theorem dX3_startReading_5 : decode cX3_startReading 5 = .ok (.return_, 1) := by decide +kernel
theorem dX3_number_0 : decode cX3_number 0 = .ok (.iload_n 1, 1) := by decide +kernel
theorem dX3_number_1 : decode cX3_number 1 = .ok (.ifCond .lt 20, 3) := by decide +kernel
theorem dX3_number_4 : decode cX3_number 4 = .ok (.iload_n 1, 1) := by decide +kernel
theorem dX3_number_5 : decode cX3_number 5 = .ok (.aload_n 0, 1) := by decide +kernel
theorem dX3_number_6 : decode cX3_number 6 = .ok (.getfield 37, 3) := by decide +kernel
theorem dX3_number_9 : decode cX3_number 9 = .ok (.if_icmp .ge 12, 3) := by decide +kernel
theorem dX3_number_12 : decode cX3_number 12 = .ok (.aload_n 0, 1) := by decide +kernel
theorem dX3_number_13 : decode cX3_number 13 = .ok (.getfield 15, 3) := by decide +kernel
theorem dX3_number_16 : decode cX3_number 16 = .ok (.iload_n 1, 1) := by decide +kernel
theorem dX3_number_17 : decode cX3_number 17 = .ok (.iaload, 1) := by decide +kernel
theorem dX3_number_18 : decode cX3_number 18 = .ok (.goto 4, 3) := by decide +kernel
theorem dX3_number_21 : decode cX3_number 21 = .ok (.iconst 0, 1) := by decide +kernel
theorem dX3_number_22 : decode cX3_number 22 = .ok (.ireturn, 1) := by decide +kernel
theorem dX3_findFault_0 : decode cX3_findFault 0 = .ok (.aload_n 0, 1) := by decide +kernel
theorem dX3_findFault_1 : decode cX3_findFault 1 = .ok (.invokevirtual 40, 3) := by decide +kernel
theorem dX3_findFault_4 : decode cX3_findFault 4 = .ok (.iconst 0, 1) := by decide +kernel
theorem dX3_findFault_5 : decode cX3_findFault 5 = .ok (.istore_n 1, 1) := by decide +kernel
theorem dX3_findFault_6 : decode cX3_findFault 6 = .ok (.iload_n 1, 1) := by decide +kernel
theorem dX3_findFault_7 : decode cX3_findFault 7 = .ok (.bipush 80, 2) := by decide +kernel
theorem dX3_findFault_9 : decode cX3_findFault 9 = .ok (.if_icmp .gt 49, 3) := by decide +kernel
theorem dX3_findFault_12 : decode cX3_findFault 12 = .ok (.aload_n 0, 1) := by decide +kernel
theorem dX3_findFault_13 : decode cX3_findFault 13 = .ok (.invokevirtual 43, 3) := by decide +kernel
theorem dX3_findFault_16 : decode cX3_findFault 16 = .ok (.ifCond .ne 8, 3) := by decide +kernel
theorem dX3_findFault_19 : decode cX3_findFault 19 = .ok (.aload_n 0, 1) := by decide +kernel
theorem dX3_findFault_20 : decode cX3_findFault 20 = .ok (.getfield 34, 3) := by decide +kernel
theorem dX3_findFault_23 : decode cX3_findFault 23 = .ok (.ireturn, 1) := by decide +kernel
theorem dX3_findFault_24 : decode cX3_findFault 24 = .ok (.aload_n 0, 1) := by decide +kernel
theorem dX3_findFault_25 : decode cX3_findFault 25 = .ok (.getfield 34, 3) := by decide +kernel
theorem dX3_findFault_28 : decode cX3_findFault 28 = .ok (.aload_n 0, 1) := by decide +kernel
theorem dX3_findFault_29 : decode cX3_findFault 29 = .ok (.getfield 22, 3) := by decide +kernel
theorem dX3_findFault_32 : decode cX3_findFault 32 = .ok (.if_icmp .lt 6, 3) := by decide +kernel
theorem dX3_findFault_35 : decode cX3_findFault 35 = .ok (.bipush (-6), 2) := by decide +kernel
theorem dX3_findFault_37 : decode cX3_findFault 37 = .ok (.ireturn, 1) := by decide +kernel
theorem dX3_findFault_38 : decode cX3_findFault 38 = .ok (.aload_n 0, 1) := by decide +kernel
theorem dX3_findFault_39 : decode cX3_findFault 39 = .ok (.bipush 59, 2) := by decide +kernel
theorem dX3_findFault_41 : decode cX3_findFault 41 = .ok (.invokevirtual 47, 3) := by decide +kernel
theorem dX3_findFault_44 : decode cX3_findFault 44 = .ok (.ifCond .ne 8, 3) := by decide +kernel
theorem dX3_findFault_47 : decode cX3_findFault 47 = .ok (.aload_n 0, 1) := by decide +kernel
theorem dX3_findFault_48 : decode cX3_findFault 48 = .ok (.getfield 34, 3) := by decide +kernel
theorem dX3_findFault_51 : decode cX3_findFault 51 = .ok (.ireturn, 1) := by decide +kernel
theorem dX3_findFault_52 : decode cX3_findFault 52 = .ok (.iinc 1 1, 3) := by decide +kernel
theorem dX3_findFault_55 : decode cX3_findFault 55 = .ok (.goto (-49), 3) := by decide +kernel
theorem dX3_findFault_58 : decode cX3_findFault 58 = .ok (.aload_n 0, 1) := by decide +kernel
theorem dX3_findFault_59 : decode cX3_findFault 59 = .ok (.getfield 34, 3) := by decide +kernel
theorem dX3_findFault_62 : decode cX3_findFault 62 = .ok (.ireturn, 1) := by decide +kernel
theorem dX3_readOrder_0 : decode cX3_readOrder 0 = .ok (.aload_n 0, 1) := by decide +kernel
theorem dX3_readOrder_1 : decode cX3_readOrder 1 = .ok (.iconst 0, 1) := by decide +kernel
theorem dX3_readOrder_2 : decode cX3_readOrder 2 = .ok (.putfield 37, 3) := by decide +kernel
theorem dX3_readOrder_5 : decode cX3_readOrder 5 = .ok (.aload_n 0, 1) := by decide +kernel
theorem dX3_readOrder_6 : decode cX3_readOrder 6 = .ok (.iconst 0, 1) := by decide +kernel
theorem dX3_readOrder_7 : decode cX3_readOrder 7 = .ok (.putfield 51, 3) := by decide +kernel
theorem dX3_readOrder_10 : decode cX3_readOrder 10 = .ok (.aload_n 0, 1) := by decide +kernel
theorem dX3_readOrder_11 : decode cX3_readOrder 11 = .ok (.bipush (-6), 2) := by decide +kernel
theorem dX3_readOrder_13 : decode cX3_readOrder 13 = .ok (.putfield 54, 3) := by decide +kernel
theorem dX3_readOrder_16 : decode cX3_readOrder 16 = .ok (.aload_n 0, 1) := by decide +kernel
theorem dX3_readOrder_17 : decode cX3_readOrder 17 = .ok (.aload_n 0, 1) := by decide +kernel
theorem dX3_readOrder_18 : decode cX3_readOrder 18 = .ok (.invokevirtual 57, 3) := by decide +kernel
theorem dX3_readOrder_21 : decode cX3_readOrder 21 = .ok (.putfield 61, 3) := by decide +kernel
theorem dX3_readOrder_24 : decode cX3_readOrder 24 = .ok (.ldc 64, 2) := by decide +kernel
theorem dX3_readOrder_26 : decode cX3_readOrder 26 = .ok (.aload_n 0, 1) := by decide +kernel
theorem dX3_readOrder_27 : decode cX3_readOrder 27 = .ok (.getfield 61, 3) := by decide +kernel
theorem dX3_readOrder_30 : decode cX3_readOrder 30 = .ok (.i2c, 1) := by decide +kernel
theorem dX3_readOrder_31 : decode cX3_readOrder 31 = .ok (.invokevirtual 66, 3) := by decide +kernel
theorem dX3_readOrder_34 : decode cX3_readOrder 34 = .ok (.ifCond .ge 5, 3) := by decide +kernel
theorem dX3_readOrder_37 : decode cX3_readOrder 37 = .ok (.iconst 0, 1) := by decide +kernel
theorem dX3_readOrder_38 : decode cX3_readOrder 38 = .ok (.ireturn, 1) := by decide +kernel
theorem dX3_readOrder_39 : decode cX3_readOrder 39 = .ok (.aload_n 0, 1) := by decide +kernel
theorem dX3_readOrder_40 : decode cX3_readOrder 40 = .ok (.dup, 1) := by decide +kernel
theorem dX3_readOrder_41 : decode cX3_readOrder 41 = .ok (.getfield 34, 3) := by decide +kernel
theorem dX3_readOrder_44 : decode cX3_readOrder 44 = .ok (.iconst 1, 1) := by decide +kernel
theorem dX3_readOrder_45 : decode cX3_readOrder 45 = .ok (.iadd, 1) := by decide +kernel
theorem dX3_readOrder_46 : decode cX3_readOrder 46 = .ok (.putfield 34, 3) := by decide +kernel
theorem dX3_readOrder_49 : decode cX3_readOrder 49 = .ok (.aload_n 0, 1) := by decide +kernel
theorem dX3_readOrder_50 : decode cX3_readOrder 50 = .ok (.aload_n 0, 1) := by decide +kernel
theorem dX3_readOrder_51 : decode cX3_readOrder 51 = .ok (.getfield 61, 3) := by decide +kernel
theorem dX3_readOrder_54 : decode cX3_readOrder 54 = .ok (.invokestatic 72, 3) := by decide +kernel
theorem dX3_readOrder_57 : decode cX3_readOrder 57 = .ok (.invokevirtual 76, 3) := by decide +kernel
theorem dX3_readOrder_60 : decode cX3_readOrder 60 = .ok (.ifCond .eq 23, 3) := by decide +kernel
theorem dX3_readOrder_63 : decode cX3_readOrder 63 = .ok (.aload_n 0, 1) := by decide +kernel
theorem dX3_readOrder_64 : decode cX3_readOrder 64 = .ok (.getfield 61, 3) := by decide +kernel
theorem dX3_readOrder_67 : decode cX3_readOrder 67 = .ok (.bipush 103, 2) := by decide +kernel
theorem dX3_readOrder_69 : decode cX3_readOrder 69 = .ok (.if_icmp .ne 10, 3) := by decide +kernel
theorem dX3_readOrder_72 : decode cX3_readOrder 72 = .ok (.aload_n 0, 1) := by decide +kernel
theorem dX3_readOrder_73 : decode cX3_readOrder 73 = .ok (.invokevirtual 80, 3) := by decide +kernel
theorem dX3_readOrder_76 : decode cX3_readOrder 76 = .ok (.ifCond .eq 7, 3) := by decide +kernel
theorem dX3_readOrder_79 : decode cX3_readOrder 79 = .ok (.iconst 1, 1) := by decide +kernel
theorem dX3_readOrder_80 : decode cX3_readOrder 80 = .ok (.goto 4, 3) := by decide +kernel
theorem dX3_readOrder_83 : decode cX3_readOrder 83 = .ok (.iconst 0, 1) := by decide +kernel
theorem dX3_readOrder_84 : decode cX3_readOrder 84 = .ok (.ireturn, 1) := by decide +kernel
theorem dX3_skip_0 : decode cX3_skip 0 = .ok (.aload_n 0, 1) := by decide +kernel
theorem dX3_skip_1 : decode cX3_skip 1 = .ok (.invokevirtual 57, 3) := by decide +kernel
theorem dX3_skip_4 : decode cX3_skip 4 = .ok (.iload_n 1, 1) := by decide +kernel
theorem dX3_skip_5 : decode cX3_skip 5 = .ok (.if_icmp .eq 5, 3) := by decide +kernel
theorem dX3_skip_8 : decode cX3_skip 8 = .ok (.iconst 0, 1) := by decide +kernel
theorem dX3_skip_9 : decode cX3_skip 9 = .ok (.ireturn, 1) := by decide +kernel
theorem dX3_skip_10 : decode cX3_skip 10 = .ok (.aload_n 0, 1) := by decide +kernel
theorem dX3_skip_11 : decode cX3_skip 11 = .ok (.dup, 1) := by decide +kernel
theorem dX3_skip_12 : decode cX3_skip 12 = .ok (.getfield 34, 3) := by decide +kernel
theorem dX3_skip_15 : decode cX3_skip 15 = .ok (.iconst 1, 1) := by decide +kernel
theorem dX3_skip_16 : decode cX3_skip 16 = .ok (.iadd, 1) := by decide +kernel
theorem dX3_skip_17 : decode cX3_skip 17 = .ok (.putfield 34, 3) := by decide +kernel
theorem dX3_skip_20 : decode cX3_skip 20 = .ok (.iconst 1, 1) := by decide +kernel
theorem dX3_skip_21 : decode cX3_skip 21 = .ok (.ireturn, 1) := by decide +kernel
theorem dX3_signHere_0 : decode cX3_signHere 0 = .ok (.aload_n 0, 1) := by decide +kernel
theorem dX3_signHere_1 : decode cX3_signHere 1 = .ok (.getfield 34, 3) := by decide +kernel
theorem dX3_signHere_4 : decode cX3_signHere 4 = .ok (.ifCond .lt 26, 3) := by decide +kernel
theorem dX3_signHere_7 : decode cX3_signHere 7 = .ok (.aload_n 0, 1) := by decide +kernel
theorem dX3_signHere_8 : decode cX3_signHere 8 = .ok (.getfield 34, 3) := by decide +kernel
theorem dX3_signHere_11 : decode cX3_signHere 11 = .ok (.aload_n 0, 1) := by decide +kernel
theorem dX3_signHere_12 : decode cX3_signHere 12 = .ok (.getfield 22, 3) := by decide +kernel
theorem dX3_signHere_15 : decode cX3_signHere 15 = .ok (.if_icmp .ge 15, 3) := by decide +kernel
theorem dX3_signHere_18 : decode cX3_signHere 18 = .ok (.aload_n 0, 1) := by decide +kernel
theorem dX3_signHere_19 : decode cX3_signHere 19 = .ok (.getfield 9, 3) := by decide +kernel
theorem dX3_signHere_22 : decode cX3_signHere 22 = .ok (.aload_n 0, 1) := by decide +kernel
theorem dX3_signHere_23 : decode cX3_signHere 23 = .ok (.getfield 34, 3) := by decide +kernel
theorem dX3_signHere_26 : decode cX3_signHere 26 = .ok (.iaload, 1) := by decide +kernel
theorem dX3_signHere_27 : decode cX3_signHere 27 = .ok (.goto 4, 3) := by decide +kernel
theorem dX3_signHere_30 : decode cX3_signHere 30 = .ok (.iconst 0, 1) := by decide +kernel
theorem dX3_signHere_31 : decode cX3_signHere 31 = .ok (.ireturn, 1) := by decide +kernel
theorem dX3_formOf_0 : decode cX3_formOf 0 = .ok (.iload_n 0, 1) := by decide +kernel
theorem dX3_formOf_1 : decode cX3_formOf 1 = .ok (.tableswitch 67 97 106 #[55, 67, 67, 58, 67, 67, 61, 67, 67, 64], 55) := by decide +kernel
theorem dX3_formOf_56 : decode cX3_formOf 56 = .ok (.ldc 83, 2) := by decide +kernel
theorem dX3_formOf_58 : decode cX3_formOf 58 = .ok (.areturn, 1) := by decide +kernel
theorem dX3_formOf_59 : decode cX3_formOf 59 = .ok (.ldc 85, 2) := by decide +kernel
theorem dX3_formOf_61 : decode cX3_formOf 61 = .ok (.areturn, 1) := by decide +kernel
theorem dX3_formOf_62 : decode cX3_formOf 62 = .ok (.ldc 87, 2) := by decide +kernel
theorem dX3_formOf_64 : decode cX3_formOf 64 = .ok (.areturn, 1) := by decide +kernel
theorem dX3_formOf_65 : decode cX3_formOf 65 = .ok (.ldc 89, 2) := by decide +kernel
theorem dX3_formOf_67 : decode cX3_formOf 67 = .ok (.areturn, 1) := by decide +kernel
theorem dX3_formOf_68 : decode cX3_formOf 68 = .ok (.ldc 91, 2) := by decide +kernel
theorem dX3_formOf_70 : decode cX3_formOf 70 = .ok (.areturn, 1) := by decide +kernel
theorem dX3_readForm_0 : decode cX3_readForm 0 = .ok (.iconst 1, 1) := by decide +kernel
theorem dX3_readForm_1 : decode cX3_readForm 1 = .ok (.istore_n 2, 1) := by decide +kernel
theorem dX3_readForm_2 : decode cX3_readForm 2 = .ok (.iconst 0, 1) := by decide +kernel
theorem dX3_readForm_3 : decode cX3_readForm 3 = .ok (.istore_n 3, 1) := by decide +kernel
theorem dX3_readForm_4 : decode cX3_readForm 4 = .ok (.iload_n 3, 1) := by decide +kernel
theorem dX3_readForm_5 : decode cX3_readForm 5 = .ok (.aload_n 1, 1) := by decide +kernel
theorem dX3_readForm_6 : decode cX3_readForm 6 = .ok (.invokevirtual 93, 3) := by decide +kernel
theorem dX3_readForm_9 : decode cX3_readForm 9 = .ok (.if_icmp .ge 74, 3) := by decide +kernel
theorem dX3_readForm_12 : decode cX3_readForm 12 = .ok (.iload_n 2, 1) := by decide +kernel
theorem dX3_readForm_13 : decode cX3_readForm 13 = .ok (.ifCond .eq 70, 3) := by decide +kernel
theorem dX3_readForm_16 : decode cX3_readForm 16 = .ok (.aload_n 1, 1) := by decide +kernel
theorem dX3_readForm_17 : decode cX3_readForm 17 = .ok (.iload_n 3, 1) := by decide +kernel
theorem dX3_readForm_18 : decode cX3_readForm 18 = .ok (.invokevirtual 95, 3) := by decide +kernel
theorem dX3_readForm_21 : decode cX3_readForm 21 = .ok (.istore 4, 2) := by decide +kernel
theorem dX3_readForm_23 : decode cX3_readForm 23 = .ok (.iload 4, 2) := by decide +kernel
theorem dX3_readForm_25 : decode cX3_readForm 25 = .ok (.lookupswitch 45 #[(68, 36), (78, 27)], 27) := by decide +kernel
theorem dX3_readForm_52 : decode cX3_readForm 52 = .ok (.aload_n 0, 1) := by decide +kernel
theorem dX3_readForm_53 : decode cX3_readForm 53 = .ok (.iconst 3, 1) := by decide +kernel
theorem dX3_readForm_54 : decode cX3_readForm 54 = .ok (.invokevirtual 99, 3) := by decide +kernel
theorem dX3_readForm_57 : decode cX3_readForm 57 = .ok (.istore_n 2, 1) := by decide +kernel
theorem dX3_readForm_58 : decode cX3_readForm 58 = .ok (.goto 19, 3) := by decide +kernel
theorem dX3_readForm_61 : decode cX3_readForm 61 = .ok (.aload_n 0, 1) := by decide +kernel
theorem dX3_readForm_62 : decode cX3_readForm 62 = .ok (.iconst 1, 1) := by decide +kernel
theorem dX3_readForm_63 : decode cX3_readForm 63 = .ok (.invokevirtual 99, 3) := by decide +kernel
theorem dX3_readForm_66 : decode cX3_readForm 66 = .ok (.istore_n 2, 1) := by decide +kernel
theorem dX3_readForm_67 : decode cX3_readForm 67 = .ok (.goto 10, 3) := by decide +kernel
theorem dX3_readForm_70 : decode cX3_readForm 70 = .ok (.aload_n 0, 1) := by decide +kernel
theorem dX3_readForm_71 : decode cX3_readForm 71 = .ok (.iload 4, 2) := by decide +kernel
theorem dX3_readForm_73 : decode cX3_readForm 73 = .ok (.invokevirtual 47, 3) := by decide +kernel
theorem dX3_readForm_76 : decode cX3_readForm 76 = .ok (.istore_n 2, 1) := by decide +kernel
theorem dX3_readForm_77 : decode cX3_readForm 77 = .ok (.iinc 3 1, 3) := by decide +kernel
theorem dX3_readForm_80 : decode cX3_readForm 80 = .ok (.goto (-76), 3) := by decide +kernel
theorem dX3_readForm_83 : decode cX3_readForm 83 = .ok (.iload_n 2, 1) := by decide +kernel
theorem dX3_readForm_84 : decode cX3_readForm 84 = .ok (.ireturn, 1) := by decide +kernel
theorem dX3_readNumber_0 : decode cX3_readNumber 0 = .ok (.aload_n 0, 1) := by decide +kernel
theorem dX3_readNumber_1 : decode cX3_readNumber 1 = .ok (.invokevirtual 102, 3) := by decide +kernel
theorem dX3_readNumber_4 : decode cX3_readNumber 4 = .ok (.ifCond .ne 5, 3) := by decide +kernel
theorem dX3_readNumber_7 : decode cX3_readNumber 7 = .ok (.iconst 0, 1) := by decide +kernel
theorem dX3_readNumber_8 : decode cX3_readNumber 8 = .ok (.ireturn, 1) := by decide +kernel
theorem dX3_readNumber_9 : decode cX3_readNumber 9 = .ok (.aload_n 0, 1) := by decide +kernel
theorem dX3_readNumber_10 : decode cX3_readNumber 10 = .ok (.invokevirtual 105, 3) := by decide +kernel
theorem dX3_readNumber_13 : decode cX3_readNumber 13 = .ok (.istore_n 2, 1) := by decide +kernel
theorem dX3_readNumber_14 : decode cX3_readNumber 14 = .ok (.iconst 1, 1) := by decide +kernel
theorem dX3_readNumber_15 : decode cX3_readNumber 15 = .ok (.istore_n 3, 1) := by decide +kernel
theorem dX3_readNumber_16 : decode cX3_readNumber 16 = .ok (.iload_n 3, 1) := by decide +kernel
theorem dX3_readNumber_17 : decode cX3_readNumber 17 = .ok (.iload_n 1, 1) := by decide +kernel
theorem dX3_readNumber_18 : decode cX3_readNumber 18 = .ok (.if_icmp .ge 30, 3) := by decide +kernel
theorem dX3_readNumber_21 : decode cX3_readNumber 21 = .ok (.iload_n 2, 1) := by decide +kernel
theorem dX3_readNumber_22 : decode cX3_readNumber 22 = .ok (.ifCond .le 26, 3) := by decide +kernel
theorem dX3_readNumber_25 : decode cX3_readNumber 25 = .ok (.aload_n 0, 1) := by decide +kernel
theorem dX3_readNumber_26 : decode cX3_readNumber 26 = .ok (.invokevirtual 102, 3) := by decide +kernel
theorem dX3_readNumber_29 : decode cX3_readNumber 29 = .ok (.ifCond .eq 19, 3) := by decide +kernel
theorem dX3_readNumber_32 : decode cX3_readNumber 32 = .ok (.bipush 10, 2) := by decide +kernel
theorem dX3_readNumber_34 : decode cX3_readNumber 34 = .ok (.iload_n 2, 1) := by decide +kernel
theorem dX3_readNumber_35 : decode cX3_readNumber 35 = .ok (.imul, 1) := by decide +kernel
theorem dX3_readNumber_36 : decode cX3_readNumber 36 = .ok (.aload_n 0, 1) := by decide +kernel
theorem dX3_readNumber_37 : decode cX3_readNumber 37 = .ok (.invokevirtual 105, 3) := by decide +kernel
theorem dX3_readNumber_40 : decode cX3_readNumber 40 = .ok (.iadd, 1) := by decide +kernel
theorem dX3_readNumber_41 : decode cX3_readNumber 41 = .ok (.istore_n 2, 1) := by decide +kernel
theorem dX3_readNumber_42 : decode cX3_readNumber 42 = .ok (.iinc 3 1, 3) := by decide +kernel
theorem dX3_readNumber_45 : decode cX3_readNumber 45 = .ok (.goto (-29), 3) := by decide +kernel
theorem dX3_readNumber_48 : decode cX3_readNumber 48 = .ok (.aload_n 0, 1) := by decide +kernel
theorem dX3_readNumber_49 : decode cX3_readNumber 49 = .ok (.getfield 37, 3) := by decide +kernel
theorem dX3_readNumber_52 : decode cX3_readNumber 52 = .ok (.iconst 5, 1) := by decide +kernel
theorem dX3_readNumber_53 : decode cX3_readNumber 53 = .ok (.if_icmp .ge 23, 3) := by decide +kernel
theorem dX3_readNumber_56 : decode cX3_readNumber 56 = .ok (.aload_n 0, 1) := by decide +kernel
theorem dX3_readNumber_57 : decode cX3_readNumber 57 = .ok (.getfield 15, 3) := by decide +kernel
theorem dX3_readNumber_60 : decode cX3_readNumber 60 = .ok (.aload_n 0, 1) := by decide +kernel
theorem dX3_readNumber_61 : decode cX3_readNumber 61 = .ok (.getfield 37, 3) := by decide +kernel
theorem dX3_readNumber_64 : decode cX3_readNumber 64 = .ok (.iload_n 2, 1) := by decide +kernel
theorem dX3_readNumber_65 : decode cX3_readNumber 65 = .ok (.iastore, 1) := by decide +kernel
theorem dX3_readNumber_66 : decode cX3_readNumber 66 = .ok (.aload_n 0, 1) := by decide +kernel
theorem dX3_readNumber_67 : decode cX3_readNumber 67 = .ok (.dup, 1) := by decide +kernel
theorem dX3_readNumber_68 : decode cX3_readNumber 68 = .ok (.getfield 37, 3) := by decide +kernel
theorem dX3_readNumber_71 : decode cX3_readNumber 71 = .ok (.iconst 1, 1) := by decide +kernel
theorem dX3_readNumber_72 : decode cX3_readNumber 72 = .ok (.iadd, 1) := by decide +kernel
theorem dX3_readNumber_73 : decode cX3_readNumber 73 = .ok (.putfield 37, 3) := by decide +kernel
theorem dX3_readNumber_76 : decode cX3_readNumber 76 = .ok (.iconst 1, 1) := by decide +kernel
theorem dX3_readNumber_77 : decode cX3_readNumber 77 = .ok (.ireturn, 1) := by decide +kernel
theorem dX3_readCrew_0 : decode cX3_readCrew 0 = .ok (.aload_n 0, 1) := by decide +kernel
theorem dX3_readCrew_1 : decode cX3_readCrew 1 = .ok (.invokevirtual 102, 3) := by decide +kernel
theorem dX3_readCrew_4 : decode cX3_readCrew 4 = .ok (.ifCond .ne 5, 3) := by decide +kernel
theorem dX3_readCrew_7 : decode cX3_readCrew 7 = .ok (.iconst 0, 1) := by decide +kernel
theorem dX3_readCrew_8 : decode cX3_readCrew 8 = .ok (.ireturn, 1) := by decide +kernel
theorem dX3_readCrew_9 : decode cX3_readCrew 9 = .ok (.iconst 0, 1) := by decide +kernel
theorem dX3_readCrew_10 : decode cX3_readCrew 10 = .ok (.istore_n 1, 1) := by decide +kernel
theorem dX3_readCrew_11 : decode cX3_readCrew 11 = .ok (.iload_n 1, 1) := by decide +kernel
theorem dX3_readCrew_12 : decode cX3_readCrew 12 = .ok (.bipush 80, 2) := by decide +kernel
theorem dX3_readCrew_14 : decode cX3_readCrew 14 = .ok (.if_icmp .ge 31, 3) := by decide +kernel
theorem dX3_readCrew_17 : decode cX3_readCrew 17 = .ok (.aload_n 0, 1) := by decide +kernel
theorem dX3_readCrew_18 : decode cX3_readCrew 18 = .ok (.invokevirtual 102, 3) := by decide +kernel
theorem dX3_readCrew_21 : decode cX3_readCrew 21 = .ok (.ifCond .eq 24, 3) := by decide +kernel
theorem dX3_readCrew_24 : decode cX3_readCrew 24 = .ok (.aload_n 0, 1) := by decide +kernel
theorem dX3_readCrew_25 : decode cX3_readCrew 25 = .ok (.dup, 1) := by decide +kernel
theorem dX3_readCrew_26 : decode cX3_readCrew 26 = .ok (.getfield 51, 3) := by decide +kernel
theorem dX3_readCrew_29 : decode cX3_readCrew 29 = .ok (.iconst 1, 1) := by decide +kernel
theorem dX3_readCrew_30 : decode cX3_readCrew 30 = .ok (.aload_n 0, 1) := by decide +kernel
theorem dX3_readCrew_31 : decode cX3_readCrew 31 = .ok (.invokevirtual 105, 3) := by decide +kernel
theorem dX3_readCrew_34 : decode cX3_readCrew 34 = .ok (.ishl, 1) := by decide +kernel
theorem dX3_readCrew_35 : decode cX3_readCrew 35 = .ok (.ior, 1) := by decide +kernel
theorem dX3_readCrew_36 : decode cX3_readCrew 36 = .ok (.putfield 51, 3) := by decide +kernel
theorem dX3_readCrew_39 : decode cX3_readCrew 39 = .ok (.iinc 1 1, 3) := by decide +kernel
theorem dX3_readCrew_42 : decode cX3_readCrew 42 = .ok (.goto (-31), 3) := by decide +kernel
theorem dX3_readCrew_45 : decode cX3_readCrew 45 = .ok (.aload_n 0, 1) := by decide +kernel
theorem dX3_readCrew_46 : decode cX3_readCrew 46 = .ok (.bipush 43, 2) := by decide +kernel
theorem dX3_readCrew_48 : decode cX3_readCrew 48 = .ok (.invokevirtual 47, 3) := by decide +kernel
theorem dX3_readCrew_51 : decode cX3_readCrew 51 = .ok (.ifCond .ne 5, 3) := by decide +kernel
theorem dX3_readCrew_54 : decode cX3_readCrew 54 = .ok (.iconst 1, 1) := by decide +kernel
theorem dX3_readCrew_55 : decode cX3_readCrew 55 = .ok (.ireturn, 1) := by decide +kernel
theorem dX3_readCrew_56 : decode cX3_readCrew 56 = .ok (.aload_n 0, 1) := by decide +kernel
theorem dX3_readCrew_57 : decode cX3_readCrew 57 = .ok (.invokevirtual 102, 3) := by decide +kernel
theorem dX3_readCrew_60 : decode cX3_readCrew 60 = .ok (.ifCond .ne 5, 3) := by decide +kernel
theorem dX3_readCrew_63 : decode cX3_readCrew 63 = .ok (.iconst 0, 1) := by decide +kernel
theorem dX3_readCrew_64 : decode cX3_readCrew 64 = .ok (.ireturn, 1) := by decide +kernel
theorem dX3_readCrew_65 : decode cX3_readCrew 65 = .ok (.aload_n 0, 1) := by decide +kernel
theorem dX3_readCrew_66 : decode cX3_readCrew 66 = .ok (.aload_n 0, 1) := by decide +kernel
theorem dX3_readCrew_67 : decode cX3_readCrew 67 = .ok (.invokevirtual 105, 3) := by decide +kernel
theorem dX3_readCrew_70 : decode cX3_readCrew 70 = .ok (.putfield 54, 3) := by decide +kernel
theorem dX3_readCrew_73 : decode cX3_readCrew 73 = .ok (.iconst 1, 1) := by decide +kernel
theorem dX3_readCrew_74 : decode cX3_readCrew 74 = .ok (.ireturn, 1) := by decide +kernel
theorem dX3_isDigitHere_0 : decode cX3_isDigitHere 0 = .ok (.aload_n 0, 1) := by decide +kernel
theorem dX3_isDigitHere_1 : decode cX3_isDigitHere 1 = .ok (.invokevirtual 57, 3) := by decide +kernel
theorem dX3_isDigitHere_4 : decode cX3_isDigitHere 4 = .ok (.bipush 48, 2) := by decide +kernel
theorem dX3_isDigitHere_6 : decode cX3_isDigitHere 6 = .ok (.bipush 57, 2) := by decide +kernel
theorem dX3_isDigitHere_8 : decode cX3_isDigitHere 8 = .ok (.invokestatic 30, 3) := by decide +kernel
theorem dX3_isDigitHere_11 : decode cX3_isDigitHere 11 = .ok (.ireturn, 1) := by decide +kernel
theorem dX3_takeDigit_0 : decode cX3_takeDigit 0 = .ok (.aload_n 0, 1) := by decide +kernel
theorem dX3_takeDigit_1 : decode cX3_takeDigit 1 = .ok (.invokevirtual 57, 3) := by decide +kernel
theorem dX3_takeDigit_4 : decode cX3_takeDigit 4 = .ok (.bipush 48, 2) := by decide +kernel
theorem dX3_takeDigit_6 : decode cX3_takeDigit 6 = .ok (.isub, 1) := by decide +kernel
theorem dX3_takeDigit_7 : decode cX3_takeDigit 7 = .ok (.istore_n 1, 1) := by decide +kernel
theorem dX3_takeDigit_8 : decode cX3_takeDigit 8 = .ok (.aload_n 0, 1) := by decide +kernel
theorem dX3_takeDigit_9 : decode cX3_takeDigit 9 = .ok (.dup, 1) := by decide +kernel
theorem dX3_takeDigit_10 : decode cX3_takeDigit 10 = .ok (.getfield 34, 3) := by decide +kernel
theorem dX3_takeDigit_13 : decode cX3_takeDigit 13 = .ok (.iconst 1, 1) := by decide +kernel
theorem dX3_takeDigit_14 : decode cX3_takeDigit 14 = .ok (.iadd, 1) := by decide +kernel
theorem dX3_takeDigit_15 : decode cX3_takeDigit 15 = .ok (.putfield 34, 3) := by decide +kernel
theorem dX3_takeDigit_18 : decode cX3_takeDigit 18 = .ok (.iload_n 1, 1) := by decide +kernel
theorem dX3_takeDigit_19 : decode cX3_takeDigit 19 = .ok (.ireturn, 1) := by decide +kernel
theorem dX4_init_0 : decode cX4_init 0 = .ok (.aload_n 0, 1) := by decide +kernel
theorem dX4_init_1 : decode cX4_init 1 = .ok (.invokespecial 3, 3) := by decide +kernel
theorem dX4_init_4 : decode cX4_init 4 = .ok (.return_, 1) := by decide +kernel
theorem dX4_come_0 : decode cX4_come 0 = .ok (.aload_n 0, 1) := by decide +kernel
theorem dX4_come_1 : decode cX4_come 1 = .ok (.iload_n 1, 1) := by decide +kernel
theorem dX4_come_2 : decode cX4_come 2 = .ok (.putfield 9, 3) := by decide +kernel
theorem dX4_come_5 : decode cX4_come 5 = .ok (.aload_n 0, 1) := by decide +kernel
theorem dX4_come_6 : decode cX4_come 6 = .ok (.iload_n 1, 1) := by decide +kernel
theorem dX4_come_7 : decode cX4_come 7 = .ok (.putfield 15, 3) := by decide +kernel
theorem dX4_come_10 : decode cX4_come 10 = .ok (.aload_n 0, 1) := by decide +kernel
theorem dX4_come_11 : decode cX4_come 11 = .ok (.bipush (-6), 2) := by decide +kernel
theorem dX4_come_13 : decode cX4_come 13 = .ok (.putfield 18, 3) := by decide +kernel
theorem dX4_come_16 : decode cX4_come 16 = .ok (.aload_n 0, 1) := by decide +kernel
theorem dX4_come_17 : decode cX4_come 17 = .ok (.iconst 0, 1) := by decide +kernel
theorem dX4_come_18 : decode cX4_come 18 = .ok (.putfield 21, 3) := by decide +kernel
theorem dX4_come_21 : decode cX4_come 21 = .ok (.aload_n 0, 1) := by decide +kernel
theorem dX4_come_22 : decode cX4_come 22 = .ok (.iconst 0, 1) := by decide +kernel
theorem dX4_come_23 : decode cX4_come 23 = .ok (.putfield 24, 3) := by decide +kernel
theorem dX4_come_26 : decode cX4_come 26 = .ok (.return_, 1) := by decide +kernel
theorem dX4_copyFrom_0 : decode cX4_copyFrom 0 = .ok (.aload_n 0, 1) := by decide +kernel
theorem dX4_copyFrom_1 : decode cX4_copyFrom 1 = .ok (.aload_n 1, 1) := by decide +kernel
theorem dX4_copyFrom_2 : decode cX4_copyFrom 2 = .ok (.getfield 9, 3) := by decide +kernel
theorem dX4_copyFrom_5 : decode cX4_copyFrom 5 = .ok (.putfield 9, 3) := by decide +kernel
theorem dX4_copyFrom_8 : decode cX4_copyFrom 8 = .ok (.aload_n 0, 1) := by decide +kernel
theorem dX4_copyFrom_9 : decode cX4_copyFrom 9 = .ok (.aload_n 1, 1) := by decide +kernel
theorem dX4_copyFrom_10 : decode cX4_copyFrom 10 = .ok (.getfield 15, 3) := by decide +kernel
theorem dX4_copyFrom_13 : decode cX4_copyFrom 13 = .ok (.putfield 15, 3) := by decide +kernel
theorem dX4_copyFrom_16 : decode cX4_copyFrom 16 = .ok (.aload_n 0, 1) := by decide +kernel
theorem dX4_copyFrom_17 : decode cX4_copyFrom 17 = .ok (.aload_n 1, 1) := by decide +kernel
theorem dX4_copyFrom_18 : decode cX4_copyFrom 18 = .ok (.getfield 18, 3) := by decide +kernel
theorem dX4_copyFrom_21 : decode cX4_copyFrom 21 = .ok (.putfield 18, 3) := by decide +kernel
theorem dX4_copyFrom_24 : decode cX4_copyFrom 24 = .ok (.aload_n 0, 1) := by decide +kernel
theorem dX4_copyFrom_25 : decode cX4_copyFrom 25 = .ok (.aload_n 1, 1) := by decide +kernel
theorem dX4_copyFrom_26 : decode cX4_copyFrom 26 = .ok (.getfield 21, 3) := by decide +kernel
theorem dX4_copyFrom_29 : decode cX4_copyFrom 29 = .ok (.putfield 21, 3) := by decide +kernel
theorem dX4_copyFrom_32 : decode cX4_copyFrom 32 = .ok (.aload_n 0, 1) := by decide +kernel
theorem dX4_copyFrom_33 : decode cX4_copyFrom 33 = .ok (.aload_n 1, 1) := by decide +kernel
theorem dX4_copyFrom_34 : decode cX4_copyFrom 34 = .ok (.getfield 24, 3) := by decide +kernel
theorem dX4_copyFrom_37 : decode cX4_copyFrom 37 = .ok (.putfield 24, 3) := by decide +kernel
theorem dX4_copyFrom_40 : decode cX4_copyFrom 40 = .ok (.return_, 1) := by decide +kernel
theorem dX4_rest_0 : decode cX4_rest 0 = .ok (.aload_n 0, 1) := by decide +kernel
theorem dX4_rest_1 : decode cX4_rest 1 = .ok (.aload_n 0, 1) := by decide +kernel
theorem dX4_rest_2 : decode cX4_rest 2 = .ok (.getfield 9, 3) := by decide +kernel
theorem dX4_rest_5 : decode cX4_rest 5 = .ok (.aload_n 0, 1) := by decide +kernel
theorem dX4_rest_6 : decode cX4_rest 6 = .ok (.getfield 15, 3) := by decide +kernel
theorem dX4_rest_9 : decode cX4_rest 9 = .ok (.iload_n 1, 1) := by decide +kernel
theorem dX4_rest_10 : decode cX4_rest 10 = .ok (.iadd, 1) := by decide +kernel
theorem dX4_rest_11 : decode cX4_rest 11 = .ok (.invokestatic 27, 3) := by decide +kernel
theorem dX4_rest_14 : decode cX4_rest 14 = .ok (.putfield 15, 3) := by decide +kernel
theorem dX4_rest_17 : decode cX4_rest 17 = .ok (.return_, 1) := by decide +kernel
theorem dX4_carry_0 : decode cX4_carry 0 = .ok (.aload_n 0, 1) := by decide +kernel
theorem dX4_carry_1 : decode cX4_carry 1 = .ok (.iconst 0, 1) := by decide +kernel
theorem dX4_carry_2 : decode cX4_carry 2 = .ok (.aload_n 0, 1) := by decide +kernel
theorem dX4_carry_3 : decode cX4_carry 3 = .ok (.getfield 15, 3) := by decide +kernel
theorem dX4_carry_6 : decode cX4_carry 6 = .ok (.iload_n 1, 1) := by decide +kernel
theorem dX4_carry_7 : decode cX4_carry 7 = .ok (.isub, 1) := by decide +kernel
theorem dX4_carry_8 : decode cX4_carry 8 = .ok (.invokestatic 33, 3) := by decide +kernel
theorem dX4_carry_11 : decode cX4_carry 11 = .ok (.putfield 15, 3) := by decide +kernel
theorem dX4_carry_14 : decode cX4_carry 14 = .ok (.aload_n 0, 1) := by decide +kernel
theorem dX4_carry_15 : decode cX4_carry 15 = .ok (.dup, 1) := by decide +kernel
theorem dX4_carry_16 : decode cX4_carry 16 = .ok (.getfield 21, 3) := by decide +kernel
theorem dX4_carry_19 : decode cX4_carry 19 = .ok (.iconst 1, 1) := by decide +kernel
theorem dX4_carry_20 : decode cX4_carry 20 = .ok (.iadd, 1) := by decide +kernel
theorem dX4_carry_21 : decode cX4_carry 21 = .ok (.putfield 21, 3) := by decide +kernel
theorem dX4_carry_24 : decode cX4_carry 24 = .ok (.return_, 1) := by decide +kernel
theorem dX4_tell_0 : decode cX4_tell 0 = .ok (.iload_n 1, 1) := by decide +kernel
theorem dX4_tell_1 : decode cX4_tell 1 = .ok (.tableswitch 70 0 5 #[39, 44, 49, 54, 59, 64], 39) := by decide +kernel
theorem dX4_tell_40 : decode cX4_tell 40 = .ok (.aload_n 0, 1) := by decide +kernel
theorem dX4_tell_41 : decode cX4_tell 41 = .ok (.getfield 9, 3) := by decide +kernel
theorem dX4_tell_44 : decode cX4_tell 44 = .ok (.ireturn, 1) := by decide +kernel
theorem dX4_tell_45 : decode cX4_tell 45 = .ok (.aload_n 0, 1) := by decide +kernel
theorem dX4_tell_46 : decode cX4_tell 46 = .ok (.getfield 15, 3) := by decide +kernel
theorem dX4_tell_49 : decode cX4_tell 49 = .ok (.ireturn, 1) := by decide +kernel
theorem dX4_tell_50 : decode cX4_tell 50 = .ok (.aload_n 0, 1) := by decide +kernel
theorem dX4_tell_51 : decode cX4_tell 51 = .ok (.getfield 18, 3) := by decide +kernel
theorem dX4_tell_54 : decode cX4_tell 54 = .ok (.ireturn, 1) := by decide +kernel
theorem dX4_tell_55 : decode cX4_tell 55 = .ok (.aload_n 0, 1) := by decide +kernel
theorem dX4_tell_56 : decode cX4_tell 56 = .ok (.getfield 21, 3) := by decide +kernel
theorem dX4_tell_59 : decode cX4_tell 59 = .ok (.ireturn, 1) := by decide +kernel
theorem dX4_tell_60 : decode cX4_tell 60 = .ok (.aload_n 0, 1) := by decide +kernel
theorem dX4_tell_61 : decode cX4_tell 61 = .ok (.getfield 24, 3) := by decide +kernel
theorem dX4_tell_64 : decode cX4_tell 64 = .ok (.ireturn, 1) := by decide +kernel
theorem dX4_tell_65 : decode cX4_tell 65 = .ok (.aload_n 0, 1) := by decide +kernel
theorem dX4_tell_66 : decode cX4_tell 66 = .ok (.iload_n 2, 1) := by decide +kernel
theorem dX4_tell_67 : decode cX4_tell 67 = .ok (.invokevirtual 36, 3) := by decide +kernel
theorem dX4_tell_70 : decode cX4_tell 70 = .ok (.ireturn, 1) := by decide +kernel
theorem dX4_tell_71 : decode cX4_tell 71 = .ok (.bipush (-2), 2) := by decide +kernel
theorem dX4_tell_73 : decode cX4_tell 73 = .ok (.ireturn, 1) := by decide +kernel
theorem dX4_hoursOfRest_0 : decode cX4_hoursOfRest 0 = .ok (.iconst 1, 1) := by decide +kernel
theorem dX4_hoursOfRest_1 : decode cX4_hoursOfRest 1 = .ok (.iload_n 1, 1) := by decide +kernel
theorem dX4_hoursOfRest_2 : decode cX4_hoursOfRest 2 = .ok (.invokestatic 33, 3) := by decide +kernel
theorem dX4_hoursOfRest_5 : decode cX4_hoursOfRest 5 = .ok (.istore_n 2, 1) := by decide +kernel
theorem dX4_hoursOfRest_6 : decode cX4_hoursOfRest 6 = .ok (.aload_n 0, 1) := by decide +kernel
theorem dX4_hoursOfRest_7 : decode cX4_hoursOfRest 7 = .ok (.getfield 9, 3) := by decide +kernel
theorem dX4_hoursOfRest_10 : decode cX4_hoursOfRest 10 = .ok (.aload_n 0, 1) := by decide +kernel
theorem dX4_hoursOfRest_11 : decode cX4_hoursOfRest 11 = .ok (.getfield 15, 3) := by decide +kernel
theorem dX4_hoursOfRest_14 : decode cX4_hoursOfRest 14 = .ok (.isub, 1) := by decide +kernel
theorem dX4_hoursOfRest_15 : decode cX4_hoursOfRest 15 = .ok (.iload_n 2, 1) := by decide +kernel
theorem dX4_hoursOfRest_16 : decode cX4_hoursOfRest 16 = .ok (.iadd, 1) := by decide +kernel
theorem dX4_hoursOfRest_17 : decode cX4_hoursOfRest 17 = .ok (.iconst 1, 1) := by decide +kernel
theorem dX4_hoursOfRest_18 : decode cX4_hoursOfRest 18 = .ok (.isub, 1) := by decide +kernel
theorem dX4_hoursOfRest_19 : decode cX4_hoursOfRest 19 = .ok (.iload_n 2, 1) := by decide +kernel
theorem dX4_hoursOfRest_20 : decode cX4_hoursOfRest 20 = .ok (.idiv, 1) := by decide +kernel
theorem dX4_hoursOfRest_21 : decode cX4_hoursOfRest 21 = .ok (.ireturn, 1) := by decide +kernel
theorem dX5_init_0 : decode cX5_init 0 = .ok (.aload_n 0, 1) := by decide +kernel
theorem dX5_init_1 : decode cX5_init 1 = .ok (.invokespecial 1, 3) := by decide +kernel
theorem dX5_init_4 : decode cX5_init 4 = .ok (.aload_n 0, 1) := by decide +kernel
theorem dX5_init_5 : decode cX5_init 5 = .ok (.new 7, 3) := by decide +kernel
theorem dX5_init_8 : decode cX5_init 8 = .ok (.dup, 1) := by decide +kernel
theorem dX5_init_9 : decode cX5_init 9 = .ok (.invokespecial 9, 3) := by decide +kernel
theorem dX5_init_12 : decode cX5_init 12 = .ok (.putfield 10, 3) := by decide +kernel
theorem dX5_init_15 : decode cX5_init 15 = .ok (.aload_n 0, 1) := by decide +kernel
theorem dX5_init_16 : decode cX5_init 16 = .ok (.new 7, 3) := by decide +kernel
theorem dX5_init_19 : decode cX5_init 19 = .ok (.dup, 1) := by decide +kernel
theorem dX5_init_20 : decode cX5_init 20 = .ok (.invokespecial 9, 3) := by decide +kernel
theorem dX5_init_23 : decode cX5_init 23 = .ok (.putfield 16, 3) := by decide +kernel
theorem dX5_init_26 : decode cX5_init 26 = .ok (.aload_n 0, 1) := by decide +kernel
theorem dX5_init_27 : decode cX5_init 27 = .ok (.iconst 2, 1) := by decide +kernel
theorem dX5_init_28 : decode cX5_init 28 = .ok (.anewarray 7, 3) := by decide +kernel
theorem dX5_init_31 : decode cX5_init 31 = .ok (.putfield 19, 3) := by decide +kernel
theorem dX5_init_34 : decode cX5_init 34 = .ok (.aload_n 0, 1) := by decide +kernel
theorem dX5_init_35 : decode cX5_init 35 = .ok (.iconst 2, 1) := by decide +kernel
theorem dX5_init_36 : decode cX5_init 36 = .ok (.newarray .boolean, 2) := by decide +kernel
theorem dX5_init_38 : decode cX5_init 38 = .ok (.putfield 23, 3) := by decide +kernel
theorem dX5_init_41 : decode cX5_init 41 = .ok (.aload_n 0, 1) := by decide +kernel
theorem dX5_init_42 : decode cX5_init 42 = .ok (.new 27, 3) := by decide +kernel
theorem dX5_init_45 : decode cX5_init 45 = .ok (.dup, 1) := by decide +kernel
theorem dX5_init_46 : decode cX5_init 46 = .ok (.invokespecial 29, 3) := by decide +kernel
theorem dX5_init_49 : decode cX5_init 49 = .ok (.putfield 30, 3) := by decide +kernel
theorem dX5_init_52 : decode cX5_init 52 = .ok (.aload_n 0, 1) := by decide +kernel
theorem dX5_init_53 : decode cX5_init 53 = .ok (.new 34, 3) := by decide +kernel
theorem dX5_init_56 : decode cX5_init 56 = .ok (.dup, 1) := by decide +kernel
theorem dX5_init_57 : decode cX5_init 57 = .ok (.invokespecial 36, 3) := by decide +kernel
theorem dX5_init_60 : decode cX5_init 60 = .ok (.putfield 37, 3) := by decide +kernel
theorem dX5_init_63 : decode cX5_init 63 = .ok (.iconst 0, 1) := by decide +kernel
theorem dX5_init_64 : decode cX5_init 64 = .ok (.istore_n 1, 1) := by decide +kernel
theorem dX5_init_65 : decode cX5_init 65 = .ok (.iload_n 1, 1) := by decide +kernel
theorem dX5_init_66 : decode cX5_init 66 = .ok (.iconst 2, 1) := by decide +kernel
theorem dX5_init_67 : decode cX5_init 67 = .ok (.if_icmp .ge 22, 3) := by decide +kernel
theorem dX5_init_70 : decode cX5_init 70 = .ok (.aload_n 0, 1) := by decide +kernel
theorem dX5_init_71 : decode cX5_init 71 = .ok (.getfield 19, 3) := by decide +kernel
theorem dX5_init_74 : decode cX5_init 74 = .ok (.iload_n 1, 1) := by decide +kernel
theorem dX5_init_75 : decode cX5_init 75 = .ok (.new 7, 3) := by decide +kernel
theorem dX5_init_78 : decode cX5_init 78 = .ok (.dup, 1) := by decide +kernel
theorem dX5_init_79 : decode cX5_init 79 = .ok (.invokespecial 9, 3) := by decide +kernel
theorem dX5_init_82 : decode cX5_init 82 = .ok (.aastore, 1) := by decide +kernel
theorem dX5_init_83 : decode cX5_init 83 = .ok (.iinc 1 1, 3) := by decide +kernel
theorem dX5_init_86 : decode cX5_init 86 = .ok (.goto (-21), 3) := by decide +kernel
theorem dX5_init_89 : decode cX5_init 89 = .ok (.return_, 1) := by decide +kernel
theorem dX5_set_0 : decode cX5_set 0 = .ok (.aload_n 0, 1) := by decide +kernel
theorem dX5_set_1 : decode cX5_set 1 = .ok (.getfield 30, 3) := by decide +kernel
theorem dX5_set_4 : decode cX5_set 4 = .ok (.aload_n 0, 1) := by decide +kernel
theorem dX5_set_5 : decode cX5_set 5 = .ok (.getfield 10, 3) := by decide +kernel
theorem dX5_set_8 : decode cX5_set 8 = .ok (.invokevirtual 41, 3) := by decide +kernel
theorem dX5_set_11 : decode cX5_set 11 = .ok (.aload_n 0, 1) := by decide +kernel
theorem dX5_set_12 : decode cX5_set 12 = .ok (.getfield 30, 3) := by decide +kernel
theorem dX5_set_15 : decode cX5_set 15 = .ok (.aload_n 0, 1) := by decide +kernel
theorem dX5_set_16 : decode cX5_set 16 = .ok (.getfield 10, 3) := by decide +kernel
theorem dX5_set_19 : decode cX5_set 19 = .ok (.iload_n 1, 1) := by decide +kernel
theorem dX5_set_20 : decode cX5_set 20 = .ok (.iload_n 2, 1) := by decide +kernel
theorem dX5_set_21 : decode cX5_set 21 = .ok (.invokevirtual 45, 3) := by decide +kernel
theorem dX5_set_24 : decode cX5_set 24 = .ok (.invokevirtual 49, 3) := by decide +kernel
theorem dX5_set_27 : decode cX5_set 27 = .ok (.ireturn, 1) := by decide +kernel
theorem dX5_person_0 : decode cX5_person 0 = .ok (.aload_n 0, 1) := by decide +kernel
theorem dX5_person_1 : decode cX5_person 1 = .ok (.getfield 30, 3) := by decide +kernel
theorem dX5_person_4 : decode cX5_person 4 = .ok (.aload_n 0, 1) := by decide +kernel
theorem dX5_person_5 : decode cX5_person 5 = .ok (.getfield 10, 3) := by decide +kernel
theorem dX5_person_8 : decode cX5_person 8 = .ok (.invokevirtual 41, 3) := by decide +kernel
theorem dX5_person_11 : decode cX5_person 11 = .ok (.aload_n 0, 1) := by decide +kernel
theorem dX5_person_12 : decode cX5_person 12 = .ok (.getfield 30, 3) := by decide +kernel
theorem dX5_person_15 : decode cX5_person 15 = .ok (.aload_n 0, 1) := by decide +kernel
theorem dX5_person_16 : decode cX5_person 16 = .ok (.getfield 10, 3) := by decide +kernel
theorem dX5_person_19 : decode cX5_person 19 = .ok (.iload_n 1, 1) := by decide +kernel
theorem dX5_person_20 : decode cX5_person 20 = .ok (.invokevirtual 53, 3) := by decide +kernel
theorem dX5_person_23 : decode cX5_person 23 = .ok (.invokevirtual 49, 3) := by decide +kernel
theorem dX5_person_26 : decode cX5_person 26 = .ok (.ireturn, 1) := by decide +kernel
theorem dX5_buy_0 : decode cX5_buy 0 = .ok (.aload_n 0, 1) := by decide +kernel
theorem dX5_buy_1 : decode cX5_buy 1 = .ok (.getfield 30, 3) := by decide +kernel
theorem dX5_buy_4 : decode cX5_buy 4 = .ok (.aload_n 0, 1) := by decide +kernel
theorem dX5_buy_5 : decode cX5_buy 5 = .ok (.getfield 10, 3) := by decide +kernel
theorem dX5_buy_8 : decode cX5_buy 8 = .ok (.invokevirtual 41, 3) := by decide +kernel
theorem dX5_buy_11 : decode cX5_buy 11 = .ok (.aload_n 0, 1) := by decide +kernel
theorem dX5_buy_12 : decode cX5_buy 12 = .ok (.getfield 30, 3) := by decide +kernel
theorem dX5_buy_15 : decode cX5_buy 15 = .ok (.aload_n 0, 1) := by decide +kernel
theorem dX5_buy_16 : decode cX5_buy 16 = .ok (.getfield 10, 3) := by decide +kernel
theorem dX5_buy_19 : decode cX5_buy 19 = .ok (.iload_n 1, 1) := by decide +kernel
theorem dX5_buy_20 : decode cX5_buy 20 = .ok (.invokevirtual 56, 3) := by decide +kernel
theorem dX5_buy_23 : decode cX5_buy 23 = .ok (.invokevirtual 49, 3) := by decide +kernel
theorem dX5_buy_26 : decode cX5_buy 26 = .ok (.ireturn, 1) := by decide +kernel
theorem dX5_job_0 : decode cX5_job 0 = .ok (.aload_n 0, 1) := by decide +kernel
theorem dX5_job_1 : decode cX5_job 1 = .ok (.getfield 30, 3) := by decide +kernel
theorem dX5_job_4 : decode cX5_job 4 = .ok (.aload_n 0, 1) := by decide +kernel
theorem dX5_job_5 : decode cX5_job 5 = .ok (.getfield 10, 3) := by decide +kernel
theorem dX5_job_8 : decode cX5_job 8 = .ok (.invokevirtual 41, 3) := by decide +kernel
theorem dX5_job_11 : decode cX5_job 11 = .ok (.aload_n 0, 1) := by decide +kernel
theorem dX5_job_12 : decode cX5_job 12 = .ok (.getfield 30, 3) := by decide +kernel
theorem dX5_job_15 : decode cX5_job 15 = .ok (.aload_n 0, 1) := by decide +kernel
theorem dX5_job_16 : decode cX5_job 16 = .ok (.getfield 10, 3) := by decide +kernel
theorem dX5_job_19 : decode cX5_job 19 = .ok (.iload_n 1, 1) := by decide +kernel
theorem dX5_job_20 : decode cX5_job 20 = .ok (.iload_n 2, 1) := by decide +kernel
theorem dX5_job_21 : decode cX5_job 21 = .ok (.iload_n 3, 1) := by decide +kernel
theorem dX5_job_22 : decode cX5_job 22 = .ok (.iload 4, 2) := by decide +kernel
theorem dX5_job_24 : decode cX5_job 24 = .ok (.iload 5, 2) := by decide +kernel
theorem dX5_job_26 : decode cX5_job 26 = .ok (.invokevirtual 59, 3) := by decide +kernel
theorem dX5_job_29 : decode cX5_job 29 = .ok (.invokevirtual 49, 3) := by decide +kernel
theorem dX5_job_32 : decode cX5_job 32 = .ok (.ireturn, 1) := by decide +kernel
theorem dX5_begin_0 : decode cX5_begin 0 = .ok (.aload_n 0, 1) := by decide +kernel
theorem dX5_begin_1 : decode cX5_begin 1 = .ok (.getfield 30, 3) := by decide +kernel
theorem dX5_begin_4 : decode cX5_begin 4 = .ok (.aload_n 0, 1) := by decide +kernel
theorem dX5_begin_5 : decode cX5_begin 5 = .ok (.getfield 10, 3) := by decide +kernel
theorem dX5_begin_8 : decode cX5_begin 8 = .ok (.invokevirtual 41, 3) := by decide +kernel
theorem dX5_begin_11 : decode cX5_begin 11 = .ok (.aload_n 0, 1) := by decide +kernel
theorem dX5_begin_12 : decode cX5_begin 12 = .ok (.getfield 30, 3) := by decide +kernel
theorem dX5_begin_15 : decode cX5_begin 15 = .ok (.aload_n 0, 1) := by decide +kernel
theorem dX5_begin_16 : decode cX5_begin 16 = .ok (.getfield 10, 3) := by decide +kernel
theorem dX5_begin_19 : decode cX5_begin 19 = .ok (.iload_n 1, 1) := by decide +kernel
theorem dX5_begin_20 : decode cX5_begin 20 = .ok (.iload_n 2, 1) := by decide +kernel
theorem dX5_begin_21 : decode cX5_begin 21 = .ok (.iload_n 3, 1) := by decide +kernel
theorem dX5_begin_22 : decode cX5_begin 22 = .ok (.invokevirtual 63, 3) := by decide +kernel
theorem dX5_begin_25 : decode cX5_begin 25 = .ok (.invokevirtual 49, 3) := by decide +kernel
theorem dX5_begin_28 : decode cX5_begin 28 = .ok (.ireturn, 1) := by decide +kernel
theorem dX5_assign_0 : decode cX5_assign 0 = .ok (.aload_n 0, 1) := by decide +kernel
