theorem dX0_workOneHour_104 : decode cX0_workOneHour 104 = .ok (.istore_n 2, 1) := by decide +kernel
theorem dX0_workOneHour_105 : decode cX0_workOneHour 105 = .ok (.aload_n 0, 1) := by decide +kernel
theorem dX0_workOneHour_106 : decode cX0_workOneHour 106 = .ok (.aload_n 1, 1) := by decide +kernel
theorem dX0_workOneHour_107 : decode cX0_workOneHour 107 = .ok (.getfield 157, 3) := by decide +kernel
theorem dX0_workOneHour_110 : decode cX0_workOneHour 110 = .ok (.iload_n 2, 1) := by decide +kernel
theorem dX0_workOneHour_111 : decode cX0_workOneHour 111 = .ok (.invokevirtual 203, 3) := by decide +kernel
theorem dX0_workOneHour_114 : decode cX0_workOneHour 114 = .ok (.iload_n 2, 1) := by decide +kernel
theorem dX0_workOneHour_115 : decode cX0_workOneHour 115 = .ok (.ifCond .eq 17, 3) := by decide +kernel
theorem dX0_workOneHour_118 : decode cX0_workOneHour 118 = .ok (.aload_n 1, 1) := by decide +kernel
theorem dX0_workOneHour_119 : decode cX0_workOneHour 119 = .ok (.aload_n 0, 1) := by decide +kernel
theorem dX0_workOneHour_120 : decode cX0_workOneHour 120 = .ok (.getfield 48, 3) := by decide +kernel
theorem dX0_workOneHour_123 : decode cX0_workOneHour 123 = .ok (.putfield 207, 3) := by decide +kernel
theorem dX0_workOneHour_126 : decode cX0_workOneHour 126 = .ok (.aload_n 0, 1) := by decide +kernel
theorem dX0_workOneHour_127 : decode cX0_workOneHour 127 = .ok (.aload_n 1, 1) := by decide +kernel
theorem dX0_workOneHour_128 : decode cX0_workOneHour 128 = .ok (.iconst 2, 1) := by decide +kernel
theorem dX0_workOneHour_129 : decode cX0_workOneHour 129 = .ok (.invokevirtual 186, 3) := by decide +kernel
theorem dX0_workOneHour_132 : decode cX0_workOneHour 132 = .ok (.iload_n 2, 1) := by decide +kernel
theorem dX0_workOneHour_133 : decode cX0_workOneHour 133 = .ok (.ireturn, 1) := by decide +kernel
theorem dX0_restPeople_0 : decode cX0_restPeople 0 = .ok (.iconst 0, 1) := by decide +kernel
theorem dX0_restPeople_1 : decode cX0_restPeople 1 = .ok (.istore_n 2, 1) := by decide +kernel
theorem dX0_restPeople_2 : decode cX0_restPeople 2 = .ok (.iload_n 2, 1) := by decide +kernel
theorem dX0_restPeople_3 : decode cX0_restPeople 3 = .ok (.aload_n 0, 1) := by decide +kernel
theorem dX0_restPeople_4 : decode cX0_restPeople 4 = .ok (.getfield 41, 3) := by decide +kernel
theorem dX0_restPeople_7 : decode cX0_restPeople 7 = .ok (.if_icmp .ge 32, 3) := by decide +kernel
theorem dX0_restPeople_10 : decode cX0_restPeople 10 = .ok (.iload_n 2, 1) := by decide +kernel
theorem dX0_restPeople_11 : decode cX0_restPeople 11 = .ok (.iload_n 1, 1) := by decide +kernel
theorem dX0_restPeople_12 : decode cX0_restPeople 12 = .ok (.invokestatic 101, 3) := by decide +kernel
theorem dX0_restPeople_15 : decode cX0_restPeople 15 = .ok (.ifCond .eq 18, 3) := by decide +kernel
theorem dX0_restPeople_18 : decode cX0_restPeople 18 = .ok (.aload_n 0, 1) := by decide +kernel
theorem dX0_restPeople_19 : decode cX0_restPeople 19 = .ok (.getfield 23, 3) := by decide +kernel
theorem dX0_restPeople_22 : decode cX0_restPeople 22 = .ok (.iload_n 2, 1) := by decide +kernel
theorem dX0_restPeople_23 : decode cX0_restPeople 23 = .ok (.aaload, 1) := by decide +kernel
theorem dX0_restPeople_24 : decode cX0_restPeople 24 = .ok (.aload_n 0, 1) := by decide +kernel
theorem dX0_restPeople_25 : decode cX0_restPeople 25 = .ok (.getfield 9, 3) := by decide +kernel
theorem dX0_restPeople_28 : decode cX0_restPeople 28 = .ok (.iconst 1, 1) := by decide +kernel
theorem dX0_restPeople_29 : decode cX0_restPeople 29 = .ok (.iaload, 1) := by decide +kernel
theorem dX0_restPeople_30 : decode cX0_restPeople 30 = .ok (.invokevirtual 210, 3) := by decide +kernel
theorem dX0_restPeople_33 : decode cX0_restPeople 33 = .ok (.iinc 2 1, 3) := by decide +kernel
theorem dX0_restPeople_36 : decode cX0_restPeople 36 = .ok (.goto (-34), 3) := by decide +kernel
theorem dX0_restPeople_39 : decode cX0_restPeople 39 = .ok (.return_, 1) := by decide +kernel
theorem dX0_carryHour_0 : decode cX0_carryHour 0 = .ok (.iconst 0, 1) := by decide +kernel
theorem dX0_carryHour_1 : decode cX0_carryHour 1 = .ok (.istore_n 3, 1) := by decide +kernel
theorem dX0_carryHour_2 : decode cX0_carryHour 2 = .ok (.iload_n 3, 1) := by decide +kernel
theorem dX0_carryHour_3 : decode cX0_carryHour 3 = .ok (.aload_n 0, 1) := by decide +kernel
theorem dX0_carryHour_4 : decode cX0_carryHour 4 = .ok (.getfield 41, 3) := by decide +kernel
theorem dX0_carryHour_7 : decode cX0_carryHour 7 = .ok (.if_icmp .ge 55, 3) := by decide +kernel
theorem dX0_carryHour_10 : decode cX0_carryHour 10 = .ok (.iload_n 3, 1) := by decide +kernel
theorem dX0_carryHour_11 : decode cX0_carryHour 11 = .ok (.iload_n 1, 1) := by decide +kernel
theorem dX0_carryHour_12 : decode cX0_carryHour 12 = .ok (.invokestatic 101, 3) := by decide +kernel
theorem dX0_carryHour_15 : decode cX0_carryHour 15 = .ok (.ifCond .eq 41, 3) := by decide +kernel
theorem dX0_carryHour_18 : decode cX0_carryHour 18 = .ok (.aload_n 0, 1) := by decide +kernel
theorem dX0_carryHour_19 : decode cX0_carryHour 19 = .ok (.getfield 23, 3) := by decide +kernel
theorem dX0_carryHour_22 : decode cX0_carryHour 22 = .ok (.iload_n 3, 1) := by decide +kernel
theorem dX0_carryHour_23 : decode cX0_carryHour 23 = .ok (.aaload, 1) := by decide +kernel
theorem dX0_carryHour_24 : decode cX0_carryHour 24 = .ok (.aload_n 0, 1) := by decide +kernel
theorem dX0_carryHour_25 : decode cX0_carryHour 25 = .ok (.getfield 9, 3) := by decide +kernel
theorem dX0_carryHour_28 : decode cX0_carryHour 28 = .ok (.iconst 2, 1) := by decide +kernel
theorem dX0_carryHour_29 : decode cX0_carryHour 29 = .ok (.iaload, 1) := by decide +kernel
theorem dX0_carryHour_30 : decode cX0_carryHour 30 = .ok (.invokevirtual 213, 3) := by decide +kernel
theorem dX0_carryHour_33 : decode cX0_carryHour 33 = .ok (.aload_n 0, 1) := by decide +kernel
theorem dX0_carryHour_34 : decode cX0_carryHour 34 = .ok (.getfield 23, 3) := by decide +kernel
theorem dX0_carryHour_37 : decode cX0_carryHour 37 = .ok (.iload_n 3, 1) := by decide +kernel
theorem dX0_carryHour_38 : decode cX0_carryHour 38 = .ok (.aaload, 1) := by decide +kernel
theorem dX0_carryHour_39 : decode cX0_carryHour 39 = .ok (.dup, 1) := by decide +kernel
theorem dX0_carryHour_40 : decode cX0_carryHour 40 = .ok (.getfield 216, 3) := by decide +kernel
theorem dX0_carryHour_43 : decode cX0_carryHour 43 = .ok (.iload_n 2, 1) := by decide +kernel
theorem dX0_carryHour_44 : decode cX0_carryHour 44 = .ok (.ifCond .eq 7, 3) := by decide +kernel
theorem dX0_carryHour_47 : decode cX0_carryHour 47 = .ok (.iconst 1, 1) := by decide +kernel
theorem dX0_carryHour_48 : decode cX0_carryHour 48 = .ok (.goto 4, 3) := by decide +kernel
theorem dX0_carryHour_51 : decode cX0_carryHour 51 = .ok (.iconst 0, 1) := by decide +kernel
theorem dX0_carryHour_52 : decode cX0_carryHour 52 = .ok (.iadd, 1) := by decide +kernel
theorem dX0_carryHour_53 : decode cX0_carryHour 53 = .ok (.putfield 216, 3) := by decide +kernel
theorem dX0_carryHour_56 : decode cX0_carryHour 56 = .ok (.iinc 3 1, 3) := by decide +kernel
theorem dX0_carryHour_59 : decode cX0_carryHour 59 = .ok (.goto (-57), 3) := by decide +kernel
theorem dX0_carryHour_62 : decode cX0_carryHour 62 = .ok (.return_, 1) := by decide +kernel
theorem dX0_tellOfJob_0 : decode cX0_tellOfJob 0 = .ok (.iload_n 2, 1) := by decide +kernel
theorem dX0_tellOfJob_1 : decode cX0_tellOfJob 1 = .ok (.tableswitch 159 0 12 #[67, 72, 77, 82, 87, 92, 97, 117, 122, 127, 132, 137, 142], 67) := by decide +kernel
theorem dX0_tellOfJob_68 : decode cX0_tellOfJob 68 = .ok (.aload_n 1, 1) := by decide +kernel
theorem dX0_tellOfJob_69 : decode cX0_tellOfJob 69 = .ok (.getfield 85, 3) := by decide +kernel
theorem dX0_tellOfJob_72 : decode cX0_tellOfJob 72 = .ok (.ireturn, 1) := by decide +kernel
theorem dX0_tellOfJob_73 : decode cX0_tellOfJob 73 = .ok (.aload_n 1, 1) := by decide +kernel
theorem dX0_tellOfJob_74 : decode cX0_tellOfJob 74 = .ok (.getfield 88, 3) := by decide +kernel
theorem dX0_tellOfJob_77 : decode cX0_tellOfJob 77 = .ok (.ireturn, 1) := by decide +kernel
theorem dX0_tellOfJob_78 : decode cX0_tellOfJob 78 = .ok (.aload_n 1, 1) := by decide +kernel
theorem dX0_tellOfJob_79 : decode cX0_tellOfJob 79 = .ok (.getfield 200, 3) := by decide +kernel
theorem dX0_tellOfJob_82 : decode cX0_tellOfJob 82 = .ok (.ireturn, 1) := by decide +kernel
theorem dX0_tellOfJob_83 : decode cX0_tellOfJob 83 = .ok (.aload_n 1, 1) := by decide +kernel
theorem dX0_tellOfJob_84 : decode cX0_tellOfJob 84 = .ok (.getfield 219, 3) := by decide +kernel
theorem dX0_tellOfJob_87 : decode cX0_tellOfJob 87 = .ok (.ireturn, 1) := by decide +kernel
theorem dX0_tellOfJob_88 : decode cX0_tellOfJob 88 = .ok (.aload_n 1, 1) := by decide +kernel
theorem dX0_tellOfJob_89 : decode cX0_tellOfJob 89 = .ok (.getfield 222, 3) := by decide +kernel
theorem dX0_tellOfJob_92 : decode cX0_tellOfJob 92 = .ok (.ireturn, 1) := by decide +kernel
theorem dX0_tellOfJob_93 : decode cX0_tellOfJob 93 = .ok (.aload_n 1, 1) := by decide +kernel
theorem dX0_tellOfJob_94 : decode cX0_tellOfJob 94 = .ok (.getfield 120, 3) := by decide +kernel
theorem dX0_tellOfJob_97 : decode cX0_tellOfJob 97 = .ok (.ireturn, 1) := by decide +kernel
theorem dX0_tellOfJob_98 : decode cX0_tellOfJob 98 = .ok (.aload_n 1, 1) := by decide +kernel
theorem dX0_tellOfJob_99 : decode cX0_tellOfJob 99 = .ok (.invokevirtual 225, 3) := by decide +kernel
theorem dX0_tellOfJob_102 : decode cX0_tellOfJob 102 = .ok (.ifCond .eq 10, 3) := by decide +kernel
theorem dX0_tellOfJob_105 : decode cX0_tellOfJob 105 = .ok (.aload_n 1, 1) := by decide +kernel
theorem dX0_tellOfJob_106 : decode cX0_tellOfJob 106 = .ok (.getfield 154, 3) := by decide +kernel
theorem dX0_tellOfJob_109 : decode cX0_tellOfJob 109 = .ok (.goto 8, 3) := by decide +kernel
theorem dX0_tellOfJob_112 : decode cX0_tellOfJob 112 = .ok (.aload_n 0, 1) := by decide +kernel
theorem dX0_tellOfJob_113 : decode cX0_tellOfJob 113 = .ok (.aload_n 1, 1) := by decide +kernel
theorem dX0_tellOfJob_114 : decode cX0_tellOfJob 114 = .ok (.invokevirtual 94, 3) := by decide +kernel
theorem dX0_tellOfJob_117 : decode cX0_tellOfJob 117 = .ok (.ireturn, 1) := by decide +kernel
theorem dX0_tellOfJob_118 : decode cX0_tellOfJob 118 = .ok (.aload_n 1, 1) := by decide +kernel
theorem dX0_tellOfJob_119 : decode cX0_tellOfJob 119 = .ok (.getfield 157, 3) := by decide +kernel
theorem dX0_tellOfJob_122 : decode cX0_tellOfJob 122 = .ok (.ireturn, 1) := by decide +kernel
theorem dX0_tellOfJob_123 : decode cX0_tellOfJob 123 = .ok (.aload_n 1, 1) := by decide +kernel
theorem dX0_tellOfJob_124 : decode cX0_tellOfJob 124 = .ok (.getfield 160, 3) := by decide +kernel
theorem dX0_tellOfJob_127 : decode cX0_tellOfJob 127 = .ok (.ireturn, 1) := by decide +kernel
theorem dX0_tellOfJob_128 : decode cX0_tellOfJob 128 = .ok (.aload_n 1, 1) := by decide +kernel
theorem dX0_tellOfJob_129 : decode cX0_tellOfJob 129 = .ok (.getfield 183, 3) := by decide +kernel
theorem dX0_tellOfJob_132 : decode cX0_tellOfJob 132 = .ok (.ireturn, 1) := by decide +kernel
theorem dX0_tellOfJob_133 : decode cX0_tellOfJob 133 = .ok (.aload_n 1, 1) := by decide +kernel
theorem dX0_tellOfJob_134 : decode cX0_tellOfJob 134 = .ok (.getfield 199, 3) := by decide +kernel
theorem dX0_tellOfJob_137 : decode cX0_tellOfJob 137 = .ok (.ireturn, 1) := by decide +kernel
theorem dX0_tellOfJob_138 : decode cX0_tellOfJob 138 = .ok (.aload_n 1, 1) := by decide +kernel
theorem dX0_tellOfJob_139 : decode cX0_tellOfJob 139 = .ok (.getfield 207, 3) := by decide +kernel
theorem dX0_tellOfJob_142 : decode cX0_tellOfJob 142 = .ok (.ireturn, 1) := by decide +kernel
theorem dX0_tellOfJob_143 : decode cX0_tellOfJob 143 = .ok (.aload_n 1, 1) := by decide +kernel
theorem dX0_tellOfJob_144 : decode cX0_tellOfJob 144 = .ok (.aload_n 0, 1) := by decide +kernel
theorem dX0_tellOfJob_145 : decode cX0_tellOfJob 145 = .ok (.getfield 48, 3) := by decide +kernel
theorem dX0_tellOfJob_148 : decode cX0_tellOfJob 148 = .ok (.invokevirtual 229, 3) := by decide +kernel
theorem dX0_tellOfJob_151 : decode cX0_tellOfJob 151 = .ok (.ifCond .eq 7, 3) := by decide +kernel
theorem dX0_tellOfJob_154 : decode cX0_tellOfJob 154 = .ok (.iconst 1, 1) := by decide +kernel
theorem dX0_tellOfJob_155 : decode cX0_tellOfJob 155 = .ok (.goto 4, 3) := by decide +kernel
theorem dX0_tellOfJob_158 : decode cX0_tellOfJob 158 = .ok (.iconst 0, 1) := by decide +kernel
theorem dX0_tellOfJob_159 : decode cX0_tellOfJob 159 = .ok (.ireturn, 1) := by decide +kernel
theorem dX0_tellOfJob_160 : decode cX0_tellOfJob 160 = .ok (.bipush (-2), 2) := by decide +kernel
theorem dX0_tellOfJob_162 : decode cX0_tellOfJob 162 = .ok (.ireturn, 1) := by decide +kernel
theorem dX0_tellCount_0 : decode cX0_tellCount 0 = .ok (.iload_n 1, 1) := by decide +kernel
theorem dX0_tellCount_1 : decode cX0_tellCount 1 = .ok (.tableswitch 152 0 13 #[71, 76, 81, 86, 91, 97, 103, 109, 114, 119, 124, 131, 138, 145], 71) := by decide +kernel
theorem dX0_tellCount_72 : decode cX0_tellCount 72 = .ok (.aload_n 0, 1) := by decide +kernel
theorem dX0_tellCount_73 : decode cX0_tellCount 73 = .ok (.getfield 48, 3) := by decide +kernel
theorem dX0_tellCount_76 : decode cX0_tellCount 76 = .ok (.ireturn, 1) := by decide +kernel
theorem dX0_tellCount_77 : decode cX0_tellCount 77 = .ok (.aload_n 0, 1) := by decide +kernel
theorem dX0_tellCount_78 : decode cX0_tellCount 78 = .ok (.getfield 41, 3) := by decide +kernel
theorem dX0_tellCount_81 : decode cX0_tellCount 81 = .ok (.ireturn, 1) := by decide +kernel
theorem dX0_tellCount_82 : decode cX0_tellCount 82 = .ok (.aload_n 0, 1) := by decide +kernel
theorem dX0_tellCount_83 : decode cX0_tellCount 83 = .ok (.invokevirtual 126, 3) := by decide +kernel
theorem dX0_tellCount_86 : decode cX0_tellCount 86 = .ok (.ireturn, 1) := by decide +kernel
theorem dX0_tellCount_87 : decode cX0_tellCount 87 = .ok (.aload_n 0, 1) := by decide +kernel
theorem dX0_tellCount_88 : decode cX0_tellCount 88 = .ok (.getfield 45, 3) := by decide +kernel
theorem dX0_tellCount_91 : decode cX0_tellCount 91 = .ok (.ireturn, 1) := by decide +kernel
theorem dX0_tellCount_92 : decode cX0_tellCount 92 = .ok (.aload_n 0, 1) := by decide +kernel
theorem dX0_tellCount_93 : decode cX0_tellCount 93 = .ok (.iconst 0, 1) := by decide +kernel
theorem dX0_tellCount_94 : decode cX0_tellCount 94 = .ok (.invokevirtual 232, 3) := by decide +kernel
theorem dX0_tellCount_97 : decode cX0_tellCount 97 = .ok (.ireturn, 1) := by decide +kernel
theorem dX0_tellCount_98 : decode cX0_tellCount 98 = .ok (.aload_n 0, 1) := by decide +kernel
theorem dX0_tellCount_99 : decode cX0_tellCount 99 = .ok (.iconst 1, 1) := by decide +kernel
theorem dX0_tellCount_100 : decode cX0_tellCount 100 = .ok (.invokevirtual 232, 3) := by decide +kernel
theorem dX0_tellCount_103 : decode cX0_tellCount 103 = .ok (.ireturn, 1) := by decide +kernel
theorem dX0_tellCount_104 : decode cX0_tellCount 104 = .ok (.aload_n 0, 1) := by decide +kernel
theorem dX0_tellCount_105 : decode cX0_tellCount 105 = .ok (.iconst 2, 1) := by decide +kernel
theorem dX0_tellCount_106 : decode cX0_tellCount 106 = .ok (.invokevirtual 232, 3) := by decide +kernel
theorem dX0_tellCount_109 : decode cX0_tellCount 109 = .ok (.ireturn, 1) := by decide +kernel
theorem dX0_tellCount_110 : decode cX0_tellCount 110 = .ok (.aload_n 0, 1) := by decide +kernel
theorem dX0_tellCount_111 : decode cX0_tellCount 111 = .ok (.invokevirtual 235, 3) := by decide +kernel
theorem dX0_tellCount_114 : decode cX0_tellCount 114 = .ok (.ireturn, 1) := by decide +kernel
theorem dX0_tellCount_115 : decode cX0_tellCount 115 = .ok (.aload_n 0, 1) := by decide +kernel
theorem dX0_tellCount_116 : decode cX0_tellCount 116 = .ok (.getfield 51, 3) := by decide +kernel
theorem dX0_tellCount_119 : decode cX0_tellCount 119 = .ok (.ireturn, 1) := by decide +kernel
theorem dX0_tellCount_120 : decode cX0_tellCount 120 = .ok (.aload_n 0, 1) := by decide +kernel
theorem dX0_tellCount_121 : decode cX0_tellCount 121 = .ok (.getfield 54, 3) := by decide +kernel
theorem dX0_tellCount_124 : decode cX0_tellCount 124 = .ok (.ireturn, 1) := by decide +kernel
theorem dX0_tellCount_125 : decode cX0_tellCount 125 = .ok (.aload_n 0, 1) := by decide +kernel
theorem dX0_tellCount_126 : decode cX0_tellCount 126 = .ok (.getfield 9, 3) := by decide +kernel
theorem dX0_tellCount_129 : decode cX0_tellCount 129 = .ok (.iconst 0, 1) := by decide +kernel
theorem dX0_tellCount_130 : decode cX0_tellCount 130 = .ok (.iaload, 1) := by decide +kernel
theorem dX0_tellCount_131 : decode cX0_tellCount 131 = .ok (.ireturn, 1) := by decide +kernel
theorem dX0_tellCount_132 : decode cX0_tellCount 132 = .ok (.aload_n 0, 1) := by decide +kernel
theorem dX0_tellCount_133 : decode cX0_tellCount 133 = .ok (.getfield 9, 3) := by decide +kernel
theorem dX0_tellCount_136 : decode cX0_tellCount 136 = .ok (.iconst 1, 1) := by decide +kernel
theorem dX0_tellCount_137 : decode cX0_tellCount 137 = .ok (.iaload, 1) := by decide +kernel
theorem dX0_tellCount_138 : decode cX0_tellCount 138 = .ok (.ireturn, 1) := by decide +kernel
theorem dX0_tellCount_139 : decode cX0_tellCount 139 = .ok (.aload_n 0, 1) := by decide +kernel
theorem dX0_tellCount_140 : decode cX0_tellCount 140 = .ok (.getfield 9, 3) := by decide +kernel
theorem dX0_tellCount_143 : decode cX0_tellCount 143 = .ok (.iconst 2, 1) := by decide +kernel
theorem dX0_tellCount_144 : decode cX0_tellCount 144 = .ok (.iaload, 1) := by decide +kernel
theorem dX0_tellCount_145 : decode cX0_tellCount 145 = .ok (.ireturn, 1) := by decide +kernel
theorem dX0_tellCount_146 : decode cX0_tellCount 146 = .ok (.aload_n 0, 1) := by decide +kernel
theorem dX0_tellCount_147 : decode cX0_tellCount 147 = .ok (.getfield 9, 3) := by decide +kernel
theorem dX0_tellCount_150 : decode cX0_tellCount 150 = .ok (.iconst 3, 1) := by decide +kernel
theorem dX0_tellCount_151 : decode cX0_tellCount 151 = .ok (.iaload, 1) := by decide +kernel
theorem dX0_tellCount_152 : decode cX0_tellCount 152 = .ok (.ireturn, 1) := by decide +kernel
theorem dX0_tellCount_153 : decode cX0_tellCount 153 = .ok (.bipush (-2), 2) := by decide +kernel
theorem dX0_tellCount_155 : decode cX0_tellCount 155 = .ok (.ireturn, 1) := by decide +kernel
theorem dX0_jobsInState_0 : decode cX0_jobsInState 0 = .ok (.iconst 0, 1) := by decide +kernel
theorem dX0_jobsInState_1 : decode cX0_jobsInState 1 = .ok (.istore_n 2, 1) := by decide +kernel
theorem dX0_jobsInState_2 : decode cX0_jobsInState 2 = .ok (.iconst 0, 1) := by decide +kernel
theorem dX0_jobsInState_3 : decode cX0_jobsInState 3 = .ok (.istore_n 3, 1) := by decide +kernel
theorem dX0_jobsInState_4 : decode cX0_jobsInState 4 = .ok (.iload_n 3, 1) := by decide +kernel
theorem dX0_jobsInState_5 : decode cX0_jobsInState 5 = .ok (.aload_n 0, 1) := by decide +kernel
theorem dX0_jobsInState_6 : decode cX0_jobsInState 6 = .ok (.getfield 45, 3) := by decide +kernel
theorem dX0_jobsInState_9 : decode cX0_jobsInState 9 = .ok (.if_icmp .ge 28, 3) := by decide +kernel
theorem dX0_jobsInState_12 : decode cX0_jobsInState 12 = .ok (.aload_n 0, 1) := by decide +kernel
theorem dX0_jobsInState_13 : decode cX0_jobsInState 13 = .ok (.getfield 29, 3) := by decide +kernel
theorem dX0_jobsInState_16 : decode cX0_jobsInState 16 = .ok (.iload_n 3, 1) := by decide +kernel
theorem dX0_jobsInState_17 : decode cX0_jobsInState 17 = .ok (.aaload, 1) := by decide +kernel
theorem dX0_jobsInState_18 : decode cX0_jobsInState 18 = .ok (.getfield 120, 3) := by decide +kernel
theorem dX0_jobsInState_21 : decode cX0_jobsInState 21 = .ok (.iload_n 1, 1) := by decide +kernel
theorem dX0_jobsInState_22 : decode cX0_jobsInState 22 = .ok (.if_icmp .ne 9, 3) := by decide +kernel
theorem dX0_jobsInState_25 : decode cX0_jobsInState 25 = .ok (.iload_n 2, 1) := by decide +kernel
theorem dX0_jobsInState_26 : decode cX0_jobsInState 26 = .ok (.iconst 1, 1) := by decide +kernel
theorem dX0_jobsInState_27 : decode cX0_jobsInState 27 = .ok (.iload_n 3, 1) := by decide +kernel
theorem dX0_jobsInState_28 : decode cX0_jobsInState 28 = .ok (.ishl, 1) := by decide +kernel
theorem dX0_jobsInState_29 : decode cX0_jobsInState 29 = .ok (.ior, 1) := by decide +kernel
theorem dX0_jobsInState_30 : decode cX0_jobsInState 30 = .ok (.istore_n 2, 1) := by decide +kernel
theorem dX0_jobsInState_31 : decode cX0_jobsInState 31 = .ok (.iinc 3 1, 3) := by decide +kernel
theorem dX0_jobsInState_34 : decode cX0_jobsInState 34 = .ok (.goto (-30), 3) := by decide +kernel
theorem dX0_jobsInState_37 : decode cX0_jobsInState 37 = .ok (.iload_n 2, 1) := by decide +kernel
theorem dX0_jobsInState_38 : decode cX0_jobsInState 38 = .ok (.ireturn, 1) := by decide +kernel
theorem dX0_lateJobs_0 : decode cX0_lateJobs 0 = .ok (.iconst 0, 1) := by decide +kernel
theorem dX0_lateJobs_1 : decode cX0_lateJobs 1 = .ok (.istore_n 1, 1) := by decide +kernel
theorem dX0_lateJobs_2 : decode cX0_lateJobs 2 = .ok (.iconst 0, 1) := by decide +kernel
theorem dX0_lateJobs_3 : decode cX0_lateJobs 3 = .ok (.istore_n 2, 1) := by decide +kernel
theorem dX0_lateJobs_4 : decode cX0_lateJobs 4 = .ok (.iload_n 2, 1) := by decide +kernel
theorem dX0_lateJobs_5 : decode cX0_lateJobs 5 = .ok (.aload_n 0, 1) := by decide +kernel
theorem dX0_lateJobs_6 : decode cX0_lateJobs 6 = .ok (.getfield 45, 3) := by decide +kernel
theorem dX0_lateJobs_9 : decode cX0_lateJobs 9 = .ok (.if_icmp .ge 31, 3) := by decide +kernel
theorem dX0_lateJobs_12 : decode cX0_lateJobs 12 = .ok (.aload_n 0, 1) := by decide +kernel
theorem dX0_lateJobs_13 : decode cX0_lateJobs 13 = .ok (.getfield 29, 3) := by decide +kernel
theorem dX0_lateJobs_16 : decode cX0_lateJobs 16 = .ok (.iload_n 2, 1) := by decide +kernel
theorem dX0_lateJobs_17 : decode cX0_lateJobs 17 = .ok (.aaload, 1) := by decide +kernel
theorem dX0_lateJobs_18 : decode cX0_lateJobs 18 = .ok (.aload_n 0, 1) := by decide +kernel
theorem dX0_lateJobs_19 : decode cX0_lateJobs 19 = .ok (.getfield 48, 3) := by decide +kernel
theorem dX0_lateJobs_22 : decode cX0_lateJobs 22 = .ok (.invokevirtual 229, 3) := by decide +kernel
theorem dX0_lateJobs_25 : decode cX0_lateJobs 25 = .ok (.ifCond .eq 9, 3) := by decide +kernel
theorem dX0_lateJobs_28 : decode cX0_lateJobs 28 = .ok (.iload_n 1, 1) := by decide +kernel
theorem dX0_lateJobs_29 : decode cX0_lateJobs 29 = .ok (.iconst 1, 1) := by decide +kernel
theorem dX0_lateJobs_30 : decode cX0_lateJobs 30 = .ok (.iload_n 2, 1) := by decide +kernel
theorem dX0_lateJobs_31 : decode cX0_lateJobs 31 = .ok (.ishl, 1) := by decide +kernel
theorem dX0_lateJobs_32 : decode cX0_lateJobs 32 = .ok (.ior, 1) := by decide +kernel
theorem dX0_lateJobs_33 : decode cX0_lateJobs 33 = .ok (.istore_n 1, 1) := by decide +kernel
theorem dX0_lateJobs_34 : decode cX0_lateJobs 34 = .ok (.iinc 2 1, 3) := by decide +kernel
theorem dX0_lateJobs_37 : decode cX0_lateJobs 37 = .ok (.goto (-33), 3) := by decide +kernel
theorem dX0_lateJobs_40 : decode cX0_lateJobs 40 = .ok (.iload_n 1, 1) := by decide +kernel
theorem dX0_lateJobs_41 : decode cX0_lateJobs 41 = .ok (.ireturn, 1) := by decide +kernel
theorem dX1_init_0 : decode cX1_init 0 = .ok (.aload_n 0, 1) := by decide +kernel
theorem dX1_init_1 : decode cX1_init 1 = .ok (.invokespecial 3, 3) := by decide +kernel
theorem dX1_init_4 : decode cX1_init 4 = .ok (.aload_n 0, 1) := by decide +kernel
theorem dX1_init_5 : decode cX1_init 5 = .ok (.bipush 7, 2) := by decide +kernel
theorem dX1_init_7 : decode cX1_init 7 = .ok (.anewarray 11, 3) := by decide +kernel
theorem dX1_init_10 : decode cX1_init 10 = .ok (.putfield 13, 3) := by decide +kernel
theorem dX1_init_13 : decode cX1_init 13 = .ok (.iconst 0, 1) := by decide +kernel
theorem dX1_init_14 : decode cX1_init 14 = .ok (.istore_n 1, 1) := by decide +kernel
theorem dX1_init_15 : decode cX1_init 15 = .ok (.iload_n 1, 1) := by decide +kernel
theorem dX1_init_16 : decode cX1_init 16 = .ok (.bipush 7, 2) := by decide +kernel
theorem dX1_init_18 : decode cX1_init 18 = .ok (.if_icmp .ge 22, 3) := by decide +kernel
theorem dX1_init_21 : decode cX1_init 21 = .ok (.aload_n 0, 1) := by decide +kernel
theorem dX1_init_22 : decode cX1_init 22 = .ok (.getfield 13, 3) := by decide +kernel
theorem dX1_init_25 : decode cX1_init 25 = .ok (.iload_n 1, 1) := by decide +kernel
theorem dX1_init_26 : decode cX1_init 26 = .ok (.new 11, 3) := by decide +kernel
theorem dX1_init_29 : decode cX1_init 29 = .ok (.dup, 1) := by decide +kernel
theorem dX1_init_30 : decode cX1_init 30 = .ok (.invokespecial 17, 3) := by decide +kernel
theorem dX1_init_33 : decode cX1_init 33 = .ok (.aastore, 1) := by decide +kernel
theorem dX1_init_34 : decode cX1_init 34 = .ok (.iinc 1 1, 3) := by decide +kernel
theorem dX1_init_37 : decode cX1_init 37 = .ok (.goto (-22), 3) := by decide +kernel
theorem dX1_init_40 : decode cX1_init 40 = .ok (.return_, 1) := by decide +kernel
theorem dX1_note_0 : decode cX1_note 0 = .ok (.aload_n 0, 1) := by decide +kernel
theorem dX1_note_1 : decode cX1_note 1 = .ok (.getfield 13, 3) := by decide +kernel
theorem dX1_note_4 : decode cX1_note 4 = .ok (.aload_n 0, 1) := by decide +kernel
theorem dX1_note_5 : decode cX1_note 5 = .ok (.aload_n 0, 1) := by decide +kernel
theorem dX1_note_6 : decode cX1_note 6 = .ok (.getfield 18, 3) := by decide +kernel
theorem dX1_note_9 : decode cX1_note 9 = .ok (.invokevirtual 22, 3) := by decide +kernel
theorem dX1_note_12 : decode cX1_note 12 = .ok (.aaload, 1) := by decide +kernel
theorem dX1_note_13 : decode cX1_note 13 = .ok (.aload_n 1, 1) := by decide +kernel
theorem dX1_note_14 : decode cX1_note 14 = .ok (.invokevirtual 26, 3) := by decide +kernel
theorem dX1_note_17 : decode cX1_note 17 = .ok (.return_, 1) := by decide +kernel
theorem dX1_keepUnlessError_0 : decode cX1_keepUnlessError 0 = .ok (.iload_n 1, 1) := by decide +kernel
theorem dX1_keepUnlessError_1 : decode cX1_keepUnlessError 1 = .ok (.ifCond .ge 5, 3) := by decide +kernel
theorem dX1_keepUnlessError_4 : decode cX1_keepUnlessError 4 = .ok (.iload_n 1, 1) := by decide +kernel
theorem dX1_keepUnlessError_5 : decode cX1_keepUnlessError 5 = .ok (.ireturn, 1) := by decide +kernel
theorem dX1_keepUnlessError_6 : decode cX1_keepUnlessError 6 = .ok (.aload_n 0, 1) := by decide +kernel
theorem dX1_keepUnlessError_7 : decode cX1_keepUnlessError 7 = .ok (.getfield 18, 3) := by decide +kernel
theorem dX1_keepUnlessError_10 : decode cX1_keepUnlessError 10 = .ok (.bipush 6, 2) := by decide +kernel
theorem dX1_keepUnlessError_12 : decode cX1_keepUnlessError 12 = .ok (.if_icmp .ge 16, 3) := by decide +kernel
theorem dX1_keepUnlessError_15 : decode cX1_keepUnlessError 15 = .ok (.aload_n 0, 1) := by decide +kernel
theorem dX1_keepUnlessError_16 : decode cX1_keepUnlessError 16 = .ok (.dup, 1) := by decide +kernel
theorem dX1_keepUnlessError_17 : decode cX1_keepUnlessError 17 = .ok (.getfield 18, 3) := by decide +kernel
theorem dX1_keepUnlessError_20 : decode cX1_keepUnlessError 20 = .ok (.iconst 1, 1) := by decide +kernel
theorem dX1_keepUnlessError_21 : decode cX1_keepUnlessError 21 = .ok (.iadd, 1) := by decide +kernel
theorem dX1_keepUnlessError_22 : decode cX1_keepUnlessError 22 = .ok (.putfield 18, 3) := by decide +kernel
theorem dX1_keepUnlessError_25 : decode cX1_keepUnlessError 25 = .ok (.goto 12, 3) := by decide +kernel
theorem dX1_keepUnlessError_28 : decode cX1_keepUnlessError 28 = .ok (.aload_n 0, 1) := by decide +kernel
theorem dX1_keepUnlessError_29 : decode cX1_keepUnlessError 29 = .ok (.aload_n 0, 1) := by decide +kernel
theorem dX1_keepUnlessError_30 : decode cX1_keepUnlessError 30 = .ok (.iconst 1, 1) := by decide +kernel
theorem dX1_keepUnlessError_31 : decode cX1_keepUnlessError 31 = .ok (.invokevirtual 22, 3) := by decide +kernel
theorem dX1_keepUnlessError_34 : decode cX1_keepUnlessError 34 = .ok (.putfield 30, 3) := by decide +kernel
theorem dX1_keepUnlessError_37 : decode cX1_keepUnlessError 37 = .ok (.iload_n 1, 1) := by decide +kernel
theorem dX1_keepUnlessError_38 : decode cX1_keepUnlessError 38 = .ok (.ireturn, 1) := by decide +kernel
theorem dX1_takeBack_0 : decode cX1_takeBack 0 = .ok (.aload_n 0, 1) := by decide +kernel
theorem dX1_takeBack_1 : decode cX1_takeBack 1 = .ok (.getfield 18, 3) := by decide +kernel
theorem dX1_takeBack_4 : decode cX1_takeBack 4 = .ok (.ifCond .gt 6, 3) := by decide +kernel
theorem dX1_takeBack_7 : decode cX1_takeBack 7 = .ok (.bipush (-5), 2) := by decide +kernel
theorem dX1_takeBack_9 : decode cX1_takeBack 9 = .ok (.ireturn, 1) := by decide +kernel
theorem dX1_takeBack_10 : decode cX1_takeBack 10 = .ok (.aload_n 0, 1) := by decide +kernel
theorem dX1_takeBack_11 : decode cX1_takeBack 11 = .ok (.dup, 1) := by decide +kernel
theorem dX1_takeBack_12 : decode cX1_takeBack 12 = .ok (.getfield 18, 3) := by decide +kernel
theorem dX1_takeBack_15 : decode cX1_takeBack 15 = .ok (.iconst 1, 1) := by decide +kernel
theorem dX1_takeBack_16 : decode cX1_takeBack 16 = .ok (.isub, 1) := by decide +kernel
theorem dX1_takeBack_17 : decode cX1_takeBack 17 = .ok (.putfield 18, 3) := by decide +kernel
theorem dX1_takeBack_20 : decode cX1_takeBack 20 = .ok (.aload_n 1, 1) := by decide +kernel
theorem dX1_takeBack_21 : decode cX1_takeBack 21 = .ok (.aload_n 0, 1) := by decide +kernel
theorem dX1_takeBack_22 : decode cX1_takeBack 22 = .ok (.getfield 13, 3) := by decide +kernel
theorem dX1_takeBack_25 : decode cX1_takeBack 25 = .ok (.aload_n 0, 1) := by decide +kernel
theorem dX1_takeBack_26 : decode cX1_takeBack 26 = .ok (.aload_n 0, 1) := by decide +kernel
theorem dX1_takeBack_27 : decode cX1_takeBack 27 = .ok (.getfield 18, 3) := by decide +kernel
theorem dX1_takeBack_30 : decode cX1_takeBack 30 = .ok (.invokevirtual 22, 3) := by decide +kernel
theorem dX1_takeBack_33 : decode cX1_takeBack 33 = .ok (.aaload, 1) := by decide +kernel
theorem dX1_takeBack_34 : decode cX1_takeBack 34 = .ok (.invokevirtual 26, 3) := by decide +kernel
theorem dX1_takeBack_37 : decode cX1_takeBack 37 = .ok (.aload_n 0, 1) := by decide +kernel
theorem dX1_takeBack_38 : decode cX1_takeBack 38 = .ok (.getfield 18, 3) := by decide +kernel
theorem dX1_takeBack_41 : decode cX1_takeBack 41 = .ok (.ireturn, 1) := by decide +kernel
theorem dX1_row_0 : decode cX1_row 0 = .ok (.aload_n 0, 1) := by decide +kernel
theorem dX1_row_1 : decode cX1_row 1 = .ok (.getfield 30, 3) := by decide +kernel
theorem dX1_row_4 : decode cX1_row 4 = .ok (.iload_n 1, 1) := by decide +kernel
theorem dX1_row_5 : decode cX1_row 5 = .ok (.iadd, 1) := by decide +kernel
theorem dX1_row_6 : decode cX1_row 6 = .ok (.bipush 7, 2) := by decide +kernel
theorem dX1_row_8 : decode cX1_row 8 = .ok (.invokestatic 33, 3) := by decide +kernel
theorem dX1_row_11 : decode cX1_row 11 = .ok (.ireturn, 1) := by decide +kernel
theorem dX2_init_0 : decode cX2_init 0 = .ok (.aload_n 0, 1) := by decide +kernel
theorem dX2_init_1 : decode cX2_init 1 = .ok (.invokespecial 3, 3) := by decide +kernel
theorem dX2_init_4 : decode cX2_init 4 = .ok (.return_, 1) := by decide +kernel
theorem dX2_come_0 : decode cX2_come 0 = .ok (.aload_n 0, 1) := by decide +kernel
theorem dX2_come_1 : decode cX2_come 1 = .ok (.iload_n 1, 1) := by decide +kernel
theorem dX2_come_2 : decode cX2_come 2 = .ok (.putfield 9, 3) := by decide +kernel
theorem dX2_come_5 : decode cX2_come 5 = .ok (.aload_n 0, 1) := by decide +kernel
theorem dX2_come_6 : decode cX2_come 6 = .ok (.iload_n 2, 1) := by decide +kernel
theorem dX2_come_7 : decode cX2_come 7 = .ok (.putfield 15, 3) := by decide +kernel
theorem dX2_come_10 : decode cX2_come 10 = .ok (.aload_n 0, 1) := by decide +kernel
theorem dX2_come_11 : decode cX2_come 11 = .ok (.iload_n 3, 1) := by decide +kernel
theorem dX2_come_12 : decode cX2_come 12 = .ok (.putfield 18, 3) := by decide +kernel
theorem dX2_come_15 : decode cX2_come 15 = .ok (.aload_n 0, 1) := by decide +kernel
theorem dX2_come_16 : decode cX2_come 16 = .ok (.iload 4, 2) := by decide +kernel
theorem dX2_come_18 : decode cX2_come 18 = .ok (.putfield 21, 3) := by decide +kernel
theorem dX2_come_21 : decode cX2_come 21 = .ok (.aload_n 0, 1) := by decide +kernel
theorem dX2_come_22 : decode cX2_come 22 = .ok (.iload 5, 2) := by decide +kernel
theorem dX2_come_24 : decode cX2_come 24 = .ok (.putfield 24, 3) := by decide +kernel
theorem dX2_come_27 : decode cX2_come 27 = .ok (.aload_n 0, 1) := by decide +kernel
theorem dX2_come_28 : decode cX2_come 28 = .ok (.iconst 0, 1) := by decide +kernel
theorem dX2_come_29 : decode cX2_come 29 = .ok (.putfield 27, 3) := by decide +kernel
theorem dX2_come_32 : decode cX2_come 32 = .ok (.aload_n 0, 1) := by decide +kernel
theorem dX2_come_33 : decode cX2_come 33 = .ok (.iconst 0, 1) := by decide +kernel
theorem dX2_come_34 : decode cX2_come 34 = .ok (.putfield 30, 3) := by decide +kernel
theorem dX2_come_37 : decode cX2_come 37 = .ok (.aload_n 0, 1) := by decide +kernel
theorem dX2_come_38 : decode cX2_come 38 = .ok (.iconst 0, 1) := by decide +kernel
theorem dX2_come_39 : decode cX2_come 39 = .ok (.putfield 33, 3) := by decide +kernel
theorem dX2_come_42 : decode cX2_come 42 = .ok (.aload_n 0, 1) := by decide +kernel
theorem dX2_come_43 : decode cX2_come 43 = .ok (.bipush (-6), 2) := by decide +kernel
theorem dX2_come_45 : decode cX2_come 45 = .ok (.putfield 36, 3) := by decide +kernel
theorem dX2_come_48 : decode cX2_come 48 = .ok (.aload_n 0, 1) := by decide +kernel
theorem dX2_come_49 : decode cX2_come 49 = .ok (.iconst 0, 1) := by decide +kernel
theorem dX2_come_50 : decode cX2_come 50 = .ok (.putfield 39, 3) := by decide +kernel
theorem dX2_come_53 : decode cX2_come 53 = .ok (.aload_n 0, 1) := by decide +kernel
theorem dX2_come_54 : decode cX2_come 54 = .ok (.iconst 0, 1) := by decide +kernel
theorem dX2_come_55 : decode cX2_come 55 = .ok (.putfield 42, 3) := by decide +kernel
theorem dX2_come_58 : decode cX2_come 58 = .ok (.aload_n 0, 1) := by decide +kernel
theorem dX2_come_59 : decode cX2_come 59 = .ok (.bipush (-6), 2) := by decide +kernel
theorem dX2_come_61 : decode cX2_come 61 = .ok (.putfield 45, 3) := by decide +kernel
theorem dX2_come_64 : decode cX2_come 64 = .ok (.return_, 1) := by decide +kernel
theorem dX2_copyFrom_0 : decode cX2_copyFrom 0 = .ok (.aload_n 0, 1) := by decide +kernel
theorem dX2_copyFrom_1 : decode cX2_copyFrom 1 = .ok (.aload_n 1, 1) := by decide +kernel
theorem dX2_copyFrom_2 : decode cX2_copyFrom 2 = .ok (.getfield 9, 3) := by decide +kernel
theorem dX2_copyFrom_5 : decode cX2_copyFrom 5 = .ok (.putfield 9, 3) := by decide +kernel
theorem dX2_copyFrom_8 : decode cX2_copyFrom 8 = .ok (.aload_n 0, 1) := by decide +kernel
theorem dX2_copyFrom_9 : decode cX2_copyFrom 9 = .ok (.aload_n 1, 1) := by decide +kernel
theorem dX2_copyFrom_10 : decode cX2_copyFrom 10 = .ok (.getfield 15, 3) := by decide +kernel
theorem dX2_copyFrom_13 : decode cX2_copyFrom 13 = .ok (.putfield 15, 3) := by decide +kernel
theorem dX2_copyFrom_16 : decode cX2_copyFrom 16 = .ok (.aload_n 0, 1) := by decide +kernel
theorem dX2_copyFrom_17 : decode cX2_copyFrom 17 = .ok (.aload_n 1, 1) := by decide +kernel
theorem dX2_copyFrom_18 : decode cX2_copyFrom 18 = .ok (.getfield 18, 3) := by decide +kernel
theorem dX2_copyFrom_21 : decode cX2_copyFrom 21 = .ok (.putfield 18, 3) := by decide +kernel
theorem dX2_copyFrom_24 : decode cX2_copyFrom 24 = .ok (.aload_n 0, 1) := by decide +kernel
theorem dX2_copyFrom_25 : decode cX2_copyFrom 25 = .ok (.aload_n 1, 1) := by decide +kernel
theorem dX2_copyFrom_26 : decode cX2_copyFrom 26 = .ok (.getfield 21, 3) := by decide +kernel
theorem dX2_copyFrom_29 : decode cX2_copyFrom 29 = .ok (.putfield 21, 3) := by decide +kernel
theorem dX2_copyFrom_32 : decode cX2_copyFrom 32 = .ok (.aload_n 0, 1) := by decide +kernel
theorem dX2_copyFrom_33 : decode cX2_copyFrom 33 = .ok (.aload_n 1, 1) := by decide +kernel
theorem dX2_copyFrom_34 : decode cX2_copyFrom 34 = .ok (.getfield 24, 3) := by decide +kernel
theorem dX2_copyFrom_37 : decode cX2_copyFrom 37 = .ok (.putfield 24, 3) := by decide +kernel
theorem dX2_copyFrom_40 : decode cX2_copyFrom 40 = .ok (.aload_n 0, 1) := by decide +kernel
theorem dX2_copyFrom_41 : decode cX2_copyFrom 41 = .ok (.aload_n 1, 1) := by decide +kernel
theorem dX2_copyFrom_42 : decode cX2_copyFrom 42 = .ok (.getfield 27, 3) := by decide +kernel
theorem dX2_copyFrom_45 : decode cX2_copyFrom 45 = .ok (.putfield 27, 3) := by decide +kernel
theorem dX2_copyFrom_48 : decode cX2_copyFrom 48 = .ok (.aload_n 0, 1) := by decide +kernel
theorem dX2_copyFrom_49 : decode cX2_copyFrom 49 = .ok (.aload_n 1, 1) := by decide +kernel
theorem dX2_copyFrom_50 : decode cX2_copyFrom 50 = .ok (.getfield 30, 3) := by decide +kernel
theorem dX2_copyFrom_53 : decode cX2_copyFrom 53 = .ok (.putfield 30, 3) := by decide +kernel
theorem dX2_copyFrom_56 : decode cX2_copyFrom 56 = .ok (.aload_n 0, 1) := by decide +kernel
theorem dX2_copyFrom_57 : decode cX2_copyFrom 57 = .ok (.aload_n 1, 1) := by decide +kernel
theorem dX2_copyFrom_58 : decode cX2_copyFrom 58 = .ok (.getfield 33, 3) := by decide +kernel
theorem dX2_copyFrom_61 : decode cX2_copyFrom 61 = .ok (.putfield 33, 3) := by decide +kernel
theorem dX2_copyFrom_64 : decode cX2_copyFrom 64 = .ok (.aload_n 0, 1) := by decide +kernel
theorem dX2_copyFrom_65 : decode cX2_copyFrom 65 = .ok (.aload_n 1, 1) := by decide +kernel
theorem dX2_copyFrom_66 : decode cX2_copyFrom 66 = .ok (.getfield 36, 3) := by decide +kernel
theorem dX2_copyFrom_69 : decode cX2_copyFrom 69 = .ok (.putfield 36, 3) := by decide +kernel
theorem dX2_copyFrom_72 : decode cX2_copyFrom 72 = .ok (.aload_n 0, 1) := by decide +kernel
theorem dX2_copyFrom_73 : decode cX2_copyFrom 73 = .ok (.aload_n 1, 1) := by decide +kernel
theorem dX2_copyFrom_74 : decode cX2_copyFrom 74 = .ok (.getfield 39, 3) := by decide +kernel
theorem dX2_copyFrom_77 : decode cX2_copyFrom 77 = .ok (.putfield 39, 3) := by decide +kernel
theorem dX2_copyFrom_80 : decode cX2_copyFrom 80 = .ok (.aload_n 0, 1) := by decide +kernel
theorem dX2_copyFrom_81 : decode cX2_copyFrom 81 = .ok (.aload_n 1, 1) := by decide +kernel
theorem dX2_copyFrom_82 : decode cX2_copyFrom 82 = .ok (.getfield 42, 3) := by decide +kernel
theorem dX2_copyFrom_85 : decode cX2_copyFrom 85 = .ok (.putfield 42, 3) := by decide +kernel
theorem dX2_copyFrom_88 : decode cX2_copyFrom 88 = .ok (.aload_n 0, 1) := by decide +kernel
theorem dX2_copyFrom_89 : decode cX2_copyFrom 89 = .ok (.aload_n 1, 1) := by decide +kernel
theorem dX2_copyFrom_90 : decode cX2_copyFrom 90 = .ok (.getfield 45, 3) := by decide +kernel
theorem dX2_copyFrom_93 : decode cX2_copyFrom 93 = .ok (.putfield 45, 3) := by decide +kernel
theorem dX2_copyFrom_96 : decode cX2_copyFrom 96 = .ok (.return_, 1) := by decide +kernel
theorem dX2_wasBegun_0 : decode cX2_wasBegun 0 = .ok (.aload_n 0, 1) := by decide +kernel
theorem dX2_wasBegun_1 : decode cX2_wasBegun 1 = .ok (.getfield 33, 3) := by decide +kernel
theorem dX2_wasBegun_4 : decode cX2_wasBegun 4 = .ok (.ifCond .eq 7, 3) := by decide +kernel
theorem dX2_wasBegun_7 : decode cX2_wasBegun 7 = .ok (.iconst 1, 1) := by decide +kernel
theorem dX2_wasBegun_8 : decode cX2_wasBegun 8 = .ok (.goto 4, 3) := by decide +kernel
theorem dX2_wasBegun_11 : decode cX2_wasBegun 11 = .ok (.iconst 0, 1) := by decide +kernel
theorem dX2_wasBegun_12 : decode cX2_wasBegun 12 = .ok (.ireturn, 1) := by decide +kernel
theorem dX2_isLate_0 : decode cX2_isLate 0 = .ok (.aload_n 0, 1) := by decide +kernel
theorem dX2_isLate_1 : decode cX2_isLate 1 = .ok (.getfield 27, 3) := by decide +kernel
theorem dX2_isLate_4 : decode cX2_isLate 4 = .ok (.lookupswitch 47 #[(2, 28), (3, 45)], 28) := by decide +kernel
theorem dX2_isLate_32 : decode cX2_isLate 32 = .ok (.aload_n 0, 1) := by decide +kernel
theorem dX2_isLate_33 : decode cX2_isLate 33 = .ok (.getfield 45, 3) := by decide +kernel
theorem dX2_isLate_36 : decode cX2_isLate 36 = .ok (.aload_n 0, 1) := by decide +kernel
theorem dX2_isLate_37 : decode cX2_isLate 37 = .ok (.getfield 24, 3) := by decide +kernel
theorem dX2_isLate_40 : decode cX2_isLate 40 = .ok (.if_icmp .le 7, 3) := by decide +kernel
theorem dX2_isLate_43 : decode cX2_isLate 43 = .ok (.iconst 1, 1) := by decide +kernel
theorem dX2_isLate_44 : decode cX2_isLate 44 = .ok (.goto 4, 3) := by decide +kernel
theorem dX2_isLate_47 : decode cX2_isLate 47 = .ok (.iconst 0, 1) := by decide +kernel
theorem dX2_isLate_48 : decode cX2_isLate 48 = .ok (.ireturn, 1) := by decide +kernel
theorem dX2_isLate_49 : decode cX2_isLate 49 = .ok (.iconst 0, 1) := by decide +kernel
theorem dX2_isLate_50 : decode cX2_isLate 50 = .ok (.ireturn, 1) := by decide +kernel
theorem dX2_isLate_51 : decode cX2_isLate 51 = .ok (.iload_n 1, 1) := by decide +kernel
theorem dX2_isLate_52 : decode cX2_isLate 52 = .ok (.aload_n 0, 1) := by decide +kernel
theorem dX2_isLate_53 : decode cX2_isLate 53 = .ok (.getfield 24, 3) := by decide +kernel
theorem dX2_isLate_56 : decode cX2_isLate 56 = .ok (.if_icmp .le 7, 3) := by decide +kernel
theorem dX2_isLate_59 : decode cX2_isLate 59 = .ok (.iconst 1, 1) := by decide +kernel
theorem dX2_isLate_60 : decode cX2_isLate 60 = .ok (.goto 4, 3) := by decide +kernel
theorem dX2_isLate_63 : decode cX2_isLate 63 = .ok (.iconst 0, 1) := by decide +kernel
theorem dX2_isLate_64 : decode cX2_isLate 64 = .ok (.ireturn, 1) := by decide +kernel
theorem dX2_isAheadOfLater_0 : decode cX2_isAheadOfLater 0 = .ok (.aload_n 0, 1) := by decide +kernel
theorem dX2_isAheadOfLater_1 : decode cX2_isAheadOfLater 1 = .ok (.getfield 21, 3) := by decide +kernel
theorem dX2_isAheadOfLater_4 : decode cX2_isAheadOfLater 4 = .ok (.aload_n 1, 1) := by decide +kernel
theorem dX2_isAheadOfLater_5 : decode cX2_isAheadOfLater 5 = .ok (.getfield 21, 3) := by decide +kernel
theorem dX2_isAheadOfLater_8 : decode cX2_isAheadOfLater 8 = .ok (.if_icmp .eq 22, 3) := by decide +kernel
theorem dX2_isAheadOfLater_11 : decode cX2_isAheadOfLater 11 = .ok (.aload_n 0, 1) := by decide +kernel
theorem dX2_isAheadOfLater_12 : decode cX2_isAheadOfLater 12 = .ok (.getfield 21, 3) := by decide +kernel
theorem dX2_isAheadOfLater_15 : decode cX2_isAheadOfLater 15 = .ok (.aload_n 1, 1) := by decide +kernel
theorem dX2_isAheadOfLater_16 : decode cX2_isAheadOfLater 16 = .ok (.getfield 21, 3) := by decide +kernel
theorem dX2_isAheadOfLater_19 : decode cX2_isAheadOfLater 19 = .ok (.if_icmp .le 7, 3) := by decide +kernel
theorem dX2_isAheadOfLater_22 : decode cX2_isAheadOfLater 22 = .ok (.iconst 1, 1) := by decide +kernel
theorem dX2_isAheadOfLater_23 : decode cX2_isAheadOfLater 23 = .ok (.goto 23, 3) := by decide +kernel
theorem dX2_isAheadOfLater_26 : decode cX2_isAheadOfLater 26 = .ok (.iconst 0, 1) := by decide +kernel
theorem dX2_isAheadOfLater_27 : decode cX2_isAheadOfLater 27 = .ok (.goto 19, 3) := by decide +kernel
theorem dX2_isAheadOfLater_30 : decode cX2_isAheadOfLater 30 = .ok (.aload_n 0, 1) := by decide +kernel
theorem dX2_isAheadOfLater_31 : decode cX2_isAheadOfLater 31 = .ok (.getfield 24, 3) := by decide +kernel
theorem dX2_isAheadOfLater_34 : decode cX2_isAheadOfLater 34 = .ok (.aload_n 1, 1) := by decide +kernel
theorem dX2_isAheadOfLater_35 : decode cX2_isAheadOfLater 35 = .ok (.getfield 24, 3) := by decide +kernel
theorem dX2_isAheadOfLater_38 : decode cX2_isAheadOfLater 38 = .ok (.if_icmp .gt 7, 3) := by decide +kernel
theorem dX2_isAheadOfLater_41 : decode cX2_isAheadOfLater 41 = .ok (.iconst 1, 1) := by decide +kernel
theorem dX2_isAheadOfLater_42 : decode cX2_isAheadOfLater 42 = .ok (.goto 4, 3) := by decide +kernel
theorem dX2_isAheadOfLater_45 : decode cX2_isAheadOfLater 45 = .ok (.iconst 0, 1) := by decide +kernel
theorem dX2_isAheadOfLater_46 : decode cX2_isAheadOfLater 46 = .ok (.ireturn, 1) := by decide +kernel
theorem dX3_init_0 : decode cX3_init 0 = .ok (.aload_n 0, 1) := by decide +kernel
theorem dX3_init_1 : decode cX3_init 1 = .ok (.invokespecial 3, 3) := by decide +kernel
theorem dX3_init_4 : decode cX3_init 4 = .ok (.aload_n 0, 1) := by decide +kernel
theorem dX3_init_5 : decode cX3_init 5 = .ok (.bipush 80, 2) := by decide +kernel
theorem dX3_init_7 : decode cX3_init 7 = .ok (.newarray .int, 2) := by decide +kernel
theorem dX3_init_9 : decode cX3_init 9 = .ok (.putfield 9, 3) := by decide +kernel
theorem dX3_init_12 : decode cX3_init 12 = .ok (.aload_n 0, 1) := by decide +kernel
theorem dX3_init_13 : decode cX3_init 13 = .ok (.iconst 5, 1) := by decide +kernel
theorem dX3_init_14 : decode cX3_init 14 = .ok (.newarray .int, 2) := by decide +kernel
theorem dX3_init_16 : decode cX3_init 16 = .ok (.putfield 15, 3) := by decide +kernel
theorem dX3_init_19 : decode cX3_init 19 = .ok (.return_, 1) := by decide +kernel
theorem dX4_init_0 : decode cX4_init 0 = .ok (.aload_n 0, 1) := by decide +kernel
theorem dX4_init_1 : decode cX4_init 1 = .ok (.invokespecial 3, 3) := by decide +kernel
theorem dX4_init_4 : decode cX4_init 4 = .ok (.return_, 1) := by decide +kernel
theorem dX4_come_0 : decode cX4_come 0 = .ok (.aload_n 0, 1) := by decide +kernel
theorem dX4_come_1 : decode cX4_come 1 = .ok (.iload_n 1, 1) := by decide +kernel
theorem dX4_come_2 : decode cX4_come 2 = .ok (.putfield 9, 3) := by decide +kernel
theorem dX4_come_5 : decode cX4_come 5 = .ok (.aload_n 0, 1) := by decide +kernel
theorem dX4_come_6 : decode cX4_come 6 = .ok (.iload_n 1, 1) := by decide +kernel
theorem dX4_come_7 : decode cX4_come 7 = .ok (.putfield 15, 3) := by decide +kernel
theorem dX4_come_10 : decode cX4_come 10 = .ok (.aload_n 0, 1) := by decide +kernel
theorem dX4_come_11 : decode cX4_come 11 = .ok (.bipush (-6), 2) := by decide +kernel
theorem dX4_come_13 : decode cX4_come 13 = .ok (.putfield 18, 3) := by decide +kernel
theorem dX4_come_16 : decode cX4_come 16 = .ok (.aload_n 0, 1) := by decide +kernel
theorem dX4_come_17 : decode cX4_come 17 = .ok (.iconst 0, 1) := by decide +kernel
theorem dX4_come_18 : decode cX4_come 18 = .ok (.putfield 21, 3) := by decide +kernel
theorem dX4_come_21 : decode cX4_come 21 = .ok (.aload_n 0, 1) := by decide +kernel
theorem dX4_come_22 : decode cX4_come 22 = .ok (.iconst 0, 1) := by decide +kernel
theorem dX4_come_23 : decode cX4_come 23 = .ok (.putfield 24, 3) := by decide +kernel
theorem dX4_come_26 : decode cX4_come 26 = .ok (.return_, 1) := by decide +kernel
theorem dX4_copyFrom_0 : decode cX4_copyFrom 0 = .ok (.aload_n 0, 1) := by decide +kernel
theorem dX4_copyFrom_1 : decode cX4_copyFrom 1 = .ok (.aload_n 1, 1) := by decide +kernel
theorem dX4_copyFrom_2 : decode cX4_copyFrom 2 = .ok (.getfield 9, 3) := by decide +kernel
theorem dX4_copyFrom_5 : decode cX4_copyFrom 5 = .ok (.putfield 9, 3) := by decide +kernel
theorem dX4_copyFrom_8 : decode cX4_copyFrom 8 = .ok (.aload_n 0, 1) := by decide +kernel
theorem dX4_copyFrom_9 : decode cX4_copyFrom 9 = .ok (.aload_n 1, 1) := by decide +kernel
theorem dX4_copyFrom_10 : decode cX4_copyFrom 10 = .ok (.getfield 15, 3) := by decide +kernel
theorem dX4_copyFrom_13 : decode cX4_copyFrom 13 = .ok (.putfield 15, 3) := by decide +kernel
theorem dX4_copyFrom_16 : decode cX4_copyFrom 16 = .ok (.aload_n 0, 1) := by decide +kernel
theorem dX4_copyFrom_17 : decode cX4_copyFrom 17 = .ok (.aload_n 1, 1) := by decide +kernel
theorem dX4_copyFrom_18 : decode cX4_copyFrom 18 = .ok (.getfield 18, 3) := by decide +kernel
theorem dX4_copyFrom_21 : decode cX4_copyFrom 21 = .ok (.putfield 18, 3) := by decide +kernel
theorem dX4_copyFrom_24 : decode cX4_copyFrom 24 = .ok (.aload_n 0, 1) := by decide +kernel
theorem dX4_copyFrom_25 : decode cX4_copyFrom 25 = .ok (.aload_n 1, 1) := by decide +kernel
theorem dX4_copyFrom_26 : decode cX4_copyFrom 26 = .ok (.getfield 21, 3) := by decide +kernel
theorem dX4_copyFrom_29 : decode cX4_copyFrom 29 = .ok (.putfield 21, 3) := by decide +kernel
theorem dX4_copyFrom_32 : decode cX4_copyFrom 32 = .ok (.aload_n 0, 1) := by decide +kernel
theorem dX4_copyFrom_33 : decode cX4_copyFrom 33 = .ok (.aload_n 1, 1) := by decide +kernel
theorem dX4_copyFrom_34 : decode cX4_copyFrom 34 = .ok (.getfield 24, 3) := by decide +kernel
theorem dX4_copyFrom_37 : decode cX4_copyFrom 37 = .ok (.putfield 24, 3) := by decide +kernel
theorem dX4_copyFrom_40 : decode cX4_copyFrom 40 = .ok (.return_, 1) := by decide +kernel
theorem dX4_rest_0 : decode cX4_rest 0 = .ok (.aload_n 0, 1) := by decide +kernel
theorem dX4_rest_1 : decode cX4_rest 1 = .ok (.aload_n 0, 1) := by decide +kernel
theorem dX4_rest_2 : decode cX4_rest 2 = .ok (.getfield 9, 3) := by decide +kernel
theorem dX4_rest_5 : decode cX4_rest 5 = .ok (.aload_n 0, 1) := by decide +kernel
theorem dX4_rest_6 : decode cX4_rest 6 = .ok (.getfield 15, 3) := by decide +kernel
theorem dX4_rest_9 : decode cX4_rest 9 = .ok (.iload_n 1, 1) := by decide +kernel
theorem dX4_rest_10 : decode cX4_rest 10 = .ok (.iadd, 1) := by decide +kernel
theorem dX4_rest_11 : decode cX4_rest 11 = .ok (.invokestatic 27, 3) := by decide +kernel
theorem dX4_rest_14 : decode cX4_rest 14 = .ok (.putfield 15, 3) := by decide +kernel
theorem dX4_rest_17 : decode cX4_rest 17 = .ok (.return_, 1) := by decide +kernel
theorem dX4_carry_0 : decode cX4_carry 0 = .ok (.aload_n 0, 1) := by decide +kernel
theorem dX4_carry_1 : decode cX4_carry 1 = .ok (.iconst 0, 1) := by decide +kernel
theorem dX4_carry_2 : decode cX4_carry 2 = .ok (.aload_n 0, 1) := by decide +kernel
theorem dX4_carry_3 : decode cX4_carry 3 = .ok (.getfield 15, 3) := by decide +kernel
theorem dX4_carry_6 : decode cX4_carry 6 = .ok (.iload_n 1, 1) := by decide +kernel
theorem dX4_carry_7 : decode cX4_carry 7 = .ok (.isub, 1) := by decide +kernel
theorem dX4_carry_8 : decode cX4_carry 8 = .ok (.invokestatic 33, 3) := by decide +kernel
theorem dX4_carry_11 : decode cX4_carry 11 = .ok (.putfield 15, 3) := by decide +kernel
theorem dX4_carry_14 : decode cX4_carry 14 = .ok (.aload_n 0, 1) := by decide +kernel
theorem dX4_carry_15 : decode cX4_carry 15 = .ok (.dup, 1) := by decide +kernel
theorem dX4_carry_16 : decode cX4_carry 16 = .ok (.getfield 21, 3) := by decide +kernel
theorem dX4_carry_19 : decode cX4_carry 19 = .ok (.iconst 1, 1) := by decide +kernel
theorem dX4_carry_20 : decode cX4_carry 20 = .ok (.iadd, 1) := by decide +kernel
theorem dX4_carry_21 : decode cX4_carry 21 = .ok (.putfield 21, 3) := by decide +kernel
theorem dX4_carry_24 : decode cX4_carry 24 = .ok (.return_, 1) := by decide +kernel
theorem dX4_tell_0 : decode cX4_tell 0 = .ok (.iload_n 1, 1) := by decide +kernel
theorem dX4_tell_1 : decode cX4_tell 1 = .ok (.tableswitch 70 0 5 #[39, 44, 49, 54, 59, 64], 39) := by decide +kernel
theorem dX4_tell_40 : decode cX4_tell 40 = .ok (.aload_n 0, 1) := by decide +kernel
theorem dX4_tell_41 : decode cX4_tell 41 = .ok (.getfield 9, 3) := by decide +kernel
theorem dX4_tell_44 : decode cX4_tell 44 = .ok (.ireturn, 1) := by decide +kernel
theorem dX4_tell_45 : decode cX4_tell 45 = .ok (.aload_n 0, 1) := by decide +kernel
theorem dX4_tell_46 : decode cX4_tell 46 = .ok (.getfield 15, 3) := by decide +kernel
theorem dX4_tell_49 : decode cX4_tell 49 = .ok (.ireturn, 1) := by decide +kernel
theorem dX4_tell_50 : decode cX4_tell 50 = .ok (.aload_n 0, 1) := by decide +kernel
theorem dX4_tell_51 : decode cX4_tell 51 = .ok (.getfield 18, 3) := by decide +kernel
theorem dX4_tell_54 : decode cX4_tell 54 = .ok (.ireturn, 1) := by decide +kernel
theorem dX4_tell_55 : decode cX4_tell 55 = .ok (.aload_n 0, 1) := by decide +kernel
theorem dX4_tell_56 : decode cX4_tell 56 = .ok (.getfield 21, 3) := by decide +kernel
theorem dX4_tell_59 : decode cX4_tell 59 = .ok (.ireturn, 1) := by decide +kernel
theorem dX4_tell_60 : decode cX4_tell 60 = .ok (.aload_n 0, 1) := by decide +kernel
theorem dX4_tell_61 : decode cX4_tell 61 = .ok (.getfield 24, 3) := by decide +kernel
theorem dX4_tell_64 : decode cX4_tell 64 = .ok (.ireturn, 1) := by decide +kernel
theorem dX4_tell_65 : decode cX4_tell 65 = .ok (.aload_n 0, 1) := by decide +kernel
theorem dX4_tell_66 : decode cX4_tell 66 = .ok (.iload_n 2, 1) := by decide +kernel
theorem dX4_tell_67 : decode cX4_tell 67 = .ok (.invokevirtual 36, 3) := by decide +kernel
theorem dX4_tell_70 : decode cX4_tell 70 = .ok (.ireturn, 1) := by decide +kernel
theorem dX4_tell_71 : decode cX4_tell 71 = .ok (.bipush (-2), 2) := by decide +kernel
theorem dX4_tell_73 : decode cX4_tell 73 = .ok (.ireturn, 1) := by decide +kernel
theorem dX4_hoursOfRest_0 : decode cX4_hoursOfRest 0 = .ok (.iconst 1, 1) := by decide +kernel
theorem dX4_hoursOfRest_1 : decode cX4_hoursOfRest 1 = .ok (.iload_n 1, 1) := by decide +kernel
theorem dX4_hoursOfRest_2 : decode cX4_hoursOfRest 2 = .ok (.invokestatic 33, 3) := by decide +kernel
theorem dX4_hoursOfRest_5 : decode cX4_hoursOfRest 5 = .ok (.istore_n 2, 1) := by decide +kernel
theorem dX4_hoursOfRest_6 : decode cX4_hoursOfRest 6 = .ok (.aload_n 0, 1) := by decide +kernel
theorem dX4_hoursOfRest_7 : decode cX4_hoursOfRest 7 = .ok (.getfield 9, 3) := by decide +kernel
theorem dX4_hoursOfRest_10 : decode cX4_hoursOfRest 10 = .ok (.aload_n 0, 1) := by decide +kernel
theorem dX4_hoursOfRest_11 : decode cX4_hoursOfRest 11 = .ok (.getfield 15, 3) := by decide +kernel
theorem dX4_hoursOfRest_14 : decode cX4_hoursOfRest 14 = .ok (.isub, 1) := by decide +kernel
theorem dX4_hoursOfRest_15 : decode cX4_hoursOfRest 15 = .ok (.iload_n 2, 1) := by decide +kernel
theorem dX4_hoursOfRest_16 : decode cX4_hoursOfRest 16 = .ok (.iadd, 1) := by decide +kernel
theorem dX4_hoursOfRest_17 : decode cX4_hoursOfRest 17 = .ok (.iconst 1, 1) := by decide +kernel
theorem dX4_hoursOfRest_18 : decode cX4_hoursOfRest 18 = .ok (.isub, 1) := by decide +kernel
theorem dX4_hoursOfRest_19 : decode cX4_hoursOfRest 19 = .ok (.iload_n 2, 1) := by decide +kernel
theorem dX4_hoursOfRest_20 : decode cX4_hoursOfRest 20 = .ok (.idiv, 1) := by decide +kernel
theorem dX4_hoursOfRest_21 : decode cX4_hoursOfRest 21 = .ok (.ireturn, 1) := by decide +kernel
theorem dX5_init_0 : decode cX5_init 0 = .ok (.aload_n 0, 1) := by decide +kernel
theorem dX5_init_1 : decode cX5_init 1 = .ok (.invokespecial 1, 3) := by decide +kernel
theorem dX5_init_4 : decode cX5_init 4 = .ok (.aload_n 0, 1) := by decide +kernel
theorem dX5_init_5 : decode cX5_init 5 = .ok (.new 7, 3) := by decide +kernel
theorem dX5_init_8 : decode cX5_init 8 = .ok (.dup, 1) := by decide +kernel
theorem dX5_init_9 : decode cX5_init 9 = .ok (.invokespecial 9, 3) := by decide +kernel
theorem dX5_init_12 : decode cX5_init 12 = .ok (.putfield 10, 3) := by decide +kernel
theorem dX5_init_15 : decode cX5_init 15 = .ok (.aload_n 0, 1) := by decide +kernel
theorem dX5_init_16 : decode cX5_init 16 = .ok (.new 7, 3) := by decide +kernel
theorem dX5_init_19 : decode cX5_init 19 = .ok (.dup, 1) := by decide +kernel
theorem dX5_init_20 : decode cX5_init 20 = .ok (.invokespecial 9, 3) := by decide +kernel
theorem dX5_init_23 : decode cX5_init 23 = .ok (.putfield 16, 3) := by decide +kernel
theorem dX5_init_26 : decode cX5_init 26 = .ok (.aload_n 0, 1) := by decide +kernel
theorem dX5_init_27 : decode cX5_init 27 = .ok (.iconst 2, 1) := by decide +kernel
theorem dX5_init_28 : decode cX5_init 28 = .ok (.anewarray 7, 3) := by decide +kernel
theorem dX5_init_31 : decode cX5_init 31 = .ok (.putfield 19, 3) := by decide +kernel
theorem dX5_init_34 : decode cX5_init 34 = .ok (.aload_n 0, 1) := by decide +kernel
theorem dX5_init_35 : decode cX5_init 35 = .ok (.iconst 2, 1) := by decide +kernel
theorem dX5_init_36 : decode cX5_init 36 = .ok (.newarray .boolean, 2) := by decide +kernel
theorem dX5_init_38 : decode cX5_init 38 = .ok (.putfield 23, 3) := by decide +kernel
theorem dX5_init_41 : decode cX5_init 41 = .ok (.aload_n 0, 1) := by decide +kernel
theorem dX5_init_42 : decode cX5_init 42 = .ok (.new 27, 3) := by decide +kernel
theorem dX5_init_45 : decode cX5_init 45 = .ok (.dup, 1) := by decide +kernel
theorem dX5_init_46 : decode cX5_init 46 = .ok (.invokespecial 29, 3) := by decide +kernel
theorem dX5_init_49 : decode cX5_init 49 = .ok (.putfield 30, 3) := by decide +kernel
theorem dX5_init_52 : decode cX5_init 52 = .ok (.aload_n 0, 1) := by decide +kernel
theorem dX5_init_53 : decode cX5_init 53 = .ok (.new 34, 3) := by decide +kernel
theorem dX5_init_56 : decode cX5_init 56 = .ok (.dup, 1) := by decide +kernel
theorem dX5_init_57 : decode cX5_init 57 = .ok (.invokespecial 36, 3) := by decide +kernel
theorem dX5_init_60 : decode cX5_init 60 = .ok (.putfield 37, 3) := by decide +kernel
theorem dX5_init_63 : decode cX5_init 63 = .ok (.iconst 0, 1) := by decide +kernel
theorem dX5_init_64 : decode cX5_init 64 = .ok (.istore_n 1, 1) := by decide +kernel
theorem dX5_init_65 : decode cX5_init 65 = .ok (.iload_n 1, 1) := by decide +kernel
theorem dX5_init_66 : decode cX5_init 66 = .ok (.iconst 2, 1) := by decide +kernel
theorem dX5_init_67 : decode cX5_init 67 = .ok (.if_icmp .ge 22, 3) := by decide +kernel
theorem dX5_init_70 : decode cX5_init 70 = .ok (.aload_n 0, 1) := by decide +kernel
theorem dX5_init_71 : decode cX5_init 71 = .ok (.getfield 19, 3) := by decide +kernel
theorem dX5_init_74 : decode cX5_init 74 = .ok (.iload_n 1, 1) := by decide +kernel
theorem dX5_init_75 : decode cX5_init 75 = .ok (.new 7, 3) := by decide +kernel
theorem dX5_init_78 : decode cX5_init 78 = .ok (.dup, 1) := by decide +kernel
theorem dX5_init_79 : decode cX5_init 79 = .ok (.invokespecial 9, 3) := by decide +kernel
theorem dX5_init_82 : decode cX5_init 82 = .ok (.aastore, 1) := by decide +kernel
theorem dX5_init_83 : decode cX5_init 83 = .ok (.iinc 1 1, 3) := by decide +kernel
theorem dX5_init_86 : decode cX5_init 86 = .ok (.goto (-21), 3) := by decide +kernel
theorem dX5_init_89 : decode cX5_init 89 = .ok (.return_, 1) := by decide +kernel
theorem dX5_set_0 : decode cX5_set 0 = .ok (.aload_n 0, 1) := by decide +kernel
theorem dX5_set_1 : decode cX5_set 1 = .ok (.getfield 30, 3) := by decide +kernel
theorem dX5_set_4 : decode cX5_set 4 = .ok (.aload_n 0, 1) := by decide +kernel
theorem dX5_set_5 : decode cX5_set 5 = .ok (.getfield 10, 3) := by decide +kernel
theorem dX5_set_8 : decode cX5_set 8 = .ok (.invokevirtual 41, 3) := by decide +kernel
theorem dX5_set_11 : decode cX5_set 11 = .ok (.aload_n 0, 1) := by decide +kernel
theorem dX5_set_12 : decode cX5_set 12 = .ok (.getfield 30, 3) := by decide +kernel
theorem dX5_set_15 : decode cX5_set 15 = .ok (.aload_n 0, 1) := by decide +kernel
theorem dX5_set_16 : decode cX5_set 16 = .ok (.getfield 10, 3) := by decide +kernel
theorem dX5_set_19 : decode cX5_set 19 = .ok (.iload_n 1, 1) := by decide +kernel
theorem dX5_set_20 : decode cX5_set 20 = .ok (.iload_n 2, 1) := by decide +kernel
theorem dX5_set_21 : decode cX5_set 21 = .ok (.invokevirtual 45, 3) := by decide +kernel
theorem dX5_set_24 : decode cX5_set 24 = .ok (.invokevirtual 49, 3) := by decide +kernel
theorem dX5_set_27 : decode cX5_set 27 = .ok (.ireturn, 1) := by decide +kernel
theorem dX5_person_0 : decode cX5_person 0 = .ok (.aload_n 0, 1) := by decide +kernel
theorem dX5_person_1 : decode cX5_person 1 = .ok (.getfield 30, 3) := by decide +kernel
theorem dX5_person_4 : decode cX5_person 4 = .ok (.aload_n 0, 1) := by decide +kernel
theorem dX5_person_5 : decode cX5_person 5 = .ok (.getfield 10, 3) := by decide +kernel
theorem dX5_person_8 : decode cX5_person 8 = .ok (.invokevirtual 41, 3) := by decide +kernel
theorem dX5_person_11 : decode cX5_person 11 = .ok (.aload_n 0, 1) := by decide +kernel
theorem dX5_person_12 : decode cX5_person 12 = .ok (.getfield 30, 3) := by decide +kernel
theorem dX5_person_15 : decode cX5_person 15 = .ok (.aload_n 0, 1) := by decide +kernel
theorem dX5_person_16 : decode cX5_person 16 = .ok (.getfield 10, 3) := by decide +kernel
theorem dX5_person_19 : decode cX5_person 19 = .ok (.iload_n 1, 1) := by decide +kernel
theorem dX5_person_20 : decode cX5_person 20 = .ok (.invokevirtual 53, 3) := by decide +kernel
theorem dX5_person_23 : decode cX5_person 23 = .ok (.invokevirtual 49, 3) := by decide +kernel
theorem dX5_person_26 : decode cX5_person 26 = .ok (.ireturn, 1) := by decide +kernel
theorem dX5_buy_0 : decode cX5_buy 0 = .ok (.aload_n 0, 1) := by decide +kernel
theorem dX5_buy_1 : decode cX5_buy 1 = .ok (.getfield 30, 3) := by decide +kernel
theorem dX5_buy_4 : decode cX5_buy 4 = .ok (.aload_n 0, 1) := by decide +kernel
theorem dX5_buy_5 : decode cX5_buy 5 = .ok (.getfield 10, 3) := by decide +kernel
theorem dX5_buy_8 : decode cX5_buy 8 = .ok (.invokevirtual 41, 3) := by decide +kernel
theorem dX5_buy_11 : decode cX5_buy 11 = .ok (.aload_n 0, 1) := by decide +kernel
theorem dX5_buy_12 : decode cX5_buy 12 = .ok (.getfield 30, 3) := by decide +kernel
theorem dX5_buy_15 : decode cX5_buy 15 = .ok (.aload_n 0, 1) := by decide +kernel
theorem dX5_buy_16 : decode cX5_buy 16 = .ok (.getfield 10, 3) := by decide +kernel
theorem dX5_buy_19 : decode cX5_buy 19 = .ok (.iload_n 1, 1) := by decide +kernel
theorem dX5_buy_20 : decode cX5_buy 20 = .ok (.invokevirtual 56, 3) := by decide +kernel
theorem dX5_buy_23 : decode cX5_buy 23 = .ok (.invokevirtual 49, 3) := by decide +kernel
theorem dX5_buy_26 : decode cX5_buy 26 = .ok (.ireturn, 1) := by decide +kernel
theorem dX5_job_0 : decode cX5_job 0 = .ok (.aload_n 0, 1) := by decide +kernel
theorem dX5_job_1 : decode cX5_job 1 = .ok (.getfield 30, 3) := by decide +kernel
theorem dX5_job_4 : decode cX5_job 4 = .ok (.aload_n 0, 1) := by decide +kernel
theorem dX5_job_5 : decode cX5_job 5 = .ok (.getfield 10, 3) := by decide +kernel
theorem dX5_job_8 : decode cX5_job 8 = .ok (.invokevirtual 41, 3) := by decide +kernel
theorem dX5_job_11 : decode cX5_job 11 = .ok (.aload_n 0, 1) := by decide +kernel
theorem dX5_job_12 : decode cX5_job 12 = .ok (.getfield 30, 3) := by decide +kernel
theorem dX5_job_15 : decode cX5_job 15 = .ok (.aload_n 0, 1) := by decide +kernel
theorem dX5_job_16 : decode cX5_job 16 = .ok (.getfield 10, 3) := by decide +kernel
theorem dX5_job_19 : decode cX5_job 19 = .ok (.iload_n 1, 1) := by decide +kernel
theorem dX5_job_20 : decode cX5_job 20 = .ok (.iload_n 2, 1) := by decide +kernel
theorem dX5_job_21 : decode cX5_job 21 = .ok (.iload_n 3, 1) := by decide +kernel
theorem dX5_job_22 : decode cX5_job 22 = .ok (.iload 4, 2) := by decide +kernel
theorem dX5_job_24 : decode cX5_job 24 = .ok (.iload 5, 2) := by decide +kernel
theorem dX5_job_26 : decode cX5_job 26 = .ok (.invokevirtual 59, 3) := by decide +kernel
theorem dX5_job_29 : decode cX5_job 29 = .ok (.invokevirtual 49, 3) := by decide +kernel
theorem dX5_job_32 : decode cX5_job 32 = .ok (.ireturn, 1) := by decide +kernel
theorem dX5_begin_0 : decode cX5_begin 0 = .ok (.aload_n 0, 1) := by decide +kernel
theorem dX5_begin_1 : decode cX5_begin 1 = .ok (.getfield 30, 3) := by decide +kernel
theorem dX5_begin_4 : decode cX5_begin 4 = .ok (.aload_n 0, 1) := by decide +kernel
theorem dX5_begin_5 : decode cX5_begin 5 = .ok (.getfield 10, 3) := by decide +kernel
theorem dX5_begin_8 : decode cX5_begin 8 = .ok (.invokevirtual 41, 3) := by decide +kernel
theorem dX5_begin_11 : decode cX5_begin 11 = .ok (.aload_n 0, 1) := by decide +kernel
theorem dX5_begin_12 : decode cX5_begin 12 = .ok (.getfield 30, 3) := by decide +kernel
theorem dX5_begin_15 : decode cX5_begin 15 = .ok (.aload_n 0, 1) := by decide +kernel
theorem dX5_begin_16 : decode cX5_begin 16 = .ok (.getfield 10, 3) := by decide +kernel
theorem dX5_begin_19 : decode cX5_begin 19 = .ok (.iload_n 1, 1) := by decide +kernel
theorem dX5_begin_20 : decode cX5_begin 20 = .ok (.iload_n 2, 1) := by decide +kernel
theorem dX5_begin_21 : decode cX5_begin 21 = .ok (.iload_n 3, 1) := by decide +kernel
theorem dX5_begin_22 : decode cX5_begin 22 = .ok (.invokevirtual 63, 3) := by decide +kernel
theorem dX5_begin_25 : decode cX5_begin 25 = .ok (.invokevirtual 49, 3) := by decide +kernel
theorem dX5_begin_28 : decode cX5_begin 28 = .ok (.ireturn, 1) := by decide +kernel
theorem dX5_assign_0 : decode cX5_assign 0 = .ok (.aload_n 0, 1) := by decide +kernel
theorem dX5_assign_1 : decode cX5_assign 1 = .ok (.getfield 30, 3) := by decide +kernel
theorem dX5_assign_4 : decode cX5_assign 4 = .ok (.aload_n 0, 1) := by decide +kernel
theorem dX5_assign_5 : decode cX5_assign 5 = .ok (.getfield 10, 3) := by decide +kernel
theorem dX5_assign_8 : decode cX5_assign 8 = .ok (.invokevirtual 41, 3) := by decide +kernel
theorem dX5_assign_11 : decode cX5_assign 11 = .ok (.aload_n 0, 1) := by decide +kernel
theorem dX5_assign_12 : decode cX5_assign 12 = .ok (.getfield 30, 3) := by decide +kernel
theorem dX5_assign_15 : decode cX5_assign 15 = .ok (.aload_n 0, 1) := by decide +kernel
theorem dX5_assign_16 : decode cX5_assign 16 = .ok (.getfield 10, 3) := by decide +kernel
theorem dX5_assign_19 : decode cX5_assign 19 = .ok (.invokevirtual 67, 3) := by decide +kernel
theorem dX5_assign_22 : decode cX5_assign 22 = .ok (.invokevirtual 49, 3) := by decide +kernel
theorem dX5_assign_25 : decode cX5_assign 25 = .ok (.ireturn, 1) := by decide +kernel
theorem dX5_delay_0 : decode cX5_delay 0 = .ok (.aload_n 0, 1) := by decide +kernel
theorem dX5_delay_1 : decode cX5_delay 1 = .ok (.getfield 30, 3) := by decide +kernel
theorem dX5_delay_4 : decode cX5_delay 4 = .ok (.aload_n 0, 1) := by decide +kernel
theorem dX5_delay_5 : decode cX5_delay 5 = .ok (.getfield 10, 3) := by decide +kernel
theorem dX5_delay_8 : decode cX5_delay 8 = .ok (.invokevirtual 41, 3) := by decide +kernel
theorem dX5_delay_11 : decode cX5_delay 11 = .ok (.aload_n 0, 1) := by decide +kernel
theorem dX5_delay_12 : decode cX5_delay 12 = .ok (.getfield 30, 3) := by decide +kernel
theorem dX5_delay_15 : decode cX5_delay 15 = .ok (.aload_n 0, 1) := by decide +kernel
theorem dX5_delay_16 : decode cX5_delay 16 = .ok (.getfield 10, 3) := by decide +kernel
theorem dX5_delay_19 : decode cX5_delay 19 = .ok (.iload_n 1, 1) := by decide +kernel
theorem dX5_delay_20 : decode cX5_delay 20 = .ok (.iload_n 2, 1) := by decide +kernel
theorem dX5_delay_21 : decode cX5_delay 21 = .ok (.invokevirtual 71, 3) := by decide +kernel
theorem dX5_delay_24 : decode cX5_delay 24 = .ok (.invokevirtual 49, 3) := by decide +kernel
theorem dX5_delay_27 : decode cX5_delay 27 = .ok (.ireturn, 1) := by decide +kernel
theorem dX5_callOff_0 : decode cX5_callOff 0 = .ok (.aload_n 0, 1) := by decide +kernel
theorem dX5_callOff_1 : decode cX5_callOff 1 = .ok (.getfield 30, 3) := by decide +kernel
theorem dX5_callOff_4 : decode cX5_callOff 4 = .ok (.aload_n 0, 1) := by decide +kernel
theorem dX5_callOff_5 : decode cX5_callOff 5 = .ok (.getfield 10, 3) := by decide +kernel
theorem dX5_callOff_8 : decode cX5_callOff 8 = .ok (.invokevirtual 41, 3) := by decide +kernel
theorem dX5_callOff_11 : decode cX5_callOff 11 = .ok (.aload_n 0, 1) := by decide +kernel
theorem dX5_callOff_12 : decode cX5_callOff 12 = .ok (.getfield 30, 3) := by decide +kernel
theorem dX5_callOff_15 : decode cX5_callOff 15 = .ok (.aload_n 0, 1) := by decide +kernel
theorem dX5_callOff_16 : decode cX5_callOff 16 = .ok (.getfield 10, 3) := by decide +kernel
theorem dX5_callOff_19 : decode cX5_callOff 19 = .ok (.iload_n 1, 1) := by decide +kernel
theorem dX5_callOff_20 : decode cX5_callOff 20 = .ok (.invokevirtual 74, 3) := by decide +kernel
theorem dX5_callOff_23 : decode cX5_callOff 23 = .ok (.invokevirtual 49, 3) := by decide +kernel
theorem dX5_callOff_26 : decode cX5_callOff 26 = .ok (.ireturn, 1) := by decide +kernel
theorem dX5_pass_0 : decode cX5_pass 0 = .ok (.aload_n 0, 1) := by decide +kernel
theorem dX5_pass_1 : decode cX5_pass 1 = .ok (.getfield 30, 3) := by decide +kernel
theorem dX5_pass_4 : decode cX5_pass 4 = .ok (.aload_n 0, 1) := by decide +kernel
theorem dX5_pass_5 : decode cX5_pass 5 = .ok (.getfield 10, 3) := by decide +kernel
theorem dX5_pass_8 : decode cX5_pass 8 = .ok (.invokevirtual 41, 3) := by decide +kernel
theorem dX5_pass_11 : decode cX5_pass 11 = .ok (.aload_n 0, 1) := by decide +kernel
theorem dX5_pass_12 : decode cX5_pass 12 = .ok (.getfield 30, 3) := by decide +kernel
theorem dX5_pass_15 : decode cX5_pass 15 = .ok (.aload_n 0, 1) := by decide +kernel
theorem dX5_pass_16 : decode cX5_pass 16 = .ok (.getfield 10, 3) := by decide +kernel
theorem dX5_pass_19 : decode cX5_pass 19 = .ok (.iload_n 1, 1) := by decide +kernel
theorem dX5_pass_20 : decode cX5_pass 20 = .ok (.invokevirtual 77, 3) := by decide +kernel
theorem dX5_pass_23 : decode cX5_pass 23 = .ok (.invokevirtual 49, 3) := by decide +kernel
theorem dX5_pass_26 : decode cX5_pass 26 = .ok (.ireturn, 1) := by decide +kernel
theorem dX5_of_0 : decode cX5_of 0 = .ok (.aload_n 0, 1) := by decide +kernel
theorem dX5_of_1 : decode cX5_of 1 = .ok (.getfield 10, 3) := by decide +kernel
theorem dX5_of_4 : decode cX5_of 4 = .ok (.iload_n 1, 1) := by decide +kernel
theorem dX5_of_5 : decode cX5_of 5 = .ok (.invokevirtual 80, 3) := by decide +kernel
theorem dX5_of_8 : decode cX5_of 8 = .ok (.ifCond .ne 5, 3) := by decide +kernel
theorem dX5_of_11 : decode cX5_of 11 = .ok (.iconst (-1), 1) := by decide +kernel
theorem dX5_of_12 : decode cX5_of 12 = .ok (.ireturn, 1) := by decide +kernel
theorem dX5_of_13 : decode cX5_of 13 = .ok (.aload_n 0, 1) := by decide +kernel
theorem dX5_of_14 : decode cX5_of 14 = .ok (.getfield 10, 3) := by decide +kernel
theorem dX5_of_17 : decode cX5_of 17 = .ok (.getfield 84, 3) := by decide +kernel
theorem dX5_of_20 : decode cX5_of 20 = .ok (.iload_n 1, 1) := by decide +kernel
theorem dX5_of_21 : decode cX5_of 21 = .ok (.aaload, 1) := by decide +kernel
theorem dX5_of_22 : decode cX5_of 22 = .ok (.iload_n 2, 1) := by decide +kernel
theorem dX5_of_23 : decode cX5_of 23 = .ok (.aload_n 0, 1) := by decide +kernel
theorem dX5_of_24 : decode cX5_of 24 = .ok (.getfield 10, 3) := by decide +kernel
theorem dX5_of_27 : decode cX5_of 27 = .ok (.getfield 88, 3) := by decide +kernel
theorem dX5_of_30 : decode cX5_of 30 = .ok (.iconst 1, 1) := by decide +kernel
theorem dX5_of_31 : decode cX5_of 31 = .ok (.iaload, 1) := by decide +kernel
theorem dX5_of_32 : decode cX5_of 32 = .ok (.invokevirtual 92, 3) := by decide +kernel
theorem dX5_of_35 : decode cX5_of 35 = .ok (.ireturn, 1) := by decide +kernel
theorem dX5_ofJob_0 : decode cX5_ofJob 0 = .ok (.aload_n 0, 1) := by decide +kernel
theorem dX5_ofJob_1 : decode cX5_ofJob 1 = .ok (.getfield 10, 3) := by decide +kernel
theorem dX5_ofJob_4 : decode cX5_ofJob 4 = .ok (.iload_n 1, 1) := by decide +kernel
theorem dX5_ofJob_5 : decode cX5_ofJob 5 = .ok (.invokevirtual 97, 3) := by decide +kernel
theorem dX5_ofJob_8 : decode cX5_ofJob 8 = .ok (.ifCond .ne 5, 3) := by decide +kernel
theorem dX5_ofJob_11 : decode cX5_ofJob 11 = .ok (.iconst (-1), 1) := by decide +kernel
theorem dX5_ofJob_12 : decode cX5_ofJob 12 = .ok (.ireturn, 1) := by decide +kernel
theorem dX5_ofJob_13 : decode cX5_ofJob 13 = .ok (.aload_n 0, 1) := by decide +kernel
theorem dX5_ofJob_14 : decode cX5_ofJob 14 = .ok (.getfield 10, 3) := by decide +kernel
theorem dX5_ofJob_17 : decode cX5_ofJob 17 = .ok (.aload_n 0, 1) := by decide +kernel
theorem dX5_ofJob_18 : decode cX5_ofJob 18 = .ok (.getfield 10, 3) := by decide +kernel
theorem dX5_ofJob_21 : decode cX5_ofJob 21 = .ok (.getfield 100, 3) := by decide +kernel
theorem dX5_ofJob_24 : decode cX5_ofJob 24 = .ok (.iload_n 1, 1) := by decide +kernel
theorem dX5_ofJob_25 : decode cX5_ofJob 25 = .ok (.aaload, 1) := by decide +kernel
theorem dX5_ofJob_26 : decode cX5_ofJob 26 = .ok (.iload_n 2, 1) := by decide +kernel
theorem dX5_ofJob_27 : decode cX5_ofJob 27 = .ok (.invokevirtual 104, 3) := by decide +kernel
theorem dX5_ofJob_30 : decode cX5_ofJob 30 = .ok (.ireturn, 1) := by decide +kernel
theorem dX5_straps_0 : decode cX5_straps 0 = .ok (.iload_n 1, 1) := by decide +kernel
theorem dX5_straps_1 : decode cX5_straps 1 = .ok (.invokestatic 111, 3) := by decide +kernel
theorem dX5_straps_4 : decode cX5_straps 4 = .ok (.ifCond .ne 5, 3) := by decide +kernel
theorem dX5_straps_7 : decode cX5_straps 7 = .ok (.iconst (-1), 1) := by decide +kernel
theorem dX5_straps_8 : decode cX5_straps 8 = .ok (.ireturn, 1) := by decide +kernel
theorem dX5_straps_9 : decode cX5_straps 9 = .ok (.iload_n 2, 1) := by decide +kernel
theorem dX5_straps_10 : decode cX5_straps 10 = .ok (.lookupswitch 46 #[(0, 26), (1, 36)], 26) := by decide +kernel
theorem dX5_straps_36 : decode cX5_straps 36 = .ok (.aload_n 0, 1) := by decide +kernel
theorem dX5_straps_37 : decode cX5_straps 37 = .ok (.getfield 10, 3) := by decide +kernel
theorem dX5_straps_40 : decode cX5_straps 40 = .ok (.getfield 114, 3) := by decide +kernel
theorem dX5_straps_43 : decode cX5_straps 43 = .ok (.iload_n 1, 1) := by decide +kernel
theorem dX5_straps_44 : decode cX5_straps 44 = .ok (.iaload, 1) := by decide +kernel
theorem dX5_straps_45 : decode cX5_straps 45 = .ok (.ireturn, 1) := by decide +kernel
theorem dX5_straps_46 : decode cX5_straps 46 = .ok (.aload_n 0, 1) := by decide +kernel
theorem dX5_straps_47 : decode cX5_straps 47 = .ok (.getfield 10, 3) := by decide +kernel
theorem dX5_straps_50 : decode cX5_straps 50 = .ok (.getfield 117, 3) := by decide +kernel
theorem dX5_straps_53 : decode cX5_straps 53 = .ok (.iload_n 1, 1) := by decide +kernel
theorem dX5_straps_54 : decode cX5_straps 54 = .ok (.iaload, 1) := by decide +kernel
theorem dX5_straps_55 : decode cX5_straps 55 = .ok (.ireturn, 1) := by decide +kernel
theorem dX5_straps_56 : decode cX5_straps 56 = .ok (.bipush (-2), 2) := by decide +kernel
theorem dX5_straps_58 : decode cX5_straps 58 = .ok (.ireturn, 1) := by decide +kernel
theorem dX5_count_0 : decode cX5_count 0 = .ok (.iload_n 1, 1) := by decide +kernel
theorem dX5_count_1 : decode cX5_count 1 = .ok (.lookupswitch 43 #[(14, 27), (15, 35)], 27) := by decide +kernel
theorem dX5_count_28 : decode cX5_count 28 = .ok (.aload_n 0, 1) := by decide +kernel
theorem dX5_count_29 : decode cX5_count 29 = .ok (.getfield 37, 3) := by decide +kernel
theorem dX5_count_32 : decode cX5_count 32 = .ok (.getfield 120, 3) := by decide +kernel
theorem dX5_count_35 : decode cX5_count 35 = .ok (.ireturn, 1) := by decide +kernel
theorem dX5_count_36 : decode cX5_count 36 = .ok (.aload_n 0, 1) := by decide +kernel
theorem dX5_count_37 : decode cX5_count 37 = .ok (.getfield 30, 3) := by decide +kernel
theorem dX5_count_40 : decode cX5_count 40 = .ok (.getfield 124, 3) := by decide +kernel
theorem dX5_count_43 : decode cX5_count 43 = .ok (.ireturn, 1) := by decide +kernel
theorem dX5_count_44 : decode cX5_count 44 = .ok (.aload_n 0, 1) := by decide +kernel
theorem dX5_count_45 : decode cX5_count 45 = .ok (.getfield 10, 3) := by decide +kernel
theorem dX5_count_48 : decode cX5_count 48 = .ok (.iload_n 1, 1) := by decide +kernel
theorem dX5_count_49 : decode cX5_count 49 = .ok (.invokevirtual 127, 3) := by decide +kernel
theorem dX5_count_52 : decode cX5_count 52 = .ok (.ireturn, 1) := by decide +kernel
theorem dX5_undo_0 : decode cX5_undo 0 = .ok (.aload_n 0, 1) := by decide +kernel
theorem dX5_undo_1 : decode cX5_undo 1 = .ok (.getfield 30, 3) := by decide +kernel
theorem dX5_undo_4 : decode cX5_undo 4 = .ok (.aload_n 0, 1) := by decide +kernel
theorem dX5_undo_5 : decode cX5_undo 5 = .ok (.getfield 10, 3) := by decide +kernel
theorem dX5_undo_8 : decode cX5_undo 8 = .ok (.invokevirtual 190, 3) := by decide +kernel
theorem dX5_undo_11 : decode cX5_undo 11 = .ok (.ireturn, 1) := by decide +kernel
theorem dX5_save_0 : decode cX5_save 0 = .ok (.iload_n 1, 1) := by decide +kernel
theorem dX5_save_1 : decode cX5_save 1 = .ok (.invokestatic 194, 3) := by decide +kernel
theorem dX5_save_4 : decode cX5_save 4 = .ok (.ifCond .ne 6, 3) := by decide +kernel
theorem dX5_save_7 : decode cX5_save 7 = .ok (.bipush (-2), 2) := by decide +kernel
theorem dX5_save_9 : decode cX5_save 9 = .ok (.ireturn, 1) := by decide +kernel
theorem dX5_save_10 : decode cX5_save 10 = .ok (.aload_n 0, 1) := by decide +kernel
theorem dX5_save_11 : decode cX5_save 11 = .ok (.getfield 19, 3) := by decide +kernel
theorem dX5_save_14 : decode cX5_save 14 = .ok (.iload_n 1, 1) := by decide +kernel
theorem dX5_save_15 : decode cX5_save 15 = .ok (.aaload, 1) := by decide +kernel
theorem dX5_save_16 : decode cX5_save 16 = .ok (.aload_n 0, 1) := by decide +kernel
theorem dX5_save_17 : decode cX5_save 17 = .ok (.getfield 10, 3) := by decide +kernel
theorem dX5_save_20 : decode cX5_save 20 = .ok (.invokevirtual 148, 3) := by decide +kernel
theorem dX5_save_23 : decode cX5_save 23 = .ok (.aload_n 0, 1) := by decide +kernel
theorem dX5_save_24 : decode cX5_save 24 = .ok (.getfield 23, 3) := by decide +kernel
theorem dX5_save_27 : decode cX5_save 27 = .ok (.iload_n 1, 1) := by decide +kernel
theorem dX5_save_28 : decode cX5_save 28 = .ok (.iconst 1, 1) := by decide +kernel
theorem dX5_save_29 : decode cX5_save 29 = .ok (.bastore, 1) := by decide +kernel
theorem dX5_save_30 : decode cX5_save 30 = .ok (.aload_n 0, 1) := by decide +kernel
theorem dX5_save_31 : decode cX5_save 31 = .ok (.getfield 10, 3) := by decide +kernel
theorem dX5_save_34 : decode cX5_save 34 = .ok (.getfield 197, 3) := by decide +kernel
theorem dX5_save_37 : decode cX5_save 37 = .ok (.ireturn, 1) := by decide +kernel
theorem dX5_restore_0 : decode cX5_restore 0 = .ok (.iload_n 1, 1) := by decide +kernel
theorem dX5_restore_1 : decode cX5_restore 1 = .ok (.invokestatic 194, 3) := by decide +kernel
theorem dX5_restore_4 : decode cX5_restore 4 = .ok (.ifCond .ne 6, 3) := by decide +kernel
theorem dX5_restore_7 : decode cX5_restore 7 = .ok (.bipush (-2), 2) := by decide +kernel
theorem dX5_restore_9 : decode cX5_restore 9 = .ok (.ireturn, 1) := by decide +kernel
theorem dX5_restore_10 : decode cX5_restore 10 = .ok (.aload_n 0, 1) := by decide +kernel
theorem dX5_restore_11 : decode cX5_restore 11 = .ok (.getfield 23, 3) := by decide +kernel
theorem dX5_restore_14 : decode cX5_restore 14 = .ok (.iload_n 1, 1) := by decide +kernel
theorem dX5_restore_15 : decode cX5_restore 15 = .ok (.baload, 1) := by decide +kernel
theorem dX5_restore_16 : decode cX5_restore 16 = .ok (.ifCond .ne 6, 3) := by decide +kernel
theorem dX5_restore_19 : decode cX5_restore 19 = .ok (.bipush (-5), 2) := by decide +kernel
theorem dX5_restore_21 : decode cX5_restore 21 = .ok (.ireturn, 1) := by decide +kernel
theorem dX5_restore_22 : decode cX5_restore 22 = .ok (.aload_n 0, 1) := by decide +kernel
theorem dX5_restore_23 : decode cX5_restore 23 = .ok (.getfield 30, 3) := by decide +kernel
theorem dX5_restore_26 : decode cX5_restore 26 = .ok (.aload_n 0, 1) := by decide +kernel
theorem dX5_restore_27 : decode cX5_restore 27 = .ok (.getfield 10, 3) := by decide +kernel
theorem dX5_restore_30 : decode cX5_restore 30 = .ok (.invokevirtual 41, 3) := by decide +kernel
theorem dX5_restore_33 : decode cX5_restore 33 = .ok (.aload_n 0, 1) := by decide +kernel
theorem dX5_restore_34 : decode cX5_restore 34 = .ok (.getfield 10, 3) := by decide +kernel
theorem dX5_restore_37 : decode cX5_restore 37 = .ok (.aload_n 0, 1) := by decide +kernel
theorem dX5_restore_38 : decode cX5_restore 38 = .ok (.getfield 19, 3) := by decide +kernel
theorem dX5_restore_41 : decode cX5_restore 41 = .ok (.iload_n 1, 1) := by decide +kernel
theorem dX5_restore_42 : decode cX5_restore 42 = .ok (.aaload, 1) := by decide +kernel
theorem dX5_restore_43 : decode cX5_restore 43 = .ok (.invokevirtual 148, 3) := by decide +kernel
theorem dX5_restore_46 : decode cX5_restore 46 = .ok (.aload_n 0, 1) := by decide +kernel
theorem dX5_restore_47 : decode cX5_restore 47 = .ok (.getfield 30, 3) := by decide +kernel
theorem dX5_restore_50 : decode cX5_restore 50 = .ok (.aload_n 0, 1) := by decide +kernel
theorem dX5_restore_51 : decode cX5_restore 51 = .ok (.getfield 10, 3) := by decide +kernel
theorem dX5_restore_54 : decode cX5_restore 54 = .ok (.getfield 197, 3) := by decide +kernel
theorem dX5_restore_57 : decode cX5_restore 57 = .ok (.invokevirtual 49, 3) := by decide +kernel
theorem dX5_restore_60 : decode cX5_restore 60 = .ok (.ireturn, 1) := by decide +kernel
theorem dX5_isSlot_0 : decode cX5_isSlot 0 = .ok (.iload_n 0, 1) := by decide +kernel
theorem dX5_isSlot_1 : decode cX5_isSlot 1 = .ok (.iconst 0, 1) := by decide +kernel
theorem dX5_isSlot_2 : decode cX5_isSlot 2 = .ok (.iconst 1, 1) := by decide +kernel
theorem dX5_isSlot_3 : decode cX5_isSlot 3 = .ok (.invokestatic 200, 3) := by decide +kernel
theorem dX5_isSlot_6 : decode cX5_isSlot 6 = .ok (.ireturn, 1) := by decide +kernel
theorem dX5_isKind_0 : decode cX5_isKind 0 = .ok (.iload_n 0, 1) := by decide +kernel
theorem dX5_isKind_1 : decode cX5_isKind 1 = .ok (.ifCond .lt 12, 3) := by decide +kernel
theorem dX5_isKind_4 : decode cX5_isKind 4 = .ok (.iload_n 0, 1) := by decide +kernel
theorem dX5_isKind_5 : decode cX5_isKind 5 = .ok (.iconst 3, 1) := by decide +kernel
theorem dX5_isKind_6 : decode cX5_isKind 6 = .ok (.if_icmp .ge 7, 3) := by decide +kernel
theorem dX5_isKind_9 : decode cX5_isKind 9 = .ok (.iconst 1, 1) := by decide +kernel
theorem dX5_isKind_10 : decode cX5_isKind 10 = .ok (.goto 4, 3) := by decide +kernel
theorem dX5_isKind_13 : decode cX5_isKind 13 = .ok (.iconst 0, 1) := by decide +kernel
theorem dX5_isKind_14 : decode cX5_isKind 14 = .ok (.ireturn, 1) := by decide +kernel
theorem dX5_isKindOrNone_0 : decode cX5_isKindOrNone 0 = .ok (.iload_n 0, 1) := by decide +kernel
theorem dX5_isKindOrNone_1 : decode cX5_isKindOrNone 1 = .ok (.bipush (-6), 2) := by decide +kernel
theorem dX5_isKindOrNone_3 : decode cX5_isKindOrNone 3 = .ok (.if_icmp .eq 10, 3) := by decide +kernel
theorem dX5_isKindOrNone_6 : decode cX5_isKindOrNone 6 = .ok (.iload_n 0, 1) := by decide +kernel
theorem dX5_isKindOrNone_7 : decode cX5_isKindOrNone 7 = .ok (.invokestatic 111, 3) := by decide +kernel
theorem dX5_isKindOrNone_10 : decode cX5_isKindOrNone 10 = .ok (.ifCond .eq 7, 3) := by decide +kernel
theorem dX5_isKindOrNone_13 : decode cX5_isKindOrNone 13 = .ok (.iconst 1, 1) := by decide +kernel
theorem dX5_isKindOrNone_14 : decode cX5_isKindOrNone 14 = .ok (.goto 4, 3) := by decide +kernel
theorem dX5_isKindOrNone_17 : decode cX5_isKindOrNone 17 = .ok (.iconst 0, 1) := by decide +kernel
theorem dX5_isKindOrNone_18 : decode cX5_isKindOrNone 18 = .ok (.ireturn, 1) := by decide +kernel
theorem dX5_isWithin_0 : decode cX5_isWithin 0 = .ok (.iload_n 0, 1) := by decide +kernel
theorem dX5_isWithin_1 : decode cX5_isWithin 1 = .ok (.iload_n 1, 1) := by decide +kernel
theorem dX5_isWithin_2 : decode cX5_isWithin 2 = .ok (.if_icmp .lt 12, 3) := by decide +kernel
theorem dX5_isWithin_5 : decode cX5_isWithin 5 = .ok (.iload_n 0, 1) := by decide +kernel
theorem dX5_isWithin_6 : decode cX5_isWithin 6 = .ok (.iload_n 2, 1) := by decide +kernel
theorem dX5_isWithin_7 : decode cX5_isWithin 7 = .ok (.if_icmp .gt 7, 3) := by decide +kernel
theorem dX5_isWithin_10 : decode cX5_isWithin 10 = .ok (.iconst 1, 1) := by decide +kernel
theorem dX5_isWithin_11 : decode cX5_isWithin 11 = .ok (.goto 4, 3) := by decide +kernel
theorem dX5_isWithin_14 : decode cX5_isWithin 14 = .ok (.iconst 0, 1) := by decide +kernel
theorem dX5_isWithin_15 : decode cX5_isWithin 15 = .ok (.ireturn, 1) := by decide +kernel
theorem dX5_isIn_0 : decode cX5_isIn 0 = .ok (.iload_n 1, 1) := by decide +kernel
theorem dX5_isIn_1 : decode cX5_isIn 1 = .ok (.iconst 1, 1) := by decide +kernel
theorem dX5_isIn_2 : decode cX5_isIn 2 = .ok (.iload_n 0, 1) := by decide +kernel
theorem dX5_isIn_3 : decode cX5_isIn 3 = .ok (.ishl, 1) := by decide +kernel
theorem dX5_isIn_4 : decode cX5_isIn 4 = .ok (.iand, 1) := by decide +kernel
theorem dX5_isIn_5 : decode cX5_isIn 5 = .ok (.ifCond .eq 7, 3) := by decide +kernel
theorem dX5_isIn_8 : decode cX5_isIn 8 = .ok (.iconst 1, 1) := by decide +kernel
theorem dX5_isIn_9 : decode cX5_isIn 9 = .ok (.goto 4, 3) := by decide +kernel
theorem dX5_isIn_12 : decode cX5_isIn 12 = .ok (.iconst 0, 1) := by decide +kernel
theorem dX5_isIn_13 : decode cX5_isIn 13 = .ok (.ireturn, 1) := by decide +kernel
theorem dJ6_bitCount_0f7a4_0 : decode cJ6_bitCount_0f7a4 0 = .ok (.iload_n 0, 1) := by decide +kernel
theorem dJ6_bitCount_0f7a4_1 : decode cJ6_bitCount_0f7a4 1 = .ok (.iload_n 0, 1) := by decide +kernel
theorem dJ6_bitCount_0f7a4_2 : decode cJ6_bitCount_0f7a4 2 = .ok (.iconst 1, 1) := by decide +kernel
theorem dJ6_bitCount_0f7a4_3 : decode cJ6_bitCount_0f7a4 3 = .ok (.iushr, 1) := by decide +kernel
theorem dJ6_bitCount_0f7a4_4 : decode cJ6_bitCount_0f7a4 4 = .ok (.ldc_w 265, 3) := by decide +kernel
theorem dJ6_bitCount_0f7a4_7 : decode cJ6_bitCount_0f7a4 7 = .ok (.iand, 1) := by decide +kernel
theorem dJ6_bitCount_0f7a4_8 : decode cJ6_bitCount_0f7a4 8 = .ok (.isub, 1) := by decide +kernel
theorem dJ6_bitCount_0f7a4_9 : decode cJ6_bitCount_0f7a4 9 = .ok (.istore_n 0, 1) := by decide +kernel
theorem dJ6_bitCount_0f7a4_10 : decode cJ6_bitCount_0f7a4 10 = .ok (.iload_n 0, 1) := by decide +kernel
theorem dJ6_bitCount_0f7a4_11 : decode cJ6_bitCount_0f7a4 11 = .ok (.ldc_w 266, 3) := by decide +kernel
theorem dJ6_bitCount_0f7a4_14 : decode cJ6_bitCount_0f7a4 14 = .ok (.iand, 1) := by decide +kernel
theorem dJ6_bitCount_0f7a4_15 : decode cJ6_bitCount_0f7a4 15 = .ok (.iload_n 0, 1) := by decide +kernel
theorem dJ6_bitCount_0f7a4_16 : decode cJ6_bitCount_0f7a4 16 = .ok (.iconst 2, 1) := by decide +kernel
theorem dJ6_bitCount_0f7a4_17 : decode cJ6_bitCount_0f7a4 17 = .ok (.iushr, 1) := by decide +kernel
theorem dJ6_bitCount_0f7a4_18 : decode cJ6_bitCount_0f7a4 18 = .ok (.ldc_w 266, 3) := by decide +kernel
theorem dJ6_bitCount_0f7a4_21 : decode cJ6_bitCount_0f7a4 21 = .ok (.iand, 1) := by decide +kernel
theorem dJ6_bitCount_0f7a4_22 : decode cJ6_bitCount_0f7a4 22 = .ok (.iadd, 1) := by decide +kernel
theorem dJ6_bitCount_0f7a4_23 : decode cJ6_bitCount_0f7a4 23 = .ok (.istore_n 0, 1) := by decide +kernel
theorem dJ6_bitCount_0f7a4_24 : decode cJ6_bitCount_0f7a4 24 = .ok (.iload_n 0, 1) := by decide +kernel
theorem dJ6_bitCount_0f7a4_25 : decode cJ6_bitCount_0f7a4 25 = .ok (.iload_n 0, 1) := by decide +kernel
theorem dJ6_bitCount_0f7a4_26 : decode cJ6_bitCount_0f7a4 26 = .ok (.iconst 4, 1) := by decide +kernel
theorem dJ6_bitCount_0f7a4_27 : decode cJ6_bitCount_0f7a4 27 = .ok (.iushr, 1) := by decide +kernel
theorem dJ6_bitCount_0f7a4_28 : decode cJ6_bitCount_0f7a4 28 = .ok (.iadd, 1) := by decide +kernel
theorem dJ6_bitCount_0f7a4_29 : decode cJ6_bitCount_0f7a4 29 = .ok (.ldc_w 267, 3) := by decide +kernel
theorem dJ6_bitCount_0f7a4_32 : decode cJ6_bitCount_0f7a4 32 = .ok (.iand, 1) := by decide +kernel
theorem dJ6_bitCount_0f7a4_33 : decode cJ6_bitCount_0f7a4 33 = .ok (.istore_n 0, 1) := by decide +kernel
theorem dJ6_bitCount_0f7a4_34 : decode cJ6_bitCount_0f7a4 34 = .ok (.iload_n 0, 1) := by decide +kernel
theorem dJ6_bitCount_0f7a4_35 : decode cJ6_bitCount_0f7a4 35 = .ok (.iload_n 0, 1) := by decide +kernel
theorem dJ6_bitCount_0f7a4_36 : decode cJ6_bitCount_0f7a4 36 = .ok (.bipush 8, 2) := by decide +kernel
theorem dJ6_bitCount_0f7a4_38 : decode cJ6_bitCount_0f7a4 38 = .ok (.iushr, 1) := by decide +kernel
theorem dJ6_bitCount_0f7a4_39 : decode cJ6_bitCount_0f7a4 39 = .ok (.iadd, 1) := by decide +kernel
theorem dJ6_bitCount_0f7a4_40 : decode cJ6_bitCount_0f7a4 40 = .ok (.istore_n 0, 1) := by decide +kernel
theorem dJ6_bitCount_0f7a4_41 : decode cJ6_bitCount_0f7a4 41 = .ok (.iload_n 0, 1) := by decide +kernel
theorem dJ6_bitCount_0f7a4_42 : decode cJ6_bitCount_0f7a4 42 = .ok (.iload_n 0, 1) := by decide +kernel
theorem dJ6_bitCount_0f7a4_43 : decode cJ6_bitCount_0f7a4 43 = .ok (.bipush 16, 2) := by decide +kernel
theorem dJ6_bitCount_0f7a4_45 : decode cJ6_bitCount_0f7a4 45 = .ok (.iushr, 1) := by decide +kernel
theorem dJ6_bitCount_0f7a4_46 : decode cJ6_bitCount_0f7a4 46 = .ok (.iadd, 1) := by decide +kernel
theorem dJ6_bitCount_0f7a4_47 : decode cJ6_bitCount_0f7a4 47 = .ok (.istore_n 0, 1) := by decide +kernel
theorem dJ6_bitCount_0f7a4_48 : decode cJ6_bitCount_0f7a4 48 = .ok (.iload_n 0, 1) := by decide +kernel
theorem dJ6_bitCount_0f7a4_49 : decode cJ6_bitCount_0f7a4 49 = .ok (.bipush 63, 2) := by decide +kernel
theorem dJ6_bitCount_0f7a4_51 : decode cJ6_bitCount_0f7a4 51 = .ok (.iand, 1) := by decide +kernel
theorem dJ6_bitCount_0f7a4_52 : decode cJ6_bitCount_0f7a4 52 = .ok (.ireturn, 1) := by decide +kernel
theorem dJ9_floorMod_7cf53_0 : decode cJ9_floorMod_7cf53 0 = .ok (.iload_n 0, 1) := by decide +kernel
theorem dJ9_floorMod_7cf53_1 : decode cJ9_floorMod_7cf53 1 = .ok (.iload_n 1, 1) := by decide +kernel
theorem dJ9_floorMod_7cf53_2 : decode cJ9_floorMod_7cf53 2 = .ok (.irem, 1) := by decide +kernel
theorem dJ9_floorMod_7cf53_3 : decode cJ9_floorMod_7cf53 3 = .ok (.istore_n 2, 1) := by decide +kernel
theorem dJ9_floorMod_7cf53_4 : decode cJ9_floorMod_7cf53 4 = .ok (.iload_n 0, 1) := by decide +kernel
theorem dJ9_floorMod_7cf53_5 : decode cJ9_floorMod_7cf53 5 = .ok (.iload_n 1, 1) := by decide +kernel
theorem dJ9_floorMod_7cf53_6 : decode cJ9_floorMod_7cf53 6 = .ok (.ixor, 1) := by decide +kernel
theorem dJ9_floorMod_7cf53_7 : decode cJ9_floorMod_7cf53 7 = .ok (.ifCond .ge 11, 3) := by decide +kernel
theorem dJ9_floorMod_7cf53_10 : decode cJ9_floorMod_7cf53 10 = .ok (.iload_n 2, 1) := by decide +kernel
theorem dJ9_floorMod_7cf53_11 : decode cJ9_floorMod_7cf53 11 = .ok (.ifCond .eq 7, 3) := by decide +kernel
theorem dJ9_floorMod_7cf53_14 : decode cJ9_floorMod_7cf53 14 = .ok (.iload_n 2, 1) := by decide +kernel
theorem dJ9_floorMod_7cf53_15 : decode cJ9_floorMod_7cf53 15 = .ok (.iload_n 1, 1) := by decide +kernel
theorem dJ9_floorMod_7cf53_16 : decode cJ9_floorMod_7cf53 16 = .ok (.iadd, 1) := by decide +kernel
theorem dJ9_floorMod_7cf53_17 : decode cJ9_floorMod_7cf53 17 = .ok (.ireturn, 1) := by decide +kernel
theorem dJ9_floorMod_7cf53_18 : decode cJ9_floorMod_7cf53 18 = .ok (.iload_n 2, 1) := by decide +kernel
theorem dJ9_floorMod_7cf53_19 : decode cJ9_floorMod_7cf53 19 = .ok (.ireturn, 1) := by decide +kernel
theorem dJ9_max_7cf53_0 : decode cJ9_max_7cf53 0 = .ok (.iload_n 0, 1) := by decide +kernel
theorem dJ9_max_7cf53_1 : decode cJ9_max_7cf53 1 = .ok (.iload_n 1, 1) := by decide +kernel
theorem dJ9_max_7cf53_2 : decode cJ9_max_7cf53 2 = .ok (.if_icmp .lt 7, 3) := by decide +kernel
theorem dJ9_max_7cf53_5 : decode cJ9_max_7cf53 5 = .ok (.iload_n 0, 1) := by decide +kernel
theorem dJ9_max_7cf53_6 : decode cJ9_max_7cf53 6 = .ok (.goto 4, 3) := by decide +kernel
theorem dJ9_max_7cf53_9 : decode cJ9_max_7cf53 9 = .ok (.iload_n 1, 1) := by decide +kernel
theorem dJ9_max_7cf53_10 : decode cJ9_max_7cf53 10 = .ok (.ireturn, 1) := by decide +kernel
theorem dJ9_min_7cf53_0 : decode cJ9_min_7cf53 0 = .ok (.iload_n 0, 1) := by decide +kernel
theorem dJ9_min_7cf53_1 : decode cJ9_min_7cf53 1 = .ok (.iload_n 1, 1) := by decide +kernel
theorem dJ9_min_7cf53_2 : decode cJ9_min_7cf53 2 = .ok (.if_icmp .gt 7, 3) := by decide +kernel
theorem dJ9_min_7cf53_5 : decode cJ9_min_7cf53 5 = .ok (.iload_n 0, 1) := by decide +kernel
theorem dJ9_min_7cf53_6 : decode cJ9_min_7cf53 6 = .ok (.goto 4, 3) := by decide +kernel
theorem dJ9_min_7cf53_9 : decode cJ9_min_7cf53 9 = .ok (.iload_n 1, 1) := by decide +kernel
theorem dJ9_min_7cf53_10 : decode cJ9_min_7cf53 10 = .ok (.ireturn, 1) := by decide +kernel
theorem dL_cell_0 : decode cL_cell 0 = .ok (.iload_n 1, 1) := by decide +kernel
theorem dL_cell_1 : decode cL_cell 1 = .ok (.aload_n 0, 1) := by decide +kernel
theorem dL_cell_2 : decode cL_cell 2 = .ok (.arraylength, 1) := by decide +kernel
theorem dL_cell_3 : decode cL_cell 3 = .ok (.if_icmp .ge 9, 3) := by decide +kernel
theorem dL_cell_6 : decode cL_cell 6 = .ok (.aload_n 0, 1) := by decide +kernel
theorem dL_cell_7 : decode cL_cell 7 = .ok (.iload_n 1, 1) := by decide +kernel
theorem dL_cell_8 : decode cL_cell 8 = .ok (.iaload, 1) := by decide +kernel
theorem dL_cell_9 : decode cL_cell 9 = .ok (.goto 15, 3) := by decide +kernel
theorem dL_cell_12 : decode cL_cell 12 = .ok (.sipush 7919, 3) := by decide +kernel
theorem dL_cell_15 : decode cL_cell 15 = .ok (.iload_n 1, 1) := by decide +kernel
theorem dL_cell_16 : decode cL_cell 16 = .ok (.iconst 3, 1) := by decide +kernel
theorem dL_cell_17 : decode cL_cell 17 = .ok (.iadd, 1) := by decide +kernel
theorem dL_cell_18 : decode cL_cell 18 = .ok (.imul, 1) := by decide +kernel
theorem dL_cell_19 : decode cL_cell 19 = .ok (.iload_n 1, 1) := by decide +kernel
theorem dL_cell_20 : decode cL_cell 20 = .ok (.bipush 11, 2) := by decide +kernel
theorem dL_cell_22 : decode cL_cell 22 = .ok (.iadd, 1) := by decide +kernel
theorem dL_cell_23 : decode cL_cell 23 = .ok (.imul, 1) := by decide +kernel
theorem dL_cell_24 : decode cL_cell 24 = .ok (.ireturn, 1) := by decide +kernel
theorem dL_low_0 : decode cL_low 0 = .ok (.iload_n 0, 1) := by decide +kernel
theorem dL_low_1 : decode cL_low 1 = .ok (.ldc 7, 2) := by decide +kernel
theorem dL_low_3 : decode cL_low 3 = .ok (.iand, 1) := by decide +kernel
theorem dL_low_4 : decode cL_low 4 = .ok (.iload_n 1, 1) := by decide +kernel
theorem dL_low_5 : decode cL_low 5 = .ok (.irem, 1) := by decide +kernel
theorem dL_low_6 : decode cL_low 6 = .ok (.ireturn, 1) := by decide +kernel
theorem dL_told_0 : decode cL_told 0 = .ok (.ldc2_w 8, 3) := by decide +kernel
theorem dL_told_3 : decode cL_told 3 = .ok (.lstore_n 1, 1) := by decide +kernel
theorem dL_told_4 : decode cL_told 4 = .ok (.iconst 0, 1) := by decide +kernel
theorem dL_told_5 : decode cL_told 5 = .ok (.istore_n 3, 1) := by decide +kernel
theorem dL_told_6 : decode cL_told 6 = .ok (.iload_n 3, 1) := by decide +kernel
theorem dL_told_7 : decode cL_told 7 = .ok (.bipush 14, 2) := by decide +kernel
theorem dL_told_9 : decode cL_told 9 = .ok (.if_icmp .ge 22, 3) := by decide +kernel
theorem dL_told_12 : decode cL_told 12 = .ok (.ldc2_w 10, 3) := by decide +kernel
theorem dL_told_15 : decode cL_told 15 = .ok (.lload_n 1, 1) := by decide +kernel
theorem dL_told_16 : decode cL_told 16 = .ok (.lmul, 1) := by decide +kernel
theorem dL_told_17 : decode cL_told 17 = .ok (.aload_n 0, 1) := by decide +kernel
theorem dL_told_18 : decode cL_told 18 = .ok (.iload_n 3, 1) := by decide +kernel
theorem dL_told_19 : decode cL_told 19 = .ok (.invokevirtual 12, 3) := by decide +kernel
theorem dL_told_22 : decode cL_told 22 = .ok (.i2l, 1) := by decide +kernel
theorem dL_told_23 : decode cL_told 23 = .ok (.ladd, 1) := by decide +kernel
theorem dL_told_24 : decode cL_told 24 = .ok (.lstore_n 1, 1) := by decide +kernel
theorem dL_told_25 : decode cL_told 25 = .ok (.iinc 3 1, 3) := by decide +kernel
theorem dL_told_28 : decode cL_told 28 = .ok (.goto (-22), 3) := by decide +kernel
theorem dL_told_31 : decode cL_told 31 = .ok (.iconst 0, 1) := by decide +kernel
theorem dL_told_32 : decode cL_told 32 = .ok (.istore_n 3, 1) := by decide +kernel
theorem dL_told_33 : decode cL_told 33 = .ok (.iload_n 3, 1) := by decide +kernel
theorem dL_told_34 : decode cL_told 34 = .ok (.aload_n 0, 1) := by decide +kernel
theorem dL_told_35 : decode cL_told 35 = .ok (.iconst 1, 1) := by decide +kernel
theorem dL_told_36 : decode cL_told 36 = .ok (.invokevirtual 12, 3) := by decide +kernel
theorem dL_told_39 : decode cL_told 39 = .ok (.if_icmp .ge 40, 3) := by decide +kernel
theorem dL_told_42 : decode cL_told 42 = .ok (.iconst 0, 1) := by decide +kernel
theorem dL_told_43 : decode cL_told 43 = .ok (.istore 4, 2) := by decide +kernel
theorem dL_told_45 : decode cL_told 45 = .ok (.iload 4, 2) := by decide +kernel
theorem dL_told_47 : decode cL_told 47 = .ok (.bipush 6, 2) := by decide +kernel
theorem dL_told_49 : decode cL_told 49 = .ok (.if_icmp .ge 24, 3) := by decide +kernel
theorem dL_told_52 : decode cL_told 52 = .ok (.ldc2_w 10, 3) := by decide +kernel
theorem dL_told_55 : decode cL_told 55 = .ok (.lload_n 1, 1) := by decide +kernel
theorem dL_told_56 : decode cL_told 56 = .ok (.lmul, 1) := by decide +kernel
theorem dL_told_57 : decode cL_told 57 = .ok (.aload_n 0, 1) := by decide +kernel
theorem dL_told_58 : decode cL_told 58 = .ok (.iload_n 3, 1) := by decide +kernel
theorem dL_told_59 : decode cL_told 59 = .ok (.iload 4, 2) := by decide +kernel
theorem dL_told_61 : decode cL_told 61 = .ok (.invokevirtual 18, 3) := by decide +kernel
theorem dL_told_64 : decode cL_told 64 = .ok (.i2l, 1) := by decide +kernel
theorem dL_told_65 : decode cL_told 65 = .ok (.ladd, 1) := by decide +kernel
theorem dL_told_66 : decode cL_told 66 = .ok (.lstore_n 1, 1) := by decide +kernel
theorem dL_told_67 : decode cL_told 67 = .ok (.iinc 4 1, 3) := by decide +kernel
theorem dL_told_70 : decode cL_told 70 = .ok (.goto (-25), 3) := by decide +kernel
theorem dL_told_73 : decode cL_told 73 = .ok (.iinc 3 1, 3) := by decide +kernel
theorem dL_told_76 : decode cL_told 76 = .ok (.goto (-43), 3) := by decide +kernel
theorem dL_told_79 : decode cL_told 79 = .ok (.iconst 0, 1) := by decide +kernel
theorem dL_told_80 : decode cL_told 80 = .ok (.istore_n 3, 1) := by decide +kernel
theorem dL_told_81 : decode cL_told 81 = .ok (.iload_n 3, 1) := by decide +kernel
theorem dL_told_82 : decode cL_told 82 = .ok (.aload_n 0, 1) := by decide +kernel
theorem dL_told_83 : decode cL_told 83 = .ok (.iconst 3, 1) := by decide +kernel
theorem dL_told_84 : decode cL_told 84 = .ok (.invokevirtual 12, 3) := by decide +kernel
theorem dL_told_87 : decode cL_told 87 = .ok (.if_icmp .ge 40, 3) := by decide +kernel
theorem dL_told_90 : decode cL_told 90 = .ok (.iconst 0, 1) := by decide +kernel
theorem dL_told_91 : decode cL_told 91 = .ok (.istore 4, 2) := by decide +kernel
theorem dL_told_93 : decode cL_told 93 = .ok (.iload 4, 2) := by decide +kernel
theorem dL_told_95 : decode cL_told 95 = .ok (.bipush 13, 2) := by decide +kernel
theorem dL_told_97 : decode cL_told 97 = .ok (.if_icmp .ge 24, 3) := by decide +kernel
theorem dL_told_100 : decode cL_told 100 = .ok (.ldc2_w 10, 3) := by decide +kernel
theorem dL_told_103 : decode cL_told 103 = .ok (.lload_n 1, 1) := by decide +kernel
theorem dL_told_104 : decode cL_told 104 = .ok (.lmul, 1) := by decide +kernel
theorem dL_told_105 : decode cL_told 105 = .ok (.aload_n 0, 1) := by decide +kernel
theorem dL_told_106 : decode cL_told 106 = .ok (.iload_n 3, 1) := by decide +kernel
theorem dL_told_107 : decode cL_told 107 = .ok (.iload 4, 2) := by decide +kernel
theorem dL_told_109 : decode cL_told 109 = .ok (.invokevirtual 22, 3) := by decide +kernel
theorem dL_told_112 : decode cL_told 112 = .ok (.i2l, 1) := by decide +kernel
theorem dL_told_113 : decode cL_told 113 = .ok (.ladd, 1) := by decide +kernel
theorem dL_told_114 : decode cL_told 114 = .ok (.lstore_n 1, 1) := by decide +kernel
theorem dL_told_115 : decode cL_told 115 = .ok (.iinc 4 1, 3) := by decide +kernel
theorem dL_told_118 : decode cL_told 118 = .ok (.goto (-25), 3) := by decide +kernel
theorem dL_told_121 : decode cL_told 121 = .ok (.iinc 3 1, 3) := by decide +kernel
theorem dL_told_124 : decode cL_told 124 = .ok (.goto (-43), 3) := by decide +kernel
theorem dL_told_127 : decode cL_told 127 = .ok (.iconst 0, 1) := by decide +kernel
theorem dL_told_128 : decode cL_told 128 = .ok (.istore_n 3, 1) := by decide +kernel
theorem dL_told_129 : decode cL_told 129 = .ok (.iload_n 3, 1) := by decide +kernel
theorem dL_told_130 : decode cL_told 130 = .ok (.iconst 3, 1) := by decide +kernel
theorem dL_told_131 : decode cL_told 131 = .ok (.if_icmp .ge 35, 3) := by decide +kernel
theorem dL_told_134 : decode cL_told 134 = .ok (.ldc2_w 10, 3) := by decide +kernel
theorem dL_told_137 : decode cL_told 137 = .ok (.ldc2_w 10, 3) := by decide +kernel
theorem dL_told_140 : decode cL_told 140 = .ok (.lload_n 1, 1) := by decide +kernel
theorem dL_told_141 : decode cL_told 141 = .ok (.lmul, 1) := by decide +kernel
theorem dL_told_142 : decode cL_told 142 = .ok (.aload_n 0, 1) := by decide +kernel
theorem dL_told_143 : decode cL_told 143 = .ok (.iload_n 3, 1) := by decide +kernel
theorem dL_told_144 : decode cL_told 144 = .ok (.iconst 0, 1) := by decide +kernel
