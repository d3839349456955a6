theorem dX5_assign_1 : decode cX5_assign 1 = .ok (.getfield 30, 3) := by decide +kernel
theorem dX5_assign_4 : decode cX5_assign 4 = .ok (.aload_n 0, 1) := by decide +kernel
theorem dX5_assign_5 : decode cX5_assign 5 = .ok (.getfield 10, 3) := by decide +kernel
theorem dX5_assign_8 : decode cX5_assign 8 = .ok (.invokevirtual 41, 3) := by decide +kernel
theorem dX5_assign_11 : decode cX5_assign 11 = .ok (.aload_n 0, 1) := by decide +kernel
theorem dX5_assign_12 : decode cX5_assign 12 = .ok (.getfield 30, 3) := by decide +kernel
theorem dX5_assign_15 : decode cX5_assign 15 = .ok (.aload_n 0, 1) := by decide +kernel
theorem dX5_assign_16 : decode cX5_assign 16 = .ok (.getfield 10, 3) := by decide +kernel
theorem dX5_assign_19 : decode cX5_assign 19 = .ok (.invokevirtual 67, 3) := by decide +kernel
theorem dX5_assign_22 : decode cX5_assign 22 = .ok (.invokevirtual 49, 3) := by decide +kernel
theorem dX5_assign_25 : decode cX5_assign 25 = .ok (.ireturn, 1) := by decide +kernel
theorem dX5_delay_0 : decode cX5_delay 0 = .ok (.aload_n 0, 1) := by decide +kernel
theorem dX5_delay_1 : decode cX5_delay 1 = .ok (.getfield 30, 3) := by decide +kernel
theorem dX5_delay_4 : decode cX5_delay 4 = .ok (.aload_n 0, 1) := by decide +kernel
theorem dX5_delay_5 : decode cX5_delay 5 = .ok (.getfield 10, 3) := by decide +kernel
theorem dX5_delay_8 : decode cX5_delay 8 = .ok (.invokevirtual 41, 3) := by decide +kernel
theorem dX5_delay_11 : decode cX5_delay 11 = .ok (.aload_n 0, 1) := by decide +kernel
theorem dX5_delay_12 : decode cX5_delay 12 = .ok (.getfield 30, 3) := by decide +kernel
theorem dX5_delay_15 : decode cX5_delay 15 = .ok (.aload_n 0, 1) := by decide +kernel
theorem dX5_delay_16 : decode cX5_delay 16 = .ok (.getfield 10, 3) := by decide +kernel
theorem dX5_delay_19 : decode cX5_delay 19 = .ok (.iload_n 1, 1) := by decide +kernel
theorem dX5_delay_20 : decode cX5_delay 20 = .ok (.iload_n 2, 1) := by decide +kernel
theorem dX5_delay_21 : decode cX5_delay 21 = .ok (.invokevirtual 71, 3) := by decide +kernel
theorem dX5_delay_24 : decode cX5_delay 24 = .ok (.invokevirtual 49, 3) := by decide +kernel
theorem dX5_delay_27 : decode cX5_delay 27 = .ok (.ireturn, 1) := by decide +kernel
theorem dX5_callOff_0 : decode cX5_callOff 0 = .ok (.aload_n 0, 1) := by decide +kernel
theorem dX5_callOff_1 : decode cX5_callOff 1 = .ok (.getfield 30, 3) := by decide +kernel
theorem dX5_callOff_4 : decode cX5_callOff 4 = .ok (.aload_n 0, 1) := by decide +kernel
theorem dX5_callOff_5 : decode cX5_callOff 5 = .ok (.getfield 10, 3) := by decide +kernel
theorem dX5_callOff_8 : decode cX5_callOff 8 = .ok (.invokevirtual 41, 3) := by decide +kernel
theorem dX5_callOff_11 : decode cX5_callOff 11 = .ok (.aload_n 0, 1) := by decide +kernel
theorem dX5_callOff_12 : decode cX5_callOff 12 = .ok (.getfield 30, 3) := by decide +kernel
theorem dX5_callOff_15 : decode cX5_callOff 15 = .ok (.aload_n 0, 1) := by decide +kernel
theorem dX5_callOff_16 : decode cX5_callOff 16 = .ok (.getfield 10, 3) := by decide +kernel
theorem dX5_callOff_19 : decode cX5_callOff 19 = .ok (.iload_n 1, 1) := by decide +kernel
theorem dX5_callOff_20 : decode cX5_callOff 20 = .ok (.invokevirtual 74, 3) := by decide +kernel
theorem dX5_callOff_23 : decode cX5_callOff 23 = .ok (.invokevirtual 49, 3) := by decide +kernel
theorem dX5_callOff_26 : decode cX5_callOff 26 = .ok (.ireturn, 1) := by decide +kernel
theorem dX5_pass_0 : decode cX5_pass 0 = .ok (.aload_n 0, 1) := by decide +kernel
theorem dX5_pass_1 : decode cX5_pass 1 = .ok (.getfield 30, 3) := by decide +kernel
theorem dX5_pass_4 : decode cX5_pass 4 = .ok (.aload_n 0, 1) := by decide +kernel
theorem dX5_pass_5 : decode cX5_pass 5 = .ok (.getfield 10, 3) := by decide +kernel
theorem dX5_pass_8 : decode cX5_pass 8 = .ok (.invokevirtual 41, 3) := by decide +kernel
theorem dX5_pass_11 : decode cX5_pass 11 = .ok (.aload_n 0, 1) := by decide +kernel
theorem dX5_pass_12 : decode cX5_pass 12 = .ok (.getfield 30, 3) := by decide +kernel
theorem dX5_pass_15 : decode cX5_pass 15 = .ok (.aload_n 0, 1) := by decide +kernel
theorem dX5_pass_16 : decode cX5_pass 16 = .ok (.getfield 10, 3) := by decide +kernel
theorem dX5_pass_19 : decode cX5_pass 19 = .ok (.iload_n 1, 1) := by decide +kernel
theorem dX5_pass_20 : decode cX5_pass 20 = .ok (.invokevirtual 77, 3) := by decide +kernel
theorem dX5_pass_23 : decode cX5_pass 23 = .ok (.invokevirtual 49, 3) := by decide +kernel
theorem dX5_pass_26 : decode cX5_pass 26 = .ok (.ireturn, 1) := by decide +kernel
theorem dX5_of_0 : decode cX5_of 0 = .ok (.aload_n 0, 1) := by decide +kernel
theorem dX5_of_1 : decode cX5_of 1 = .ok (.getfield 10, 3) := by decide +kernel
theorem dX5_of_4 : decode cX5_of 4 = .ok (.iload_n 1, 1) := by decide +kernel
theorem dX5_of_5 : decode cX5_of 5 = .ok (.invokevirtual 80, 3) := by decide +kernel
theorem dX5_of_8 : decode cX5_of 8 = .ok (.ifCond .ne 5, 3) := by decide +kernel
theorem dX5_of_11 : decode cX5_of 11 = .ok (.iconst (-1), 1) := by decide +kernel
theorem dX5_of_12 : decode cX5_of 12 = .ok (.ireturn, 1) := by decide +kernel
theorem dX5_of_13 : decode cX5_of 13 = .ok (.aload_n 0, 1) := by decide +kernel
theorem dX5_of_14 : decode cX5_of 14 = .ok (.getfield 10, 3) := by decide +kernel
theorem dX5_of_17 : decode cX5_of 17 = .ok (.getfield 84, 3) := by decide +kernel
theorem dX5_of_20 : decode cX5_of 20 = .ok (.iload_n 1, 1) := by decide +kernel
theorem dX5_of_21 : decode cX5_of 21 = .ok (.aaload, 1) := by decide +kernel
theorem dX5_of_22 : decode cX5_of 22 = .ok (.iload_n 2, 1) := by decide +kernel
theorem dX5_of_23 : decode cX5_of 23 = .ok (.aload_n 0, 1) := by decide +kernel
theorem dX5_of_24 : decode cX5_of 24 = .ok (.getfield 10, 3) := by decide +kernel
theorem dX5_of_27 : decode cX5_of 27 = .ok (.getfield 88, 3) := by decide +kernel
theorem dX5_of_30 : decode cX5_of 30 = .ok (.iconst 1, 1) := by decide +kernel
theorem dX5_of_31 : decode cX5_of 31 = .ok (.iaload, 1) := by decide +kernel
theorem dX5_of_32 : decode cX5_of 32 = .ok (.invokevirtual 92, 3) := by decide +kernel
theorem dX5_of_35 : decode cX5_of 35 = .ok (.ireturn, 1) := by decide +kernel
theorem dX5_ofJob_0 : decode cX5_ofJob 0 = .ok (.aload_n 0, 1) := by decide +kernel
theorem dX5_ofJob_1 : decode cX5_ofJob 1 = .ok (.getfield 10, 3) := by decide +kernel
theorem dX5_ofJob_4 : decode cX5_ofJob 4 = .ok (.iload_n 1, 1) := by decide +kernel
theorem dX5_ofJob_5 : decode cX5_ofJob 5 = .ok (.invokevirtual 97, 3) := by decide +kernel
theorem dX5_ofJob_8 : decode cX5_ofJob 8 = .ok (.ifCond .ne 5, 3) := by decide +kernel
theorem dX5_ofJob_11 : decode cX5_ofJob 11 = .ok (.iconst (-1), 1) := by decide +kernel
theorem dX5_ofJob_12 : decode cX5_ofJob 12 = .ok (.ireturn, 1) := by decide +kernel
theorem dX5_ofJob_13 : decode cX5_ofJob 13 = .ok (.aload_n 0, 1) := by decide +kernel
theorem dX5_ofJob_14 : decode cX5_ofJob 14 = .ok (.getfield 10, 3) := by decide +kernel
theorem dX5_ofJob_17 : decode cX5_ofJob 17 = .ok (.aload_n 0, 1) := by decide +kernel
theorem dX5_ofJob_18 : decode cX5_ofJob 18 = .ok (.getfield 10, 3) := by decide +kernel
theorem dX5_ofJob_21 : decode cX5_ofJob 21 = .ok (.getfield 100, 3) := by decide +kernel
theorem dX5_ofJob_24 : decode cX5_ofJob 24 = .ok (.iload_n 1, 1) := by decide +kernel
theorem dX5_ofJob_25 : decode cX5_ofJob 25 = .ok (.aaload, 1) := by decide +kernel
theorem dX5_ofJob_26 : decode cX5_ofJob 26 = .ok (.iload_n 2, 1) := by decide +kernel
theorem dX5_ofJob_27 : decode cX5_ofJob 27 = .ok (.invokevirtual 104, 3) := by decide +kernel
theorem dX5_ofJob_30 : decode cX5_ofJob 30 = .ok (.ireturn, 1) := by decide +kernel
theorem dX5_waiting_0 : decode cX5_waiting 0 = .ok (.aload_n 0, 1) := by decide +kernel
theorem dX5_waiting_1 : decode cX5_waiting 1 = .ok (.getfield 10, 3) := by decide +kernel
theorem dX5_waiting_4 : decode cX5_waiting 4 = .ok (.iload_n 1, 1) := by decide +kernel
theorem dX5_waiting_5 : decode cX5_waiting 5 = .ok (.invokevirtual 108, 3) := by decide +kernel
theorem dX5_waiting_8 : decode cX5_waiting 8 = .ok (.ireturn, 1) := by decide +kernel
theorem dX5_straps_0 : decode cX5_straps 0 = .ok (.iload_n 1, 1) := by decide +kernel
theorem dX5_straps_1 : decode cX5_straps 1 = .ok (.invokestatic 111, 3) := by decide +kernel
theorem dX5_straps_4 : decode cX5_straps 4 = .ok (.ifCond .ne 5, 3) := by decide +kernel
theorem dX5_straps_7 : decode cX5_straps 7 = .ok (.iconst (-1), 1) := by decide +kernel
theorem dX5_straps_8 : decode cX5_straps 8 = .ok (.ireturn, 1) := by decide +kernel
theorem dX5_straps_9 : decode cX5_straps 9 = .ok (.iload_n 2, 1) := by decide +kernel
theorem dX5_straps_10 : decode cX5_straps 10 = .ok (.lookupswitch 46 #[(0, 26), (1, 36)], 26) := by decide +kernel
theorem dX5_straps_36 : decode cX5_straps 36 = .ok (.aload_n 0, 1) := by decide +kernel
theorem dX5_straps_37 : decode cX5_straps 37 = .ok (.getfield 10, 3) := by decide +kernel
theorem dX5_straps_40 : decode cX5_straps 40 = .ok (.getfield 114, 3) := by decide +kernel
theorem dX5_straps_43 : decode cX5_straps 43 = .ok (.iload_n 1, 1) := by decide +kernel
theorem dX5_straps_44 : decode cX5_straps 44 = .ok (.iaload, 1) := by decide +kernel
theorem dX5_straps_45 : decode cX5_straps 45 = .ok (.ireturn, 1) := by decide +kernel
theorem dX5_straps_46 : decode cX5_straps 46 = .ok (.aload_n 0, 1) := by decide +kernel
theorem dX5_straps_47 : decode cX5_straps 47 = .ok (.getfield 10, 3) := by decide +kernel
theorem dX5_straps_50 : decode cX5_straps 50 = .ok (.getfield 117, 3) := by decide +kernel
theorem dX5_straps_53 : decode cX5_straps 53 = .ok (.iload_n 1, 1) := by decide +kernel
theorem dX5_straps_54 : decode cX5_straps 54 = .ok (.iaload, 1) := by decide +kernel
theorem dX5_straps_55 : decode cX5_straps 55 = .ok (.ireturn, 1) := by decide +kernel
theorem dX5_straps_56 : decode cX5_straps 56 = .ok (.bipush (-2), 2) := by decide +kernel
theorem dX5_straps_58 : decode cX5_straps 58 = .ok (.ireturn, 1) := by decide +kernel
theorem dX5_count_0 : decode cX5_count 0 = .ok (.iload_n 1, 1) := by decide +kernel
theorem dX5_count_1 : decode cX5_count 1 = .ok (.lookupswitch 43 #[(14, 27), (15, 35)], 27) := by decide +kernel
theorem dX5_count_28 : decode cX5_count 28 = .ok (.aload_n 0, 1) := by decide +kernel
theorem dX5_count_29 : decode cX5_count 29 = .ok (.getfield 37, 3) := by decide +kernel
theorem dX5_count_32 : decode cX5_count 32 = .ok (.getfield 120, 3) := by decide +kernel
theorem dX5_count_35 : decode cX5_count 35 = .ok (.ireturn, 1) := by decide +kernel
theorem dX5_count_36 : decode cX5_count 36 = .ok (.aload_n 0, 1) := by decide +kernel
theorem dX5_count_37 : decode cX5_count 37 = .ok (.getfield 30, 3) := by decide +kernel
theorem dX5_count_40 : decode cX5_count 40 = .ok (.getfield 124, 3) := by decide +kernel
theorem dX5_count_43 : decode cX5_count 43 = .ok (.ireturn, 1) := by decide +kernel
theorem dX5_count_44 : decode cX5_count 44 = .ok (.aload_n 0, 1) := by decide +kernel
theorem dX5_count_45 : decode cX5_count 45 = .ok (.getfield 10, 3) := by decide +kernel
theorem dX5_count_48 : decode cX5_count 48 = .ok (.iload_n 1, 1) := by decide +kernel
theorem dX5_count_49 : decode cX5_count 49 = .ok (.invokevirtual 127, 3) := by decide +kernel
theorem dX5_count_52 : decode cX5_count 52 = .ok (.ireturn, 1) := by decide +kernel
theorem dX5_why_0 : decode cX5_why 0 = .ok (.aload_n 0, 1) := by decide +kernel
theorem dX5_why_1 : decode cX5_why 1 = .ok (.getfield 10, 3) := by decide +kernel
theorem dX5_why_4 : decode cX5_why 4 = .ok (.iload_n 1, 1) := by decide +kernel
theorem dX5_why_5 : decode cX5_why 5 = .ok (.iload_n 2, 1) := by decide +kernel
theorem dX5_why_6 : decode cX5_why 6 = .ok (.iload_n 3, 1) := by decide +kernel
theorem dX5_why_7 : decode cX5_why 7 = .ok (.invokevirtual 130, 3) := by decide +kernel
theorem dX5_why_10 : decode cX5_why 10 = .ok (.ireturn, 1) := by decide +kernel
theorem dX5_crew_0 : decode cX5_crew 0 = .ok (.aload_n 0, 1) := by decide +kernel
theorem dX5_crew_1 : decode cX5_crew 1 = .ok (.getfield 10, 3) := by decide +kernel
theorem dX5_crew_4 : decode cX5_crew 4 = .ok (.iload_n 1, 1) := by decide +kernel
theorem dX5_crew_5 : decode cX5_crew 5 = .ok (.invokevirtual 97, 3) := by decide +kernel
theorem dX5_crew_8 : decode cX5_crew 8 = .ok (.ifCond .ne 5, 3) := by decide +kernel
theorem dX5_crew_11 : decode cX5_crew 11 = .ok (.iconst (-1), 1) := by decide +kernel
theorem dX5_crew_12 : decode cX5_crew 12 = .ok (.ireturn, 1) := by decide +kernel
theorem dX5_crew_13 : decode cX5_crew 13 = .ok (.iload_n 2, 1) := by decide +kernel
theorem dX5_crew_14 : decode cX5_crew 14 = .ok (.invokestatic 133, 3) := by decide +kernel
theorem dX5_crew_17 : decode cX5_crew 17 = .ok (.ifCond .ne 6, 3) := by decide +kernel
theorem dX5_crew_20 : decode cX5_crew 20 = .ok (.bipush (-2), 2) := by decide +kernel
theorem dX5_crew_22 : decode cX5_crew 22 = .ok (.ireturn, 1) := by decide +kernel
theorem dX5_crew_23 : decode cX5_crew 23 = .ok (.aload_n 0, 1) := by decide +kernel
theorem dX5_crew_24 : decode cX5_crew 24 = .ok (.getfield 10, 3) := by decide +kernel
theorem dX5_crew_27 : decode cX5_crew 27 = .ok (.getfield 100, 3) := by decide +kernel
theorem dX5_crew_30 : decode cX5_crew 30 = .ok (.iload_n 1, 1) := by decide +kernel
theorem dX5_crew_31 : decode cX5_crew 31 = .ok (.aaload, 1) := by decide +kernel
theorem dX5_crew_32 : decode cX5_crew 32 = .ok (.getfield 136, 3) := by decide +kernel
theorem dX5_crew_35 : decode cX5_crew 35 = .ok (.ifCond .eq 6, 3) := by decide +kernel
theorem dX5_crew_38 : decode cX5_crew 38 = .ok (.bipush (-5), 2) := by decide +kernel
theorem dX5_crew_40 : decode cX5_crew 40 = .ok (.ireturn, 1) := by decide +kernel
theorem dX5_crew_41 : decode cX5_crew 41 = .ok (.aload_n 0, 1) := by decide +kernel
theorem dX5_crew_42 : decode cX5_crew 42 = .ok (.getfield 10, 3) := by decide +kernel
theorem dX5_crew_45 : decode cX5_crew 45 = .ok (.aload_n 0, 1) := by decide +kernel
theorem dX5_crew_46 : decode cX5_crew 46 = .ok (.getfield 10, 3) := by decide +kernel
theorem dX5_crew_49 : decode cX5_crew 49 = .ok (.getfield 100, 3) := by decide +kernel
theorem dX5_crew_52 : decode cX5_crew 52 = .ok (.iload_n 1, 1) := by decide +kernel
theorem dX5_crew_53 : decode cX5_crew 53 = .ok (.aaload, 1) := by decide +kernel
theorem dX5_crew_54 : decode cX5_crew 54 = .ok (.iload_n 2, 1) := by decide +kernel
theorem dX5_crew_55 : decode cX5_crew 55 = .ok (.invokevirtual 141, 3) := by decide +kernel
theorem dX5_crew_58 : decode cX5_crew 58 = .ok (.ireturn, 1) := by decide +kernel
theorem dX5_bestStraps_0 : decode cX5_bestStraps 0 = .ok (.aload_n 0, 1) := by decide +kernel
theorem dX5_bestStraps_1 : decode cX5_bestStraps 1 = .ok (.getfield 10, 3) := by decide +kernel
theorem dX5_bestStraps_4 : decode cX5_bestStraps 4 = .ok (.iload_n 1, 1) := by decide +kernel
theorem dX5_bestStraps_5 : decode cX5_bestStraps 5 = .ok (.invokevirtual 97, 3) := by decide +kernel
theorem dX5_bestStraps_8 : decode cX5_bestStraps 8 = .ok (.ifCond .ne 5, 3) := by decide +kernel
theorem dX5_bestStraps_11 : decode cX5_bestStraps 11 = .ok (.iconst (-1), 1) := by decide +kernel
theorem dX5_bestStraps_12 : decode cX5_bestStraps 12 = .ok (.ireturn, 1) := by decide +kernel
theorem dX5_bestStraps_13 : decode cX5_bestStraps 13 = .ok (.aload_n 0, 1) := by decide +kernel
theorem dX5_bestStraps_14 : decode cX5_bestStraps 14 = .ok (.getfield 10, 3) := by decide +kernel
theorem dX5_bestStraps_17 : decode cX5_bestStraps 17 = .ok (.getfield 100, 3) := by decide +kernel
theorem dX5_bestStraps_20 : decode cX5_bestStraps 20 = .ok (.iload_n 1, 1) := by decide +kernel
theorem dX5_bestStraps_21 : decode cX5_bestStraps 21 = .ok (.aaload, 1) := by decide +kernel
theorem dX5_bestStraps_22 : decode cX5_bestStraps 22 = .ok (.getfield 136, 3) := by decide +kernel
theorem dX5_bestStraps_25 : decode cX5_bestStraps 25 = .ok (.ifCond .eq 6, 3) := by decide +kernel
theorem dX5_bestStraps_28 : decode cX5_bestStraps 28 = .ok (.bipush (-5), 2) := by decide +kernel
theorem dX5_bestStraps_30 : decode cX5_bestStraps 30 = .ok (.ireturn, 1) := by decide +kernel
theorem dX5_bestStraps_31 : decode cX5_bestStraps 31 = .ok (.aload_n 0, 1) := by decide +kernel
theorem dX5_bestStraps_32 : decode cX5_bestStraps 32 = .ok (.getfield 10, 3) := by decide +kernel
theorem dX5_bestStraps_35 : decode cX5_bestStraps 35 = .ok (.aload_n 0, 1) := by decide +kernel
theorem dX5_bestStraps_36 : decode cX5_bestStraps 36 = .ok (.getfield 10, 3) := by decide +kernel
theorem dX5_bestStraps_39 : decode cX5_bestStraps 39 = .ok (.getfield 100, 3) := by decide +kernel
theorem dX5_bestStraps_42 : decode cX5_bestStraps 42 = .ok (.iload_n 1, 1) := by decide +kernel
theorem dX5_bestStraps_43 : decode cX5_bestStraps 43 = .ok (.aaload, 1) := by decide +kernel
theorem dX5_bestStraps_44 : decode cX5_bestStraps 44 = .ok (.invokevirtual 144, 3) := by decide +kernel
theorem dX5_bestStraps_47 : decode cX5_bestStraps 47 = .ok (.ireturn, 1) := by decide +kernel
theorem dX5_doneIn_0 : decode cX5_doneIn 0 = .ok (.aload_n 0, 1) := by decide +kernel
theorem dX5_doneIn_1 : decode cX5_doneIn 1 = .ok (.getfield 10, 3) := by decide +kernel
theorem dX5_doneIn_4 : decode cX5_doneIn 4 = .ok (.iload_n 1, 1) := by decide +kernel
theorem dX5_doneIn_5 : decode cX5_doneIn 5 = .ok (.invokevirtual 97, 3) := by decide +kernel
theorem dX5_doneIn_8 : decode cX5_doneIn 8 = .ok (.ifCond .ne 5, 3) := by decide +kernel
theorem dX5_doneIn_11 : decode cX5_doneIn 11 = .ok (.iconst (-1), 1) := by decide +kernel
theorem dX5_doneIn_12 : decode cX5_doneIn 12 = .ok (.ireturn, 1) := by decide +kernel
theorem dX5_doneIn_13 : decode cX5_doneIn 13 = .ok (.aload_n 0, 1) := by decide +kernel
theorem dX5_doneIn_14 : decode cX5_doneIn 14 = .ok (.getfield 10, 3) := by decide +kernel
theorem dX5_doneIn_17 : decode cX5_doneIn 17 = .ok (.getfield 100, 3) := by decide +kernel
theorem dX5_doneIn_20 : decode cX5_doneIn 20 = .ok (.iload_n 1, 1) := by decide +kernel
theorem dX5_doneIn_21 : decode cX5_doneIn 21 = .ok (.aaload, 1) := by decide +kernel
theorem dX5_doneIn_22 : decode cX5_doneIn 22 = .ok (.getfield 136, 3) := by decide +kernel
theorem dX5_doneIn_25 : decode cX5_doneIn 25 = .ok (.iconst 1, 1) := by decide +kernel
theorem dX5_doneIn_26 : decode cX5_doneIn 26 = .ok (.if_icmp .eq 6, 3) := by decide +kernel
theorem dX5_doneIn_29 : decode cX5_doneIn 29 = .ok (.bipush (-5), 2) := by decide +kernel
theorem dX5_doneIn_31 : decode cX5_doneIn 31 = .ok (.ireturn, 1) := by decide +kernel
theorem dX5_doneIn_32 : decode cX5_doneIn 32 = .ok (.aload_n 0, 1) := by decide +kernel
theorem dX5_doneIn_33 : decode cX5_doneIn 33 = .ok (.getfield 16, 3) := by decide +kernel
theorem dX5_doneIn_36 : decode cX5_doneIn 36 = .ok (.aload_n 0, 1) := by decide +kernel
theorem dX5_doneIn_37 : decode cX5_doneIn 37 = .ok (.getfield 10, 3) := by decide +kernel
theorem dX5_doneIn_40 : decode cX5_doneIn 40 = .ok (.invokevirtual 148, 3) := by decide +kernel
theorem dX5_doneIn_43 : decode cX5_doneIn 43 = .ok (.iconst 1, 1) := by decide +kernel
theorem dX5_doneIn_44 : decode cX5_doneIn 44 = .ok (.istore_n 2, 1) := by decide +kernel
theorem dX5_doneIn_45 : decode cX5_doneIn 45 = .ok (.iload_n 2, 1) := by decide +kernel
theorem dX5_doneIn_46 : decode cX5_doneIn 46 = .ok (.sipush 500, 3) := by decide +kernel
theorem dX5_doneIn_49 : decode cX5_doneIn 49 = .ok (.if_icmp .gt 30, 3) := by decide +kernel
theorem dX5_doneIn_52 : decode cX5_doneIn 52 = .ok (.aload_n 0, 1) := by decide +kernel
theorem dX5_doneIn_53 : decode cX5_doneIn 53 = .ok (.getfield 16, 3) := by decide +kernel
theorem dX5_doneIn_56 : decode cX5_doneIn 56 = .ok (.aload_n 0, 1) := by decide +kernel
theorem dX5_doneIn_57 : decode cX5_doneIn 57 = .ok (.getfield 16, 3) := by decide +kernel
theorem dX5_doneIn_60 : decode cX5_doneIn 60 = .ok (.getfield 100, 3) := by decide +kernel
theorem dX5_doneIn_63 : decode cX5_doneIn 63 = .ok (.iload_n 1, 1) := by decide +kernel
theorem dX5_doneIn_64 : decode cX5_doneIn 64 = .ok (.aaload, 1) := by decide +kernel
theorem dX5_doneIn_65 : decode cX5_doneIn 65 = .ok (.invokevirtual 151, 3) := by decide +kernel
theorem dX5_doneIn_68 : decode cX5_doneIn 68 = .ok (.ifCond .eq 5, 3) := by decide +kernel
theorem dX5_doneIn_71 : decode cX5_doneIn 71 = .ok (.iload_n 2, 1) := by decide +kernel
theorem dX5_doneIn_72 : decode cX5_doneIn 72 = .ok (.ireturn, 1) := by decide +kernel
theorem dX5_doneIn_73 : decode cX5_doneIn 73 = .ok (.iinc 2 1, 3) := by decide +kernel
theorem dX5_doneIn_76 : decode cX5_doneIn 76 = .ok (.goto (-31), 3) := by decide +kernel
theorem dX5_doneIn_79 : decode cX5_doneIn 79 = .ok (.bipush (-6), 2) := by decide +kernel
theorem dX5_doneIn_81 : decode cX5_doneIn 81 = .ok (.ireturn, 1) := by decide +kernel
theorem dX5_ifAssigned_0 : decode cX5_ifAssigned 0 = .ok (.aload_n 0, 1) := by decide +kernel
theorem dX5_ifAssigned_1 : decode cX5_ifAssigned 1 = .ok (.getfield 16, 3) := by decide +kernel
theorem dX5_ifAssigned_4 : decode cX5_ifAssigned 4 = .ok (.aload_n 0, 1) := by decide +kernel
theorem dX5_ifAssigned_5 : decode cX5_ifAssigned 5 = .ok (.getfield 10, 3) := by decide +kernel
theorem dX5_ifAssigned_8 : decode cX5_ifAssigned 8 = .ok (.invokevirtual 148, 3) := by decide +kernel
theorem dX5_ifAssigned_11 : decode cX5_ifAssigned 11 = .ok (.aload_n 0, 1) := by decide +kernel
theorem dX5_ifAssigned_12 : decode cX5_ifAssigned 12 = .ok (.getfield 16, 3) := by decide +kernel
theorem dX5_ifAssigned_15 : decode cX5_ifAssigned 15 = .ok (.invokevirtual 67, 3) := by decide +kernel
theorem dX5_ifAssigned_18 : decode cX5_ifAssigned 18 = .ok (.ireturn, 1) := by decide +kernel
theorem dX5_put_0 : decode cX5_put 0 = .ok (.aload_n 0, 1) := by decide +kernel
theorem dX5_put_1 : decode cX5_put 1 = .ok (.getfield 37, 3) := by decide +kernel
theorem dX5_put_4 : decode cX5_put 4 = .ok (.lload_n 1, 1) := by decide +kernel
theorem dX5_put_5 : decode cX5_put 5 = .ok (.invokevirtual 155, 3) := by decide +kernel
theorem dX5_put_8 : decode cX5_put 8 = .ok (.ireturn, 1) := by decide +kernel
theorem dX5_wipe_0 : decode cX5_wipe 0 = .ok (.aload_n 0, 1) := by decide +kernel
theorem dX5_wipe_1 : decode cX5_wipe 1 = .ok (.getfield 37, 3) := by decide +kernel
theorem dX5_wipe_4 : decode cX5_wipe 4 = .ok (.invokevirtual 159, 3) := by decide +kernel
theorem dX5_wipe_7 : decode cX5_wipe 7 = .ok (.ireturn, 1) := by decide +kernel
theorem dX5_fault_0 : decode cX5_fault 0 = .ok (.aload_n 0, 1) := by decide +kernel
theorem dX5_fault_1 : decode cX5_fault 1 = .ok (.getfield 37, 3) := by decide +kernel
theorem dX5_fault_4 : decode cX5_fault 4 = .ok (.invokevirtual 162, 3) := by decide +kernel
theorem dX5_fault_7 : decode cX5_fault 7 = .ok (.ireturn, 1) := by decide +kernel
theorem dX5_carryOut_0 : decode cX5_carryOut 0 = .ok (.aload_n 0, 1) := by decide +kernel
theorem dX5_carryOut_1 : decode cX5_carryOut 1 = .ok (.getfield 37, 3) := by decide +kernel
theorem dX5_carryOut_4 : decode cX5_carryOut 4 = .ok (.invokevirtual 162, 3) := by decide +kernel
theorem dX5_carryOut_7 : decode cX5_carryOut 7 = .ok (.bipush (-6), 2) := by decide +kernel
theorem dX5_carryOut_9 : decode cX5_carryOut 9 = .ok (.if_icmp .eq 6, 3) := by decide +kernel
theorem dX5_carryOut_12 : decode cX5_carryOut 12 = .ok (.bipush (-3), 2) := by decide +kernel
theorem dX5_carryOut_14 : decode cX5_carryOut 14 = .ok (.ireturn, 1) := by decide +kernel
theorem dX5_carryOut_15 : decode cX5_carryOut 15 = .ok (.aload_n 0, 1) := by decide +kernel
theorem dX5_carryOut_16 : decode cX5_carryOut 16 = .ok (.getfield 30, 3) := by decide +kernel
theorem dX5_carryOut_19 : decode cX5_carryOut 19 = .ok (.aload_n 0, 1) := by decide +kernel
theorem dX5_carryOut_20 : decode cX5_carryOut 20 = .ok (.getfield 10, 3) := by decide +kernel
theorem dX5_carryOut_23 : decode cX5_carryOut 23 = .ok (.invokevirtual 41, 3) := by decide +kernel
theorem dX5_carryOut_26 : decode cX5_carryOut 26 = .ok (.aload_n 0, 1) := by decide +kernel
theorem dX5_carryOut_27 : decode cX5_carryOut 27 = .ok (.getfield 37, 3) := by decide +kernel
theorem dX5_carryOut_30 : decode cX5_carryOut 30 = .ok (.invokevirtual 165, 3) := by decide +kernel
theorem dX5_carryOut_33 : decode cX5_carryOut 33 = .ok (.iconst 0, 1) := by decide +kernel
theorem dX5_carryOut_34 : decode cX5_carryOut 34 = .ok (.istore_n 1, 1) := by decide +kernel
theorem dX5_carryOut_35 : decode cX5_carryOut 35 = .ok (.iload_n 1, 1) := by decide +kernel
theorem dX5_carryOut_36 : decode cX5_carryOut 36 = .ok (.bipush 80, 2) := by decide +kernel
theorem dX5_carryOut_38 : decode cX5_carryOut 38 = .ok (.if_icmp .gt 36, 3) := by decide +kernel
theorem dX5_carryOut_41 : decode cX5_carryOut 41 = .ok (.aload_n 0, 1) := by decide +kernel
theorem dX5_carryOut_42 : decode cX5_carryOut 42 = .ok (.getfield 37, 3) := by decide +kernel
theorem dX5_carryOut_45 : decode cX5_carryOut 45 = .ok (.invokevirtual 168, 3) := by decide +kernel
theorem dX5_carryOut_48 : decode cX5_carryOut 48 = .ok (.ifCond .eq 26, 3) := by decide +kernel
theorem dX5_carryOut_51 : decode cX5_carryOut 51 = .ok (.aload_n 0, 1) := by decide +kernel
theorem dX5_carryOut_52 : decode cX5_carryOut 52 = .ok (.invokevirtual 172, 3) := by decide +kernel
theorem dX5_carryOut_55 : decode cX5_carryOut 55 = .ok (.ifCond .lt 19, 3) := by decide +kernel
theorem dX5_carryOut_58 : decode cX5_carryOut 58 = .ok (.iinc 1 1, 3) := by decide +kernel
theorem dX5_carryOut_61 : decode cX5_carryOut 61 = .ok (.aload_n 0, 1) := by decide +kernel
theorem dX5_carryOut_62 : decode cX5_carryOut 62 = .ok (.getfield 37, 3) := by decide +kernel
theorem dX5_carryOut_65 : decode cX5_carryOut 65 = .ok (.bipush 59, 2) := by decide +kernel
theorem dX5_carryOut_67 : decode cX5_carryOut 67 = .ok (.invokevirtual 175, 3) := by decide +kernel
theorem dX5_carryOut_70 : decode cX5_carryOut 70 = .ok (.pop, 1) := by decide +kernel
theorem dX5_carryOut_71 : decode cX5_carryOut 71 = .ok (.goto (-36), 3) := by decide +kernel
theorem dX5_carryOut_74 : decode cX5_carryOut 74 = .ok (.aload_n 0, 1) := by decide +kernel
theorem dX5_carryOut_75 : decode cX5_carryOut 75 = .ok (.getfield 37, 3) := by decide +kernel
theorem dX5_carryOut_78 : decode cX5_carryOut 78 = .ok (.invokevirtual 159, 3) := by decide +kernel
theorem dX5_carryOut_81 : decode cX5_carryOut 81 = .ok (.pop, 1) := by decide +kernel
theorem dX5_carryOut_82 : decode cX5_carryOut 82 = .ok (.aload_n 0, 1) := by decide +kernel
theorem dX5_carryOut_83 : decode cX5_carryOut 83 = .ok (.getfield 30, 3) := by decide +kernel
theorem dX5_carryOut_86 : decode cX5_carryOut 86 = .ok (.iload_n 1, 1) := by decide +kernel
theorem dX5_carryOut_87 : decode cX5_carryOut 87 = .ok (.invokevirtual 49, 3) := by decide +kernel
theorem dX5_carryOut_90 : decode cX5_carryOut 90 = .ok (.ireturn, 1) := by decide +kernel
theorem dX5_obeyOrder_0 : decode cX5_obeyOrder 0 = .ok (.aload_n 0, 1) := by decide +kernel
theorem dX5_obeyOrder_1 : decode cX5_obeyOrder 1 = .ok (.getfield 37, 3) := by decide +kernel
theorem dX5_obeyOrder_4 : decode cX5_obeyOrder 4 = .ok (.iconst 0, 1) := by decide +kernel
theorem dX5_obeyOrder_5 : decode cX5_obeyOrder 5 = .ok (.invokevirtual 178, 3) := by decide +kernel
theorem dX5_obeyOrder_8 : decode cX5_obeyOrder 8 = .ok (.istore_n 1, 1) := by decide +kernel
theorem dX5_obeyOrder_9 : decode cX5_obeyOrder 9 = .ok (.aload_n 0, 1) := by decide +kernel
theorem dX5_obeyOrder_10 : decode cX5_obeyOrder 10 = .ok (.getfield 37, 3) := by decide +kernel
theorem dX5_obeyOrder_13 : decode cX5_obeyOrder 13 = .ok (.getfield 181, 3) := by decide +kernel
theorem dX5_obeyOrder_16 : decode cX5_obeyOrder 16 = .ok (.tableswitch 228 97 120 #[211, 228, 228, 185, 228, 228, 162, 228, 228, 121, 228, 228, 228, 219, 228, 228, 228, 228, 228, 228, 228, 228, 112, 202], 112) := by decide +kernel
theorem dX5_obeyOrder_128 : decode cX5_obeyOrder 128 = .ok (.aload_n 0, 1) := by decide +kernel
theorem dX5_obeyOrder_129 : decode cX5_obeyOrder 129 = .ok (.getfield 10, 3) := by decide +kernel
theorem dX5_obeyOrder_132 : decode cX5_obeyOrder 132 = .ok (.iload_n 1, 1) := by decide +kernel
theorem dX5_obeyOrder_133 : decode cX5_obeyOrder 133 = .ok (.invokevirtual 53, 3) := by decide +kernel
theorem dX5_obeyOrder_136 : decode cX5_obeyOrder 136 = .ok (.ireturn, 1) := by decide +kernel
theorem dX5_obeyOrder_137 : decode cX5_obeyOrder 137 = .ok (.aload_n 0, 1) := by decide +kernel
theorem dX5_obeyOrder_138 : decode cX5_obeyOrder 138 = .ok (.getfield 10, 3) := by decide +kernel
theorem dX5_obeyOrder_141 : decode cX5_obeyOrder 141 = .ok (.iload_n 1, 1) := by decide +kernel
theorem dX5_obeyOrder_142 : decode cX5_obeyOrder 142 = .ok (.aload_n 0, 1) := by decide +kernel
theorem dX5_obeyOrder_143 : decode cX5_obeyOrder 143 = .ok (.getfield 37, 3) := by decide +kernel
theorem dX5_obeyOrder_146 : decode cX5_obeyOrder 146 = .ok (.iconst 1, 1) := by decide +kernel
theorem dX5_obeyOrder_147 : decode cX5_obeyOrder 147 = .ok (.invokevirtual 178, 3) := by decide +kernel
theorem dX5_obeyOrder_150 : decode cX5_obeyOrder 150 = .ok (.aload_n 0, 1) := by decide +kernel
theorem dX5_obeyOrder_151 : decode cX5_obeyOrder 151 = .ok (.getfield 37, 3) := by decide +kernel
theorem dX5_obeyOrder_154 : decode cX5_obeyOrder 154 = .ok (.iconst 2, 1) := by decide +kernel
theorem dX5_obeyOrder_155 : decode cX5_obeyOrder 155 = .ok (.invokevirtual 178, 3) := by decide +kernel
theorem dX5_obeyOrder_158 : decode cX5_obeyOrder 158 = .ok (.aload_n 0, 1) := by decide +kernel
theorem dX5_obeyOrder_159 : decode cX5_obeyOrder 159 = .ok (.getfield 37, 3) := by decide +kernel
theorem dX5_obeyOrder_162 : decode cX5_obeyOrder 162 = .ok (.iconst 3, 1) := by decide +kernel
theorem dX5_obeyOrder_163 : decode cX5_obeyOrder 163 = .ok (.invokevirtual 178, 3) := by decide +kernel
theorem dX5_obeyOrder_166 : decode cX5_obeyOrder 166 = .ok (.aload_n 0, 1) := by decide +kernel
theorem dX5_obeyOrder_167 : decode cX5_obeyOrder 167 = .ok (.getfield 37, 3) := by decide +kernel
theorem dX5_obeyOrder_170 : decode cX5_obeyOrder 170 = .ok (.iconst 4, 1) := by decide +kernel
theorem dX5_obeyOrder_171 : decode cX5_obeyOrder 171 = .ok (.invokevirtual 178, 3) := by decide +kernel
theorem dX5_obeyOrder_174 : decode cX5_obeyOrder 174 = .ok (.invokevirtual 59, 3) := by decide +kernel
theorem dX5_obeyOrder_177 : decode cX5_obeyOrder 177 = .ok (.ireturn, 1) := by decide +kernel
theorem dX5_obeyOrder_178 : decode cX5_obeyOrder 178 = .ok (.aload_n 0, 1) := by decide +kernel
theorem dX5_obeyOrder_179 : decode cX5_obeyOrder 179 = .ok (.getfield 10, 3) := by decide +kernel
theorem dX5_obeyOrder_182 : decode cX5_obeyOrder 182 = .ok (.iload_n 1, 1) := by decide +kernel
theorem dX5_obeyOrder_183 : decode cX5_obeyOrder 183 = .ok (.aload_n 0, 1) := by decide +kernel
theorem dX5_obeyOrder_184 : decode cX5_obeyOrder 184 = .ok (.getfield 37, 3) := by decide +kernel
theorem dX5_obeyOrder_187 : decode cX5_obeyOrder 187 = .ok (.getfield 184, 3) := by decide +kernel
theorem dX5_obeyOrder_190 : decode cX5_obeyOrder 190 = .ok (.aload_n 0, 1) := by decide +kernel
theorem dX5_obeyOrder_191 : decode cX5_obeyOrder 191 = .ok (.getfield 37, 3) := by decide +kernel
theorem dX5_obeyOrder_194 : decode cX5_obeyOrder 194 = .ok (.getfield 187, 3) := by decide +kernel
theorem dX5_obeyOrder_197 : decode cX5_obeyOrder 197 = .ok (.invokevirtual 63, 3) := by decide +kernel
theorem dX5_obeyOrder_200 : decode cX5_obeyOrder 200 = .ok (.ireturn, 1) := by decide +kernel
theorem dX5_obeyOrder_201 : decode cX5_obeyOrder 201 = .ok (.aload_n 0, 1) := by decide +kernel
theorem dX5_obeyOrder_202 : decode cX5_obeyOrder 202 = .ok (.getfield 10, 3) := by decide +kernel
theorem dX5_obeyOrder_205 : decode cX5_obeyOrder 205 = .ok (.iload_n 1, 1) := by decide +kernel
theorem dX5_obeyOrder_206 : decode cX5_obeyOrder 206 = .ok (.aload_n 0, 1) := by decide +kernel
theorem dX5_obeyOrder_207 : decode cX5_obeyOrder 207 = .ok (.getfield 37, 3) := by decide +kernel
theorem dX5_obeyOrder_210 : decode cX5_obeyOrder 210 = .ok (.iconst 1, 1) := by decide +kernel
theorem dX5_obeyOrder_211 : decode cX5_obeyOrder 211 = .ok (.invokevirtual 178, 3) := by decide +kernel
theorem dX5_obeyOrder_214 : decode cX5_obeyOrder 214 = .ok (.invokevirtual 71, 3) := by decide +kernel
theorem dX5_obeyOrder_217 : decode cX5_obeyOrder 217 = .ok (.ireturn, 1) := by decide +kernel
theorem dX5_obeyOrder_218 : decode cX5_obeyOrder 218 = .ok (.aload_n 0, 1) := by decide +kernel
theorem dX5_obeyOrder_219 : decode cX5_obeyOrder 219 = .ok (.getfield 10, 3) := by decide +kernel
theorem dX5_obeyOrder_222 : decode cX5_obeyOrder 222 = .ok (.iload_n 1, 1) := by decide +kernel
theorem dX5_obeyOrder_223 : decode cX5_obeyOrder 223 = .ok (.invokevirtual 74, 3) := by decide +kernel
theorem dX5_obeyOrder_226 : decode cX5_obeyOrder 226 = .ok (.ireturn, 1) := by decide +kernel
theorem dX5_obeyOrder_227 : decode cX5_obeyOrder 227 = .ok (.aload_n 0, 1) := by decide +kernel
theorem dX5_obeyOrder_228 : decode cX5_obeyOrder 228 = .ok (.getfield 10, 3) := by decide +kernel
theorem dX5_obeyOrder_231 : decode cX5_obeyOrder 231 = .ok (.invokevirtual 67, 3) := by decide +kernel
theorem dX5_obeyOrder_234 : decode cX5_obeyOrder 234 = .ok (.ireturn, 1) := by decide +kernel
theorem dX5_obeyOrder_235 : decode cX5_obeyOrder 235 = .ok (.aload_n 0, 1) := by decide +kernel
theorem dX5_obeyOrder_236 : decode cX5_obeyOrder 236 = .ok (.getfield 10, 3) := by decide +kernel
theorem dX5_obeyOrder_239 : decode cX5_obeyOrder 239 = .ok (.iload_n 1, 1) := by decide +kernel
theorem dX5_obeyOrder_240 : decode cX5_obeyOrder 240 = .ok (.invokevirtual 77, 3) := by decide +kernel
theorem dX5_obeyOrder_243 : decode cX5_obeyOrder 243 = .ok (.ireturn, 1) := by decide +kernel
theorem dX5_obeyOrder_244 : decode cX5_obeyOrder 244 = .ok (.bipush (-3), 2) := by decide +kernel
theorem dX5_obeyOrder_246 : decode cX5_obeyOrder 246 = .ok (.ireturn, 1) := by decide +kernel
theorem dX5_undo_0 : decode cX5_undo 0 = .ok (.aload_n 0, 1) := by decide +kernel
theorem dX5_undo_1 : decode cX5_undo 1 = .ok (.getfield 30, 3) := by decide +kernel
theorem dX5_undo_4 : decode cX5_undo 4 = .ok (.aload_n 0, 1) := by decide +kernel
theorem dX5_undo_5 : decode cX5_undo 5 = .ok (.getfield 10, 3) := by decide +kernel
theorem dX5_undo_8 : decode cX5_undo 8 = .ok (.invokevirtual 190, 3) := by decide +kernel
theorem dX5_undo_11 : decode cX5_undo 11 = .ok (.ireturn, 1) := by decide +kernel
theorem dX5_save_0 : decode cX5_save 0 = .ok (.iload_n 1, 1) := by decide +kernel
theorem dX5_save_1 : decode cX5_save 1 = .ok (.invokestatic 194, 3) := by decide +kernel
theorem dX5_save_4 : decode cX5_save 4 = .ok (.ifCond .ne 6, 3) := by decide +kernel
theorem dX5_save_7 : decode cX5_save 7 = .ok (.bipush (-2), 2) := by decide +kernel
theorem dX5_save_9 : decode cX5_save 9 = .ok (.ireturn, 1) := by decide +kernel
theorem dX5_save_10 : decode cX5_save 10 = .ok (.aload_n 0, 1) := by decide +kernel
theorem dX5_save_11 : decode cX5_save 11 = .ok (.getfield 19, 3) := by decide +kernel
theorem dX5_save_14 : decode cX5_save 14 = .ok (.iload_n 1, 1) := by decide +kernel
theorem dX5_save_15 : decode cX5_save 15 = .ok (.aaload, 1) := by decide +kernel
theorem dX5_save_16 : decode cX5_save 16 = .ok (.aload_n 0, 1) := by decide +kernel
theorem dX5_save_17 : decode cX5_save 17 = .ok (.getfield 10, 3) := by decide +kernel
theorem dX5_save_20 : decode cX5_save 20 = .ok (.invokevirtual 148, 3) := by decide +kernel
theorem dX5_save_23 : decode cX5_save 23 = .ok (.aload_n 0, 1) := by decide +kernel
theorem dX5_save_24 : decode cX5_save 24 = .ok (.getfield 23, 3) := by decide +kernel
theorem dX5_save_27 : decode cX5_save 27 = .ok (.iload_n 1, 1) := by decide +kernel
theorem dX5_save_28 : decode cX5_save 28 = .ok (.iconst 1, 1) := by decide +kernel
theorem dX5_save_29 : decode cX5_save 29 = .ok (.bastore, 1) := by decide +kernel
theorem dX5_save_30 : decode cX5_save 30 = .ok (.aload_n 0, 1) := by decide +kernel
theorem dX5_save_31 : decode cX5_save 31 = .ok (.getfield 10, 3) := by decide +kernel
theorem dX5_save_34 : decode cX5_save 34 = .ok (.getfield 197, 3) := by decide +kernel
theorem dX5_save_37 : decode cX5_save 37 = .ok (.ireturn, 1) := by decide +kernel
theorem dX5_restore_0 : decode cX5_restore 0 = .ok (.iload_n 1, 1) := by decide +kernel
theorem dX5_restore_1 : decode cX5_restore 1 = .ok (.invokestatic 194, 3) := by decide +kernel
theorem dX5_restore_4 : decode cX5_restore 4 = .ok (.ifCond .ne 6, 3) := by decide +kernel
theorem dX5_restore_7 : decode cX5_restore 7 = .ok (.bipush (-2), 2) := by decide +kernel
theorem dX5_restore_9 : decode cX5_restore 9 = .ok (.ireturn, 1) := by decide +kernel
theorem dX5_restore_10 : decode cX5_restore 10 = .ok (.aload_n 0, 1) := by decide +kernel
theorem dX5_restore_11 : decode cX5_restore 11 = .ok (.getfield 23, 3) := by decide +kernel
theorem dX5_restore_14 : decode cX5_restore 14 = .ok (.iload_n 1, 1) := by decide +kernel
theorem dX5_restore_15 : decode cX5_restore 15 = .ok (.baload, 1) := by decide +kernel
theorem dX5_restore_16 : decode cX5_restore 16 = .ok (.ifCond .ne 6, 3) := by decide +kernel
theorem dX5_restore_19 : decode cX5_restore 19 = .ok (.bipush (-5), 2) := by decide +kernel
theorem dX5_restore_21 : decode cX5_restore 21 = .ok (.ireturn, 1) := by decide +kernel
theorem dX5_restore_22 : decode cX5_restore 22 = .ok (.aload_n 0, 1) := by decide +kernel
theorem dX5_restore_23 : decode cX5_restore 23 = .ok (.getfield 30, 3) := by decide +kernel
theorem dX5_restore_26 : decode cX5_restore 26 = .ok (.aload_n 0, 1) := by decide +kernel
theorem dX5_restore_27 : decode cX5_restore 27 = .ok (.getfield 10, 3) := by decide +kernel
theorem dX5_restore_30 : decode cX5_restore 30 = .ok (.invokevirtual 41, 3) := by decide +kernel
theorem dX5_restore_33 : decode cX5_restore 33 = .ok (.aload_n 0, 1) := by decide +kernel
theorem dX5_restore_34 : decode cX5_restore 34 = .ok (.getfield 10, 3) := by decide +kernel
theorem dX5_restore_37 : decode cX5_restore 37 = .ok (.aload_n 0, 1) := by decide +kernel
theorem dX5_restore_38 : decode cX5_restore 38 = .ok (.getfield 19, 3) := by decide +kernel
theorem dX5_restore_41 : decode cX5_restore 41 = .ok (.iload_n 1, 1) := by decide +kernel
theorem dX5_restore_42 : decode cX5_restore 42 = .ok (.aaload, 1) := by decide +kernel
theorem dX5_restore_43 : decode cX5_restore 43 = .ok (.invokevirtual 148, 3) := by decide +kernel
theorem dX5_restore_46 : decode cX5_restore 46 = .ok (.aload_n 0, 1) := by decide +kernel
theorem dX5_restore_47 : decode cX5_restore 47 = .ok (.getfield 30, 3) := by decide +kernel
theorem dX5_restore_50 : decode cX5_restore 50 = .ok (.aload_n 0, 1) := by decide +kernel
theorem dX5_restore_51 : decode cX5_restore 51 = .ok (.getfield 10, 3) := by decide +kernel
theorem dX5_restore_54 : decode cX5_restore 54 = .ok (.getfield 197, 3) := by decide +kernel
theorem dX5_restore_57 : decode cX5_restore 57 = .ok (.invokevirtual 49, 3) := by decide +kernel
theorem dX5_restore_60 : decode cX5_restore 60 = .ok (.ireturn, 1) := by decide +kernel
theorem dX5_isSlot_0 : decode cX5_isSlot 0 = .ok (.iload_n 0, 1) := by decide +kernel
theorem dX5_isSlot_1 : decode cX5_isSlot 1 = .ok (.iconst 0, 1) := by decide +kernel
theorem dX5_isSlot_2 : decode cX5_isSlot 2 = .ok (.iconst 1, 1) := by decide +kernel
theorem dX5_isSlot_3 : decode cX5_isSlot 3 = .ok (.invokestatic 200, 3) := by decide +kernel
theorem dX5_isSlot_6 : decode cX5_isSlot 6 = .ok (.ireturn, 1) := by decide +kernel
theorem dX5_isKind_0 : decode cX5_isKind 0 = .ok (.iload_n 0, 1) := by decide +kernel
theorem dX5_isKind_1 : decode cX5_isKind 1 = .ok (.ifCond .lt 12, 3) := by decide +kernel
theorem dX5_isKind_4 : decode cX5_isKind 4 = .ok (.iload_n 0, 1) := by decide +kernel
theorem dX5_isKind_5 : decode cX5_isKind 5 = .ok (.iconst 3, 1) := by decide +kernel
theorem dX5_isKind_6 : decode cX5_isKind 6 = .ok (.if_icmp .ge 7, 3) := by decide +kernel
theorem dX5_isKind_9 : decode cX5_isKind 9 = .ok (.iconst 1, 1) := by decide +kernel
theorem dX5_isKind_10 : decode cX5_isKind 10 = .ok (.goto 4, 3) := by decide +kernel
theorem dX5_isKind_13 : decode cX5_isKind 13 = .ok (.iconst 0, 1) := by decide +kernel
theorem dX5_isKind_14 : decode cX5_isKind 14 = .ok (.ireturn, 1) := by decide +kernel
theorem dX5_isKindOrNone_0 : decode cX5_isKindOrNone 0 = .ok (.iload_n 0, 1) := by decide +kernel
theorem dX5_isKindOrNone_1 : decode cX5_isKindOrNone 1 = .ok (.bipush (-6), 2) := by decide +kernel
theorem dX5_isKindOrNone_3 : decode cX5_isKindOrNone 3 = .ok (.if_icmp .eq 10, 3) := by decide +kernel
theorem dX5_isKindOrNone_6 : decode cX5_isKindOrNone 6 = .ok (.iload_n 0, 1) := by decide +kernel
theorem dX5_isKindOrNone_7 : decode cX5_isKindOrNone 7 = .ok (.invokestatic 111, 3) := by decide +kernel
theorem dX5_isKindOrNone_10 : decode cX5_isKindOrNone 10 = .ok (.ifCond .eq 7, 3) := by decide +kernel
theorem dX5_isKindOrNone_13 : decode cX5_isKindOrNone 13 = .ok (.iconst 1, 1) := by decide +kernel
theorem dX5_isKindOrNone_14 : decode cX5_isKindOrNone 14 = .ok (.goto 4, 3) := by decide +kernel
theorem dX5_isKindOrNone_17 : decode cX5_isKindOrNone 17 = .ok (.iconst 0, 1) := by decide +kernel
theorem dX5_isKindOrNone_18 : decode cX5_isKindOrNone 18 = .ok (.ireturn, 1) := by decide +kernel
theorem dX5_isWithin_0 : decode cX5_isWithin 0 = .ok (.iload_n 0, 1) := by decide +kernel
theorem dX5_isWithin_1 : decode cX5_isWithin 1 = .ok (.iload_n 1, 1) := by decide +kernel
theorem dX5_isWithin_2 : decode cX5_isWithin 2 = .ok (.if_icmp .lt 12, 3) := by decide +kernel
theorem dX5_isWithin_5 : decode cX5_isWithin 5 = .ok (.iload_n 0, 1) := by decide +kernel
theorem dX5_isWithin_6 : decode cX5_isWithin 6 = .ok (.iload_n 2, 1) := by decide +kernel
theorem dX5_isWithin_7 : decode cX5_isWithin 7 = .ok (.if_icmp .gt 7, 3) := by decide +kernel
theorem dX5_isWithin_10 : decode cX5_isWithin 10 = .ok (.iconst 1, 1) := by decide +kernel
theorem dX5_isWithin_11 : decode cX5_isWithin 11 = .ok (.goto 4, 3) := by decide +kernel
theorem dX5_isWithin_14 : decode cX5_isWithin 14 = .ok (.iconst 0, 1) := by decide +kernel
theorem dX5_isWithin_15 : decode cX5_isWithin 15 = .ok (.ireturn, 1) := by decide +kernel
theorem dX5_isIn_0 : decode cX5_isIn 0 = .ok (.iload_n 1, 1) := by decide +kernel
theorem dX5_isIn_1 : decode cX5_isIn 1 = .ok (.iconst 1, 1) := by decide +kernel
theorem dX5_isIn_2 : decode cX5_isIn 2 = .ok (.iload_n 0, 1) := by decide +kernel
theorem dX5_isIn_3 : decode cX5_isIn 3 = .ok (.ishl, 1) := by decide +kernel
theorem dX5_isIn_4 : decode cX5_isIn 4 = .ok (.iand, 1) := by decide +kernel
theorem dX5_isIn_5 : decode cX5_isIn 5 = .ok (.ifCond .eq 7, 3) := by decide +kernel
theorem dX5_isIn_8 : decode cX5_isIn 8 = .ok (.iconst 1, 1) := by decide +kernel
theorem dX5_isIn_9 : decode cX5_isIn 9 = .ok (.goto 4, 3) := by decide +kernel
theorem dX5_isIn_12 : decode cX5_isIn 12 = .ok (.iconst 0, 1) := by decide +kernel
theorem dX5_isIn_13 : decode cX5_isIn 13 = .ok (.ireturn, 1) := by decide +kernel
theorem dX6_init_0 : decode cX6_init 0 = .ok (.aload_n 0, 1) := by decide +kernel
theorem dX6_init_1 : decode cX6_init 1 = .ok (.invokespecial 1, 3) := by decide +kernel
theorem dX6_init_4 : decode cX6_init 4 = .ok (.aload_n 0, 1) := by decide +kernel
theorem dX6_init_5 : decode cX6_init 5 = .ok (.sipush 244, 3) := by decide +kernel
theorem dX6_init_8 : decode cX6_init 8 = .ok (.newarray .int, 2) := by decide +kernel
theorem dX6_init_10 : decode cX6_init 10 = .ok (.putfield 7, 3) := by decide +kernel
theorem dX6_init_13 : decode cX6_init 13 = .ok (.aload_n 0, 1) := by decide +kernel
theorem dX6_init_14 : decode cX6_init 14 = .ok (.sipush 244, 3) := by decide +kernel
theorem dX6_init_17 : decode cX6_init 17 = .ok (.newarray .int, 2) := by decide +kernel
theorem dX6_init_19 : decode cX6_init 19 = .ok (.putfield 13, 3) := by decide +kernel
theorem dX6_init_22 : decode cX6_init 22 = .ok (.aload_n 0, 1) := by decide +kernel
theorem dX6_init_23 : decode cX6_init 23 = .ok (.sipush 1464, 3) := by decide +kernel
theorem dX6_init_26 : decode cX6_init 26 = .ok (.newarray .int, 2) := by decide +kernel
theorem dX6_init_28 : decode cX6_init 28 = .ok (.putfield 16, 3) := by decide +kernel
theorem dX6_init_31 : decode cX6_init 31 = .ok (.aload_n 0, 1) := by decide +kernel
theorem dX6_init_32 : decode cX6_init 32 = .ok (.sipush 488, 3) := by decide +kernel
theorem dX6_init_35 : decode cX6_init 35 = .ok (.newarray .int, 2) := by decide +kernel
theorem dX6_init_37 : decode cX6_init 37 = .ok (.putfield 19, 3) := by decide +kernel
theorem dX6_init_40 : decode cX6_init 40 = .ok (.aload_n 0, 1) := by decide +kernel
theorem dX6_init_41 : decode cX6_init 41 = .ok (.iconst 2, 1) := by decide +kernel
theorem dX6_init_42 : decode cX6_init 42 = .ok (.newarray .boolean, 2) := by decide +kernel
theorem dX6_init_44 : decode cX6_init 44 = .ok (.putfield 22, 3) := by decide +kernel
theorem dX6_init_47 : decode cX6_init 47 = .ok (.aload_n 0, 1) := by decide +kernel
theorem dX6_init_48 : decode cX6_init 48 = .ok (.bipush 80, 2) := by decide +kernel
theorem dX6_init_50 : decode cX6_init 50 = .ok (.newarray .int, 2) := by decide +kernel
theorem dX6_init_52 : decode cX6_init 52 = .ok (.putfield 26, 3) := by decide +kernel
theorem dX6_init_55 : decode cX6_init 55 = .ok (.aload_n 0, 1) := by decide +kernel
theorem dX6_init_56 : decode cX6_init 56 = .ok (.sipush 252, 3) := by decide +kernel
theorem dX6_init_59 : decode cX6_init 59 = .ok (.newarray .int, 2) := by decide +kernel
theorem dX6_init_61 : decode cX6_init 61 = .ok (.putfield 29, 3) := by decide +kernel
theorem dX6_init_64 : decode cX6_init 64 = .ok (.aload_n 0, 1) := by decide +kernel
theorem dX6_init_65 : decode cX6_init 65 = .ok (.iconst 0, 1) := by decide +kernel
theorem dX6_init_66 : decode cX6_init 66 = .ok (.putfield 32, 3) := by decide +kernel
theorem dX6_init_69 : decode cX6_init 69 = .ok (.aload_n 0, 1) := by decide +kernel
theorem dX6_init_70 : decode cX6_init 70 = .ok (.getfield 7, 3) := by decide +kernel
theorem dX6_init_73 : decode cX6_init 73 = .ok (.iconst 0, 1) := by decide +kernel
theorem dX6_init_74 : decode cX6_init 74 = .ok (.bipush 10, 2) := by decide +kernel
theorem dX6_init_76 : decode cX6_init 76 = .ok (.iastore, 1) := by decide +kernel
theorem dX6_init_77 : decode cX6_init 77 = .ok (.aload_n 0, 1) := by decide +kernel
theorem dX6_init_78 : decode cX6_init 78 = .ok (.getfield 7, 3) := by decide +kernel
theorem dX6_init_81 : decode cX6_init 81 = .ok (.iconst 1, 1) := by decide +kernel
theorem dX6_init_82 : decode cX6_init 82 = .ok (.iconst 5, 1) := by decide +kernel
theorem dX6_init_83 : decode cX6_init 83 = .ok (.iastore, 1) := by decide +kernel
theorem dX6_init_84 : decode cX6_init 84 = .ok (.aload_n 0, 1) := by decide +kernel
theorem dX6_init_85 : decode cX6_init 85 = .ok (.getfield 7, 3) := by decide +kernel
theorem dX6_init_88 : decode cX6_init 88 = .ok (.iconst 2, 1) := by decide +kernel
theorem dX6_init_89 : decode cX6_init 89 = .ok (.iconst 4, 1) := by decide +kernel
theorem dX6_init_90 : decode cX6_init 90 = .ok (.iastore, 1) := by decide +kernel
theorem dX6_init_91 : decode cX6_init 91 = .ok (.aload_n 0, 1) := by decide +kernel
theorem dX6_init_92 : decode cX6_init 92 = .ok (.getfield 7, 3) := by decide +kernel
theorem dX6_init_95 : decode cX6_init 95 = .ok (.iconst 3, 1) := by decide +kernel
theorem dX6_init_96 : decode cX6_init 96 = .ok (.iconst 4, 1) := by decide +kernel
theorem dX6_init_97 : decode cX6_init 97 = .ok (.iastore, 1) := by decide +kernel
theorem dX6_init_98 : decode cX6_init 98 = .ok (.iconst 0, 1) := by decide +kernel
theorem dX6_init_99 : decode cX6_init 99 = .ok (.istore_n 1, 1) := by decide +kernel
theorem dX6_init_100 : decode cX6_init 100 = .ok (.iload_n 1, 1) := by decide +kernel
theorem dX6_init_101 : decode cX6_init 101 = .ok (.iconst 3, 1) := by decide +kernel
theorem dX6_init_102 : decode cX6_init 102 = .ok (.if_icmp .ge 19, 3) := by decide +kernel
theorem dX6_init_105 : decode cX6_init 105 = .ok (.aload_n 0, 1) := by decide +kernel
theorem dX6_init_106 : decode cX6_init 106 = .ok (.getfield 7, 3) := by decide +kernel
theorem dX6_init_109 : decode cX6_init 109 = .ok (.bipush 9, 2) := by decide +kernel
theorem dX6_init_111 : decode cX6_init 111 = .ok (.iload_n 1, 1) := by decide +kernel
theorem dX6_init_112 : decode cX6_init 112 = .ok (.iadd, 1) := by decide +kernel
theorem dX6_init_113 : decode cX6_init 113 = .ok (.iconst 2, 1) := by decide +kernel
theorem dX6_init_114 : decode cX6_init 114 = .ok (.iastore, 1) := by decide +kernel
theorem dX6_init_115 : decode cX6_init 115 = .ok (.iinc 1 1, 3) := by decide +kernel
theorem dX6_init_118 : decode cX6_init 118 = .ok (.goto (-18), 3) := by decide +kernel
theorem dX6_init_121 : decode cX6_init 121 = .ok (.return_, 1) := by decide +kernel
theorem dX6_in_0 : decode cX6_in 0 = .ok (.iload_n 0, 1) := by decide +kernel
theorem dX6_in_1 : decode cX6_in 1 = .ok (.iload_n 1, 1) := by decide +kernel
theorem dX6_in_2 : decode cX6_in 2 = .ok (.if_icmp .lt 12, 3) := by decide +kernel
theorem dX6_in_5 : decode cX6_in 5 = .ok (.iload_n 0, 1) := by decide +kernel
theorem dX6_in_6 : decode cX6_in 6 = .ok (.iload_n 2, 1) := by decide +kernel
theorem dX6_in_7 : decode cX6_in 7 = .ok (.if_icmp .gt 7, 3) := by decide +kernel
theorem dX6_in_10 : decode cX6_in 10 = .ok (.iconst 1, 1) := by decide +kernel
theorem dX6_in_11 : decode cX6_in 11 = .ok (.goto 4, 3) := by decide +kernel
theorem dX6_in_14 : decode cX6_in 14 = .ok (.iconst 0, 1) := by decide +kernel
theorem dX6_in_15 : decode cX6_in 15 = .ok (.ireturn, 1) := by decide +kernel
theorem dX6_ones_0 : decode cX6_ones 0 = .ok (.iconst 0, 1) := by decide +kernel
theorem dX6_ones_1 : decode cX6_ones 1 = .ok (.istore_n 1, 1) := by decide +kernel
theorem dX6_ones_2 : decode cX6_ones 2 = .ok (.iconst 0, 1) := by decide +kernel
theorem dX6_ones_3 : decode cX6_ones 3 = .ok (.istore_n 2, 1) := by decide +kernel
theorem dX6_ones_4 : decode cX6_ones 4 = .ok (.iload_n 2, 1) := by decide +kernel
theorem dX6_ones_5 : decode cX6_ones 5 = .ok (.bipush 31, 2) := by decide +kernel
theorem dX6_ones_7 : decode cX6_ones 7 = .ok (.if_icmp .ge 17, 3) := by decide +kernel
theorem dX6_ones_10 : decode cX6_ones 10 = .ok (.iload_n 1, 1) := by decide +kernel
theorem dX6_ones_11 : decode cX6_ones 11 = .ok (.iload_n 0, 1) := by decide +kernel
theorem dX6_ones_12 : decode cX6_ones 12 = .ok (.iload_n 2, 1) := by decide +kernel
theorem dX6_ones_13 : decode cX6_ones 13 = .ok (.ishr, 1) := by decide +kernel
theorem dX6_ones_14 : decode cX6_ones 14 = .ok (.iconst 1, 1) := by decide +kernel
theorem dX6_ones_15 : decode cX6_ones 15 = .ok (.iand, 1) := by decide +kernel
theorem dX6_ones_16 : decode cX6_ones 16 = .ok (.iadd, 1) := by decide +kernel
theorem dX6_ones_17 : decode cX6_ones 17 = .ok (.istore_n 1, 1) := by decide +kernel
theorem dX6_ones_18 : decode cX6_ones 18 = .ok (.iinc 2 1, 3) := by decide +kernel
theorem dX6_ones_21 : decode cX6_ones 21 = .ok (.goto (-17), 3) := by decide +kernel
theorem dX6_ones_24 : decode cX6_ones 24 = .ok (.iload_n 1, 1) := by decide +kernel
theorem dX6_ones_25 : decode cX6_ones 25 = .ok (.ireturn, 1) := by decide +kernel
theorem dX6_ofPerson_0 : decode cX6_ofPerson 0 = .ok (.aload_n 0, 1) := by decide +kernel
theorem dX6_ofPerson_1 : decode cX6_ofPerson 1 = .ok (.getfield 7, 3) := by decide +kernel
theorem dX6_ofPerson_4 : decode cX6_ofPerson 4 = .ok (.bipush 12, 2) := by decide +kernel
theorem dX6_ofPerson_6 : decode cX6_ofPerson 6 = .ok (.iconst 4, 1) := by decide +kernel
theorem dX6_ofPerson_7 : decode cX6_ofPerson 7 = .ok (.iload_n 1, 1) := by decide +kernel
theorem dX6_ofPerson_8 : decode cX6_ofPerson 8 = .ok (.imul, 1) := by decide +kernel
theorem dX6_ofPerson_9 : decode cX6_ofPerson 9 = .ok (.iadd, 1) := by decide +kernel
theorem dX6_ofPerson_10 : decode cX6_ofPerson 10 = .ok (.iload_n 2, 1) := by decide +kernel
theorem dX6_ofPerson_11 : decode cX6_ofPerson 11 = .ok (.iadd, 1) := by decide +kernel
theorem dX6_ofPerson_12 : decode cX6_ofPerson 12 = .ok (.iaload, 1) := by decide +kernel
theorem dX6_ofPerson_13 : decode cX6_ofPerson 13 = .ok (.ireturn, 1) := by decide +kernel
theorem dX6_layPerson_0 : decode cX6_layPerson 0 = .ok (.aload_n 0, 1) := by decide +kernel
theorem dX6_layPerson_1 : decode cX6_layPerson 1 = .ok (.getfield 7, 3) := by decide +kernel
theorem dX6_layPerson_4 : decode cX6_layPerson 4 = .ok (.bipush 12, 2) := by decide +kernel
theorem dX6_layPerson_6 : decode cX6_layPerson 6 = .ok (.iconst 4, 1) := by decide +kernel
theorem dX6_layPerson_7 : decode cX6_layPerson 7 = .ok (.iload_n 1, 1) := by decide +kernel
theorem dX6_layPerson_8 : decode cX6_layPerson 8 = .ok (.imul, 1) := by decide +kernel
theorem dX6_layPerson_9 : decode cX6_layPerson 9 = .ok (.iadd, 1) := by decide +kernel
theorem dX6_layPerson_10 : decode cX6_layPerson 10 = .ok (.iload_n 2, 1) := by decide +kernel
theorem dX6_layPerson_11 : decode cX6_layPerson 11 = .ok (.iadd, 1) := by decide +kernel
theorem dX6_layPerson_12 : decode cX6_layPerson 12 = .ok (.iload_n 3, 1) := by decide +kernel
theorem dX6_layPerson_13 : decode cX6_layPerson 13 = .ok (.iastore, 1) := by decide +kernel
theorem dX6_layPerson_14 : decode cX6_layPerson 14 = .ok (.return_, 1) := by decide +kernel
theorem dX6_ofJobs_0 : decode cX6_ofJobs 0 = .ok (.aload_n 0, 1) := by decide +kernel
theorem dX6_ofJobs_1 : decode cX6_ofJobs 1 = .ok (.getfield 7, 3) := by decide +kernel
theorem dX6_ofJobs_4 : decode cX6_ofJobs 4 = .ok (.bipush 52, 2) := by decide +kernel
theorem dX6_ofJobs_6 : decode cX6_ofJobs 6 = .ok (.bipush 12, 2) := by decide +kernel
theorem dX6_ofJobs_8 : decode cX6_ofJobs 8 = .ok (.iload_n 1, 1) := by decide +kernel
theorem dX6_ofJobs_9 : decode cX6_ofJobs 9 = .ok (.imul, 1) := by decide +kernel
theorem dX6_ofJobs_10 : decode cX6_ofJobs 10 = .ok (.iadd, 1) := by decide +kernel
theorem dX6_ofJobs_11 : decode cX6_ofJobs 11 = .ok (.iload_n 2, 1) := by decide +kernel
theorem dX6_ofJobs_12 : decode cX6_ofJobs 12 = .ok (.iadd, 1) := by decide +kernel
theorem dX6_ofJobs_13 : decode cX6_ofJobs 13 = .ok (.iaload, 1) := by decide +kernel
theorem dX6_ofJobs_14 : decode cX6_ofJobs 14 = .ok (.ireturn, 1) := by decide +kernel
theorem dX6_lay_0 : decode cX6_lay 0 = .ok (.aload_n 0, 1) := by decide +kernel
theorem dX6_lay_1 : decode cX6_lay 1 = .ok (.getfield 7, 3) := by decide +kernel
theorem dX6_lay_4 : decode cX6_lay 4 = .ok (.bipush 52, 2) := by decide +kernel
theorem dX6_lay_6 : decode cX6_lay 6 = .ok (.bipush 12, 2) := by decide +kernel
theorem dX6_lay_8 : decode cX6_lay 8 = .ok (.iload_n 1, 1) := by decide +kernel
theorem dX6_lay_9 : decode cX6_lay 9 = .ok (.imul, 1) := by decide +kernel
theorem dX6_lay_10 : decode cX6_lay 10 = .ok (.iadd, 1) := by decide +kernel
theorem dX6_lay_11 : decode cX6_lay 11 = .ok (.iload_n 2, 1) := by decide +kernel
theorem dX6_lay_12 : decode cX6_lay 12 = .ok (.iadd, 1) := by decide +kernel
theorem dX6_lay_13 : decode cX6_lay 13 = .ok (.iload_n 3, 1) := by decide +kernel
theorem dX6_lay_14 : decode cX6_lay 14 = .ok (.iastore, 1) := by decide +kernel
theorem dX6_lay_15 : decode cX6_lay 15 = .ok (.return_, 1) := by decide +kernel
theorem dX6_isJob_0 : decode cX6_isJob 0 = .ok (.iload_n 1, 1) := by decide +kernel
theorem dX6_isJob_1 : decode cX6_isJob 1 = .ok (.iconst 0, 1) := by decide +kernel
theorem dX6_isJob_2 : decode cX6_isJob 2 = .ok (.aload_n 0, 1) := by decide +kernel
theorem dX6_isJob_3 : decode cX6_isJob 3 = .ok (.getfield 7, 3) := by decide +kernel
theorem dX6_isJob_6 : decode cX6_isJob 6 = .ok (.bipush 6, 2) := by decide +kernel
theorem dX6_isJob_8 : decode cX6_isJob 8 = .ok (.iaload, 1) := by decide +kernel
theorem dX6_isJob_9 : decode cX6_isJob 9 = .ok (.iconst 1, 1) := by decide +kernel
theorem dX6_isJob_10 : decode cX6_isJob 10 = .ok (.isub, 1) := by decide +kernel
theorem dX6_isJob_11 : decode cX6_isJob 11 = .ok (.invokestatic 36, 3) := by decide +kernel
theorem dX6_isJob_14 : decode cX6_isJob 14 = .ok (.ireturn, 1) := by decide +kernel
theorem dX6_isStraps_0 : decode cX6_isStraps 0 = .ok (.iload_n 0, 1) := by decide +kernel
theorem dX6_isStraps_1 : decode cX6_isStraps 1 = .ok (.bipush (-6), 2) := by decide +kernel
theorem dX6_isStraps_3 : decode cX6_isStraps 3 = .ok (.if_icmp .eq 12, 3) := by decide +kernel
theorem dX6_isStraps_6 : decode cX6_isStraps 6 = .ok (.iload_n 0, 1) := by decide +kernel
theorem dX6_isStraps_7 : decode cX6_isStraps 7 = .ok (.iconst 0, 1) := by decide +kernel
theorem dX6_isStraps_8 : decode cX6_isStraps 8 = .ok (.iconst 2, 1) := by decide +kernel
theorem dX6_isStraps_9 : decode cX6_isStraps 9 = .ok (.invokestatic 36, 3) := by decide +kernel
theorem dX6_isStraps_12 : decode cX6_isStraps 12 = .ok (.ifCond .eq 7, 3) := by decide +kernel
theorem dX6_isStraps_15 : decode cX6_isStraps 15 = .ok (.iconst 1, 1) := by decide +kernel
theorem dX6_isStraps_16 : decode cX6_isStraps 16 = .ok (.goto 4, 3) := by decide +kernel
theorem dX6_isStraps_19 : decode cX6_isStraps 19 = .ok (.iconst 0, 1) := by decide +kernel
theorem dX6_isStraps_20 : decode cX6_isStraps 20 = .ok (.ireturn, 1) := by decide +kernel
theorem dX6_records_0 : decode cX6_records 0 = .ok (.aload_n 0, 1) := by decide +kernel
theorem dX6_records_1 : decode cX6_records 1 = .ok (.getfield 40, 3) := by decide +kernel
theorem dX6_records_4 : decode cX6_records 4 = .ok (.bipush 6, 2) := by decide +kernel
theorem dX6_records_6 : decode cX6_records 6 = .ok (.if_icmp .ne 44, 3) := by decide +kernel
theorem dX6_records_9 : decode cX6_records 9 = .ok (.iconst 0, 1) := by decide +kernel
theorem dX6_records_10 : decode cX6_records 10 = .ok (.istore_n 1, 1) := by decide +kernel
theorem dX6_records_11 : decode cX6_records 11 = .ok (.iload_n 1, 1) := by decide +kernel
theorem dX6_records_12 : decode cX6_records 12 = .ok (.sipush 1220, 3) := by decide +kernel
theorem dX6_records_15 : decode cX6_records 15 = .ok (.if_icmp .ge 25, 3) := by decide +kernel
theorem dX6_records_18 : decode cX6_records 18 = .ok (.aload_n 0, 1) := by decide +kernel
theorem dX6_records_19 : decode cX6_records 19 = .ok (.getfield 16, 3) := by decide +kernel
theorem dX6_records_22 : decode cX6_records 22 = .ok (.iload_n 1, 1) := by decide +kernel
theorem dX6_records_23 : decode cX6_records 23 = .ok (.aload_n 0, 1) := by decide +kernel
theorem dX6_records_24 : decode cX6_records 24 = .ok (.getfield 16, 3) := by decide +kernel
theorem dX6_records_27 : decode cX6_records 27 = .ok (.iload_n 1, 1) := by decide +kernel
theorem dX6_records_28 : decode cX6_records 28 = .ok (.sipush 244, 3) := by decide +kernel
theorem dX6_records_31 : decode cX6_records 31 = .ok (.iadd, 1) := by decide +kernel
theorem dX6_records_32 : decode cX6_records 32 = .ok (.iaload, 1) := by decide +kernel
theorem dX6_records_33 : decode cX6_records 33 = .ok (.iastore, 1) := by decide +kernel
theorem dX6_records_34 : decode cX6_records 34 = .ok (.iinc 1 1, 3) := by decide +kernel
theorem dX6_records_37 : decode cX6_records 37 = .ok (.goto (-26), 3) := by decide +kernel
theorem dX6_records_40 : decode cX6_records 40 = .ok (.aload_n 0, 1) := by decide +kernel
theorem dX6_records_41 : decode cX6_records 41 = .ok (.dup, 1) := by decide +kernel
theorem dX6_records_42 : decode cX6_records 42 = .ok (.getfield 40, 3) := by decide +kernel
theorem dX6_records_45 : decode cX6_records 45 = .ok (.iconst 1, 1) := by decide +kernel
theorem dX6_records_46 : decode cX6_records 46 = .ok (.isub, 1) := by decide +kernel
theorem dX6_records_47 : decode cX6_records 47 = .ok (.putfield 40, 3) := by decide +kernel
theorem dX6_records_50 : decode cX6_records 50 = .ok (.iconst 0, 1) := by decide +kernel
theorem dX6_records_51 : decode cX6_records 51 = .ok (.istore_n 1, 1) := by decide +kernel
theorem dX6_records_52 : decode cX6_records 52 = .ok (.iload_n 1, 1) := by decide +kernel
theorem dX6_records_53 : decode cX6_records 53 = .ok (.sipush 244, 3) := by decide +kernel
theorem dX6_records_56 : decode cX6_records 56 = .ok (.if_icmp .ge 30, 3) := by decide +kernel
theorem dX6_records_59 : decode cX6_records 59 = .ok (.aload_n 0, 1) := by decide +kernel
theorem dX6_records_60 : decode cX6_records 60 = .ok (.getfield 16, 3) := by decide +kernel
theorem dX6_records_63 : decode cX6_records 63 = .ok (.sipush 244, 3) := by decide +kernel
theorem dX6_records_66 : decode cX6_records 66 = .ok (.aload_n 0, 1) := by decide +kernel
theorem dX6_records_67 : decode cX6_records 67 = .ok (.getfield 40, 3) := by decide +kernel
theorem dX6_records_70 : decode cX6_records 70 = .ok (.imul, 1) := by decide +kernel
theorem dX6_records_71 : decode cX6_records 71 = .ok (.iload_n 1, 1) := by decide +kernel
theorem dX6_records_72 : decode cX6_records 72 = .ok (.iadd, 1) := by decide +kernel
theorem dX6_records_73 : decode cX6_records 73 = .ok (.aload_n 0, 1) := by decide +kernel
theorem dX6_records_74 : decode cX6_records 74 = .ok (.getfield 7, 3) := by decide +kernel
theorem dX6_records_77 : decode cX6_records 77 = .ok (.iload_n 1, 1) := by decide +kernel
theorem dX6_records_78 : decode cX6_records 78 = .ok (.iaload, 1) := by decide +kernel
theorem dX6_records_79 : decode cX6_records 79 = .ok (.iastore, 1) := by decide +kernel
theorem dX6_records_80 : decode cX6_records 80 = .ok (.iinc 1 1, 3) := by decide +kernel
theorem dX6_records_83 : decode cX6_records 83 = .ok (.goto (-31), 3) := by decide +kernel
theorem dX6_records_86 : decode cX6_records 86 = .ok (.aload_n 0, 1) := by decide +kernel
theorem dX6_records_87 : decode cX6_records 87 = .ok (.dup, 1) := by decide +kernel
theorem dX6_records_88 : decode cX6_records 88 = .ok (.getfield 40, 3) := by decide +kernel
theorem dX6_records_91 : decode cX6_records 91 = .ok (.iconst 1, 1) := by decide +kernel
theorem dX6_records_92 : decode cX6_records 92 = .ok (.iadd, 1) := by decide +kernel
theorem dX6_records_93 : decode cX6_records 93 = .ok (.putfield 40, 3) := by decide +kernel
theorem dX6_records_96 : decode cX6_records 96 = .ok (.return_, 1) := by decide +kernel
theorem dX6_putAside_0 : decode cX6_putAside 0 = .ok (.iconst 0, 1) := by decide +kernel
theorem dX6_putAside_1 : decode cX6_putAside 1 = .ok (.istore_n 1, 1) := by decide +kernel
theorem dX6_putAside_2 : decode cX6_putAside 2 = .ok (.iload_n 1, 1) := by decide +kernel
theorem dX6_putAside_3 : decode cX6_putAside 3 = .ok (.sipush 244, 3) := by decide +kernel
theorem dX6_putAside_6 : decode cX6_putAside 6 = .ok (.if_icmp .ge 21, 3) := by decide +kernel
theorem dX6_putAside_9 : decode cX6_putAside 9 = .ok (.aload_n 0, 1) := by decide +kernel
theorem dX6_putAside_10 : decode cX6_putAside 10 = .ok (.getfield 13, 3) := by decide +kernel
theorem dX6_putAside_13 : decode cX6_putAside 13 = .ok (.iload_n 1, 1) := by decide +kernel
theorem dX6_putAside_14 : decode cX6_putAside 14 = .ok (.aload_n 0, 1) := by decide +kernel
theorem dX6_putAside_15 : decode cX6_putAside 15 = .ok (.getfield 7, 3) := by decide +kernel
theorem dX6_putAside_18 : decode cX6_putAside 18 = .ok (.iload_n 1, 1) := by decide +kernel
theorem dX6_putAside_19 : decode cX6_putAside 19 = .ok (.iaload, 1) := by decide +kernel
theorem dX6_putAside_20 : decode cX6_putAside 20 = .ok (.iastore, 1) := by decide +kernel
theorem dX6_putAside_21 : decode cX6_putAside 21 = .ok (.iinc 1 1, 3) := by decide +kernel
theorem dX6_putAside_24 : decode cX6_putAside 24 = .ok (.goto (-22), 3) := by decide +kernel
theorem dX6_putAside_27 : decode cX6_putAside 27 = .ok (.return_, 1) := by decide +kernel
theorem dX6_takeBack_0 : decode cX6_takeBack 0 = .ok (.iconst 0, 1) := by decide +kernel
theorem dX6_takeBack_1 : decode cX6_takeBack 1 = .ok (.istore_n 1, 1) := by decide +kernel
theorem dX6_takeBack_2 : decode cX6_takeBack 2 = .ok (.iload_n 1, 1) := by decide +kernel
theorem dX6_takeBack_3 : decode cX6_takeBack 3 = .ok (.sipush 244, 3) := by decide +kernel
theorem dX6_takeBack_6 : decode cX6_takeBack 6 = .ok (.if_icmp .ge 21, 3) := by decide +kernel
theorem dX6_takeBack_9 : decode cX6_takeBack 9 = .ok (.aload_n 0, 1) := by decide +kernel
theorem dX6_takeBack_10 : decode cX6_takeBack 10 = .ok (.getfield 7, 3) := by decide +kernel
theorem dX6_takeBack_13 : decode cX6_takeBack 13 = .ok (.iload_n 1, 1) := by decide +kernel
theorem dX6_takeBack_14 : decode cX6_takeBack 14 = .ok (.aload_n 0, 1) := by decide +kernel
theorem dX6_takeBack_15 : decode cX6_takeBack 15 = .ok (.getfield 13, 3) := by decide +kernel
theorem dX6_takeBack_18 : decode cX6_takeBack 18 = .ok (.iload_n 1, 1) := by decide +kernel
theorem dX6_takeBack_19 : decode cX6_takeBack 19 = .ok (.iaload, 1) := by decide +kernel
theorem dX6_takeBack_20 : decode cX6_takeBack 20 = .ok (.iastore, 1) := by decide +kernel
theorem dX6_takeBack_21 : decode cX6_takeBack 21 = .ok (.iinc 1 1, 3) := by decide +kernel
theorem dX6_takeBack_24 : decode cX6_takeBack 24 = .ok (.goto (-22), 3) := by decide +kernel
theorem dX6_takeBack_27 : decode cX6_takeBack 27 = .ok (.return_, 1) := by decide +kernel
theorem dX6_loadBy_0 : decode cX6_loadBy 0 = .ok (.aload_n 0, 1) := by decide +kernel
theorem dX6_loadBy_1 : decode cX6_loadBy 1 = .ok (.iload_n 1, 1) := by decide +kernel
theorem dX6_loadBy_2 : decode cX6_loadBy 2 = .ok (.iconst 0, 1) := by decide +kernel
theorem dX6_loadBy_3 : decode cX6_loadBy 3 = .ok (.invokevirtual 43, 3) := by decide +kernel
theorem dX6_loadBy_6 : decode cX6_loadBy 6 = .ok (.bipush 100, 2) := by decide +kernel
theorem dX6_loadBy_8 : decode cX6_loadBy 8 = .ok (.aload_n 0, 1) := by decide +kernel
theorem dX6_loadBy_9 : decode cX6_loadBy 9 = .ok (.getfield 7, 3) := by decide +kernel
theorem dX6_loadBy_12 : decode cX6_loadBy 12 = .ok (.iconst 0, 1) := by decide +kernel
theorem dX6_loadBy_13 : decode cX6_loadBy 13 = .ok (.iaload, 1) := by decide +kernel
theorem dX6_loadBy_14 : decode cX6_loadBy 14 = .ok (.aload_n 0, 1) := by decide +kernel
theorem dX6_loadBy_15 : decode cX6_loadBy 15 = .ok (.iload_n 1, 1) := by decide +kernel
theorem dX6_loadBy_16 : decode cX6_loadBy 16 = .ok (.iconst 1, 1) := by decide +kernel
theorem dX6_loadBy_17 : decode cX6_loadBy 17 = .ok (.invokevirtual 43, 3) := by decide +kernel
theorem dX6_loadBy_20 : decode cX6_loadBy 20 = .ok (.imul, 1) := by decide +kernel
theorem dX6_loadBy_21 : decode cX6_loadBy 21 = .ok (.iadd, 1) := by decide +kernel
theorem dX6_loadBy_22 : decode cX6_loadBy 22 = .ok (.imul, 1) := by decide +kernel
theorem dX6_loadBy_23 : decode cX6_loadBy 23 = .ok (.bipush 100, 2) := by decide +kernel
theorem dX6_loadBy_25 : decode cX6_loadBy 25 = .ok (.idiv, 1) := by decide +kernel
theorem dX6_loadBy_26 : decode cX6_loadBy 26 = .ok (.istore_n 3, 1) := by decide +kernel
theorem dX6_loadBy_27 : decode cX6_loadBy 27 = .ok (.iload_n 2, 1) := by decide +kernel
theorem dX6_loadBy_28 : decode cX6_loadBy 28 = .ok (.ifCond .ne 7, 3) := by decide +kernel
theorem dX6_loadBy_31 : decode cX6_loadBy 31 = .ok (.iconst 5, 1) := by decide +kernel
theorem dX6_loadBy_32 : decode cX6_loadBy 32 = .ok (.goto 24, 3) := by decide +kernel
theorem dX6_loadBy_35 : decode cX6_loadBy 35 = .ok (.iload_n 2, 1) := by decide +kernel
theorem dX6_loadBy_36 : decode cX6_loadBy 36 = .ok (.iconst 1, 1) := by decide +kernel
theorem dX6_loadBy_37 : decode cX6_loadBy 37 = .ok (.if_icmp .ne 8, 3) := by decide +kernel
theorem dX6_loadBy_40 : decode cX6_loadBy 40 = .ok (.bipush 10, 2) := by decide +kernel
theorem dX6_loadBy_42 : decode cX6_loadBy 42 = .ok (.goto 14, 3) := by decide +kernel
theorem dX6_loadBy_45 : decode cX6_loadBy 45 = .ok (.iload_n 2, 1) := by decide +kernel
theorem dX6_loadBy_46 : decode cX6_loadBy 46 = .ok (.iconst 2, 1) := by decide +kernel
theorem dX6_loadBy_47 : decode cX6_loadBy 47 = .ok (.if_icmp .ne 8, 3) := by decide +kernel
theorem dX6_loadBy_50 : decode cX6_loadBy 50 = .ok (.bipush 20, 2) := by decide +kernel
theorem dX6_loadBy_52 : decode cX6_loadBy 52 = .ok (.goto 4, 3) := by decide +kernel
theorem dX6_loadBy_55 : decode cX6_loadBy 55 = .ok (.iconst 0, 1) := by decide +kernel
theorem dX6_loadBy_56 : decode cX6_loadBy 56 = .ok (.istore 4, 2) := by decide +kernel
theorem dX6_loadBy_58 : decode cX6_loadBy 58 = .ok (.iload_n 2, 1) := by decide +kernel
theorem dX6_loadBy_59 : decode cX6_loadBy 59 = .ok (.bipush (-6), 2) := by decide +kernel
theorem dX6_loadBy_61 : decode cX6_loadBy 61 = .ok (.if_icmp .ne 7, 3) := by decide +kernel
theorem dX6_loadBy_64 : decode cX6_loadBy 64 = .ok (.iload_n 3, 1) := by decide +kernel
theorem dX6_loadBy_65 : decode cX6_loadBy 65 = .ok (.goto 13, 3) := by decide +kernel
theorem dX6_loadBy_68 : decode cX6_loadBy 68 = .ok (.iload_n 3, 1) := by decide +kernel
theorem dX6_loadBy_69 : decode cX6_loadBy 69 = .ok (.bipush 100, 2) := by decide +kernel
theorem dX6_loadBy_71 : decode cX6_loadBy 71 = .ok (.iload 4, 2) := by decide +kernel
theorem dX6_loadBy_73 : decode cX6_loadBy 73 = .ok (.isub, 1) := by decide +kernel
theorem dX6_loadBy_74 : decode cX6_loadBy 74 = .ok (.imul, 1) := by decide +kernel
theorem dX6_loadBy_75 : decode cX6_loadBy 75 = .ok (.bipush 100, 2) := by decide +kernel
theorem dX6_loadBy_77 : decode cX6_loadBy 77 = .ok (.idiv, 1) := by decide +kernel
theorem dX6_loadBy_78 : decode cX6_loadBy 78 = .ok (.ireturn, 1) := by decide +kernel
theorem dX6_busy_0 : decode cX6_busy 0 = .ok (.iconst 0, 1) := by decide +kernel
theorem dX6_busy_1 : decode cX6_busy 1 = .ok (.istore_n 1, 1) := by decide +kernel
theorem dX6_busy_2 : decode cX6_busy 2 = .ok (.iconst 0, 1) := by decide +kernel
theorem dX6_busy_3 : decode cX6_busy 3 = .ok (.istore_n 2, 1) := by decide +kernel
theorem dX6_busy_4 : decode cX6_busy 4 = .ok (.iload_n 2, 1) := by decide +kernel
theorem dX6_busy_5 : decode cX6_busy 5 = .ok (.aload_n 0, 1) := by decide +kernel
theorem dX6_busy_6 : decode cX6_busy 6 = .ok (.getfield 7, 3) := by decide +kernel
theorem dX6_busy_9 : decode cX6_busy 9 = .ok (.bipush 6, 2) := by decide +kernel
theorem dX6_busy_11 : decode cX6_busy 11 = .ok (.iaload, 1) := by decide +kernel
theorem dX6_busy_12 : decode cX6_busy 12 = .ok (.if_icmp .ge 33, 3) := by decide +kernel
theorem dX6_busy_15 : decode cX6_busy 15 = .ok (.iload_n 1, 1) := by decide +kernel
theorem dX6_busy_16 : decode cX6_busy 16 = .ok (.aload_n 0, 1) := by decide +kernel
theorem dX6_busy_17 : decode cX6_busy 17 = .ok (.iload_n 2, 1) := by decide +kernel
theorem dX6_busy_18 : decode cX6_busy 18 = .ok (.iconst 5, 1) := by decide +kernel
theorem dX6_busy_19 : decode cX6_busy 19 = .ok (.invokevirtual 43, 3) := by decide +kernel
theorem dX6_busy_22 : decode cX6_busy 22 = .ok (.iconst 1, 1) := by decide +kernel
theorem dX6_busy_23 : decode cX6_busy 23 = .ok (.if_icmp .ne 13, 3) := by decide +kernel
theorem dX6_busy_26 : decode cX6_busy 26 = .ok (.aload_n 0, 1) := by decide +kernel
theorem dX6_busy_27 : decode cX6_busy 27 = .ok (.iload_n 2, 1) := by decide +kernel
theorem dX6_busy_28 : decode cX6_busy 28 = .ok (.bipush 7, 2) := by decide +kernel
theorem dX6_busy_30 : decode cX6_busy 30 = .ok (.invokevirtual 43, 3) := by decide +kernel
theorem dX6_busy_33 : decode cX6_busy 33 = .ok (.goto 4, 3) := by decide +kernel
theorem dX6_busy_36 : decode cX6_busy 36 = .ok (.iconst 0, 1) := by decide +kernel
theorem dX6_busy_37 : decode cX6_busy 37 = .ok (.ior, 1) := by decide +kernel
theorem dX6_busy_38 : decode cX6_busy 38 = .ok (.istore_n 1, 1) := by decide +kernel
theorem dX6_busy_39 : decode cX6_busy 39 = .ok (.iinc 2 1, 3) := by decide +kernel
theorem dX6_busy_42 : decode cX6_busy 42 = .ok (.goto (-38), 3) := by decide +kernel
theorem dX6_busy_45 : decode cX6_busy 45 = .ok (.iload_n 1, 1) := by decide +kernel
theorem dX6_busy_46 : decode cX6_busy 46 = .ok (.ireturn, 1) := by decide +kernel
theorem dX6_freeStraps_0 : decode cX6_freeStraps 0 = .ok (.aload_n 0, 1) := by decide +kernel
theorem dX6_freeStraps_1 : decode cX6_freeStraps 1 = .ok (.getfield 7, 3) := by decide +kernel
theorem dX6_freeStraps_4 : decode cX6_freeStraps 4 = .ok (.bipush 9, 2) := by decide +kernel
theorem dX6_freeStraps_6 : decode cX6_freeStraps 6 = .ok (.iload_n 1, 1) := by decide +kernel
theorem dX6_freeStraps_7 : decode cX6_freeStraps 7 = .ok (.iadd, 1) := by decide +kernel
theorem dX6_freeStraps_8 : decode cX6_freeStraps 8 = .ok (.iaload, 1) := by decide +kernel
theorem dX6_freeStraps_9 : decode cX6_freeStraps 9 = .ok (.istore_n 2, 1) := by decide +kernel
theorem dX6_freeStraps_10 : decode cX6_freeStraps 10 = .ok (.iconst 0, 1) := by decide +kernel
theorem dX6_freeStraps_11 : decode cX6_freeStraps 11 = .ok (.istore_n 3, 1) := by decide +kernel
theorem dX6_freeStraps_12 : decode cX6_freeStraps 12 = .ok (.iload_n 3, 1) := by decide +kernel
theorem dX6_freeStraps_13 : decode cX6_freeStraps 13 = .ok (.aload_n 0, 1) := by decide +kernel
theorem dX6_freeStraps_14 : decode cX6_freeStraps 14 = .ok (.getfield 7, 3) := by decide +kernel
theorem dX6_freeStraps_17 : decode cX6_freeStraps 17 = .ok (.bipush 6, 2) := by decide +kernel
theorem dX6_freeStraps_19 : decode cX6_freeStraps 19 = .ok (.iaload, 1) := by decide +kernel
theorem dX6_freeStraps_20 : decode cX6_freeStraps 20 = .ok (.if_icmp .ge 38, 3) := by decide +kernel
theorem dX6_freeStraps_23 : decode cX6_freeStraps 23 = .ok (.iload_n 2, 1) := by decide +kernel
theorem dX6_freeStraps_24 : decode cX6_freeStraps 24 = .ok (.aload_n 0, 1) := by decide +kernel
theorem dX6_freeStraps_25 : decode cX6_freeStraps 25 = .ok (.iload_n 3, 1) := by decide +kernel
theorem dX6_freeStraps_26 : decode cX6_freeStraps 26 = .ok (.iconst 5, 1) := by decide +kernel
theorem dX6_freeStraps_27 : decode cX6_freeStraps 27 = .ok (.invokevirtual 43, 3) := by decide +kernel
theorem dX6_freeStraps_30 : decode cX6_freeStraps 30 = .ok (.iconst 1, 1) := by decide +kernel
theorem dX6_freeStraps_31 : decode cX6_freeStraps 31 = .ok (.if_icmp .ne 18, 3) := by decide +kernel
theorem dX6_freeStraps_34 : decode cX6_freeStraps 34 = .ok (.aload_n 0, 1) := by decide +kernel
theorem dX6_freeStraps_35 : decode cX6_freeStraps 35 = .ok (.iload_n 3, 1) := by decide +kernel
theorem dX6_freeStraps_36 : decode cX6_freeStraps 36 = .ok (.bipush 8, 2) := by decide +kernel
theorem dX6_freeStraps_38 : decode cX6_freeStraps 38 = .ok (.invokevirtual 43, 3) := by decide +kernel
theorem dX6_freeStraps_41 : decode cX6_freeStraps 41 = .ok (.iload_n 1, 1) := by decide +kernel
theorem dX6_freeStraps_42 : decode cX6_freeStraps 42 = .ok (.if_icmp .ne 7, 3) := by decide +kernel
theorem dX6_freeStraps_45 : decode cX6_freeStraps 45 = .ok (.iconst 1, 1) := by decide +kernel
theorem dX6_freeStraps_46 : decode cX6_freeStraps 46 = .ok (.goto 4, 3) := by decide +kernel
theorem dX6_freeStraps_49 : decode cX6_freeStraps 49 = .ok (.iconst 0, 1) := by decide +kernel
theorem dX6_freeStraps_50 : decode cX6_freeStraps 50 = .ok (.isub, 1) := by decide +kernel
theorem dX6_freeStraps_51 : decode cX6_freeStraps 51 = .ok (.istore_n 2, 1) := by decide +kernel
theorem dX6_freeStraps_52 : decode cX6_freeStraps 52 = .ok (.iinc 3 1, 3) := by decide +kernel
theorem dX6_freeStraps_55 : decode cX6_freeStraps 55 = .ok (.goto (-43), 3) := by decide +kernel
theorem dX6_freeStraps_58 : decode cX6_freeStraps 58 = .ok (.iload_n 2, 1) := by decide +kernel
theorem dX6_freeStraps_59 : decode cX6_freeStraps 59 = .ok (.ireturn, 1) := by decide +kernel
theorem dX6_strength_0 : decode cX6_strength 0 = .ok (.iconst 0, 1) := by decide +kernel
theorem dX6_strength_1 : decode cX6_strength 1 = .ok (.istore_n 2, 1) := by decide +kernel
theorem dX6_strength_2 : decode cX6_strength 2 = .ok (.iconst 0, 1) := by decide +kernel
theorem dX6_strength_3 : decode cX6_strength 3 = .ok (.istore_n 3, 1) := by decide +kernel
theorem dX6_strength_4 : decode cX6_strength 4 = .ok (.iload_n 3, 1) := by decide +kernel
theorem dX6_strength_5 : decode cX6_strength 5 = .ok (.aload_n 0, 1) := by decide +kernel
theorem dX6_strength_6 : decode cX6_strength 6 = .ok (.getfield 7, 3) := by decide +kernel
theorem dX6_strength_9 : decode cX6_strength 9 = .ok (.iconst 5, 1) := by decide +kernel
theorem dX6_strength_10 : decode cX6_strength 10 = .ok (.iaload, 1) := by decide +kernel
theorem dX6_strength_11 : decode cX6_strength 11 = .ok (.if_icmp .ge 31, 3) := by decide +kernel
theorem dX6_strength_14 : decode cX6_strength 14 = .ok (.iload_n 2, 1) := by decide +kernel
theorem dX6_strength_15 : decode cX6_strength 15 = .ok (.iload_n 1, 1) := by decide +kernel
theorem dX6_strength_16 : decode cX6_strength 16 = .ok (.iload_n 3, 1) := by decide +kernel
theorem dX6_strength_17 : decode cX6_strength 17 = .ok (.ishr, 1) := by decide +kernel
theorem dX6_strength_18 : decode cX6_strength 18 = .ok (.iconst 1, 1) := by decide +kernel
theorem dX6_strength_19 : decode cX6_strength 19 = .ok (.iand, 1) := by decide +kernel
theorem dX6_strength_20 : decode cX6_strength 20 = .ok (.iconst 1, 1) := by decide +kernel
theorem dX6_strength_21 : decode cX6_strength 21 = .ok (.if_icmp .ne 12, 3) := by decide +kernel
theorem dX6_strength_24 : decode cX6_strength 24 = .ok (.aload_n 0, 1) := by decide +kernel
theorem dX6_strength_25 : decode cX6_strength 25 = .ok (.iload_n 3, 1) := by decide +kernel
theorem dX6_strength_26 : decode cX6_strength 26 = .ok (.iconst 1, 1) := by decide +kernel
theorem dX6_strength_27 : decode cX6_strength 27 = .ok (.invokevirtual 47, 3) := by decide +kernel
theorem dX6_strength_30 : decode cX6_strength 30 = .ok (.goto 4, 3) := by decide +kernel
theorem dX6_strength_33 : decode cX6_strength 33 = .ok (.iconst 0, 1) := by decide +kernel
theorem dX6_strength_34 : decode cX6_strength 34 = .ok (.iadd, 1) := by decide +kernel
theorem dX6_strength_35 : decode cX6_strength 35 = .ok (.istore_n 2, 1) := by decide +kernel
theorem dX6_strength_36 : decode cX6_strength 36 = .ok (.iinc 3 1, 3) := by decide +kernel
theorem dX6_strength_39 : decode cX6_strength 39 = .ok (.goto (-35), 3) := by decide +kernel
theorem dX6_strength_42 : decode cX6_strength 42 = .ok (.iload_n 2, 1) := by decide +kernel
theorem dX6_strength_43 : decode cX6_strength 43 = .ok (.ireturn, 1) := by decide +kernel
theorem dX6_canHave_0 : decode cX6_canHave 0 = .ok (.iload_n 2, 1) := by decide +kernel
theorem dX6_canHave_1 : decode cX6_canHave 1 = .ok (.bipush (-6), 2) := by decide +kernel
theorem dX6_canHave_3 : decode cX6_canHave 3 = .ok (.if_icmp .eq 25, 3) := by decide +kernel
theorem dX6_canHave_6 : decode cX6_canHave 6 = .ok (.aload_n 0, 1) := by decide +kernel
theorem dX6_canHave_7 : decode cX6_canHave 7 = .ok (.iload_n 2, 1) := by decide +kernel
theorem dX6_canHave_8 : decode cX6_canHave 8 = .ok (.invokevirtual 50, 3) := by decide +kernel
theorem dX6_canHave_11 : decode cX6_canHave 11 = .ok (.ifCond .le 21, 3) := by decide +kernel
theorem dX6_canHave_14 : decode cX6_canHave 14 = .ok (.iload_n 2, 1) := by decide +kernel
theorem dX6_canHave_15 : decode cX6_canHave 15 = .ok (.iconst 2, 1) := by decide +kernel
theorem dX6_canHave_16 : decode cX6_canHave 16 = .ok (.if_icmp .ne 12, 3) := by decide +kernel
theorem dX6_canHave_19 : decode cX6_canHave 19 = .ok (.aload_n 0, 1) := by decide +kernel
theorem dX6_canHave_20 : decode cX6_canHave 20 = .ok (.iload_n 1, 1) := by decide +kernel
theorem dX6_canHave_21 : decode cX6_canHave 21 = .ok (.iconst 1, 1) := by decide +kernel
theorem dX6_canHave_22 : decode cX6_canHave 22 = .ok (.invokevirtual 43, 3) := by decide +kernel
theorem dX6_canHave_25 : decode cX6_canHave 25 = .ok (.ifCond .ne 7, 3) := by decide +kernel
theorem dX6_canHave_28 : decode cX6_canHave 28 = .ok (.iconst 1, 1) := by decide +kernel
theorem dX6_canHave_29 : decode cX6_canHave 29 = .ok (.goto 4, 3) := by decide +kernel
theorem dX6_canHave_32 : decode cX6_canHave 32 = .ok (.iconst 0, 1) := by decide +kernel
theorem dX6_canHave_33 : decode cX6_canHave 33 = .ok (.ireturn, 1) := by decide +kernel
theorem dX6_reason_0 : decode cX6_reason 0 = .ok (.aload_n 0, 1) := by decide +kernel
theorem dX6_reason_1 : decode cX6_reason 1 = .ok (.iload_n 1, 1) := by decide +kernel
theorem dX6_reason_2 : decode cX6_reason 2 = .ok (.iconst 5, 1) := by decide +kernel
theorem dX6_reason_3 : decode cX6_reason 3 = .ok (.invokevirtual 43, 3) := by decide +kernel
theorem dX6_reason_6 : decode cX6_reason 6 = .ok (.ifCond .eq 5, 3) := by decide +kernel
theorem dX6_reason_9 : decode cX6_reason 9 = .ok (.iconst 1, 1) := by decide +kernel
theorem dX6_reason_10 : decode cX6_reason 10 = .ok (.ireturn, 1) := by decide +kernel
theorem dX6_reason_11 : decode cX6_reason 11 = .ok (.iload_n 2, 1) := by decide +kernel
theorem dX6_reason_12 : decode cX6_reason 12 = .ok (.ifCond .le 28, 3) := by decide +kernel
theorem dX6_reason_15 : decode cX6_reason 15 = .ok (.iload_n 2, 1) := by decide +kernel
theorem dX6_reason_16 : decode cX6_reason 16 = .ok (.iconst 1, 1) := by decide +kernel
theorem dX6_reason_17 : decode cX6_reason 17 = .ok (.aload_n 0, 1) := by decide +kernel
theorem dX6_reason_18 : decode cX6_reason 18 = .ok (.getfield 7, 3) := by decide +kernel
theorem dX6_reason_21 : decode cX6_reason 21 = .ok (.iconst 5, 1) := by decide +kernel
theorem dX6_reason_22 : decode cX6_reason 22 = .ok (.iaload, 1) := by decide +kernel
theorem dX6_reason_23 : decode cX6_reason 23 = .ok (.ishl, 1) := by decide +kernel
theorem dX6_reason_24 : decode cX6_reason 24 = .ok (.if_icmp .ge 16, 3) := by decide +kernel
theorem dX6_reason_27 : decode cX6_reason 27 = .ok (.iload_n 2, 1) := by decide +kernel
theorem dX6_reason_28 : decode cX6_reason 28 = .ok (.invokestatic 54, 3) := by decide +kernel
theorem dX6_reason_31 : decode cX6_reason 31 = .ok (.aload_n 0, 1) := by decide +kernel
theorem dX6_reason_32 : decode cX6_reason 32 = .ok (.getfield 7, 3) := by decide +kernel
theorem dX6_reason_35 : decode cX6_reason 35 = .ok (.iconst 3, 1) := by decide +kernel
theorem dX6_reason_36 : decode cX6_reason 36 = .ok (.iaload, 1) := by decide +kernel
theorem dX6_reason_37 : decode cX6_reason 37 = .ok (.if_icmp .le 5, 3) := by decide +kernel
theorem dX6_reason_40 : decode cX6_reason 40 = .ok (.iconst 2, 1) := by decide +kernel
theorem dX6_reason_41 : decode cX6_reason 41 = .ok (.ireturn, 1) := by decide +kernel
theorem dX6_reason_42 : decode cX6_reason 42 = .ok (.iload_n 2, 1) := by decide +kernel
theorem dX6_reason_43 : decode cX6_reason 43 = .ok (.aload_n 0, 1) := by decide +kernel
theorem dX6_reason_44 : decode cX6_reason 44 = .ok (.invokevirtual 57, 3) := by decide +kernel
theorem dX6_reason_47 : decode cX6_reason 47 = .ok (.iand, 1) := by decide +kernel
theorem dX6_reason_48 : decode cX6_reason 48 = .ok (.ifCond .eq 5, 3) := by decide +kernel
theorem dX6_reason_51 : decode cX6_reason 51 = .ok (.iconst 3, 1) := by decide +kernel
theorem dX6_reason_52 : decode cX6_reason 52 = .ok (.ireturn, 1) := by decide +kernel
theorem dX6_reason_53 : decode cX6_reason 53 = .ok (.aload_n 0, 1) := by decide +kernel
theorem dX6_reason_54 : decode cX6_reason 54 = .ok (.iload_n 1, 1) := by decide +kernel
theorem dX6_reason_55 : decode cX6_reason 55 = .ok (.iload_n 3, 1) := by decide +kernel
theorem dX6_reason_56 : decode cX6_reason 56 = .ok (.invokevirtual 61, 3) := by decide +kernel
theorem dX6_reason_59 : decode cX6_reason 59 = .ok (.ifCond .ne 5, 3) := by decide +kernel
theorem dX6_reason_62 : decode cX6_reason 62 = .ok (.iconst 4, 1) := by decide +kernel
theorem dX6_reason_63 : decode cX6_reason 63 = .ok (.ireturn, 1) := by decide +kernel
theorem dX6_reason_64 : decode cX6_reason 64 = .ok (.aload_n 0, 1) := by decide +kernel
theorem dX6_reason_65 : decode cX6_reason 65 = .ok (.iload_n 2, 1) := by decide +kernel
theorem dX6_reason_66 : decode cX6_reason 66 = .ok (.invokevirtual 65, 3) := by decide +kernel
theorem dX6_reason_69 : decode cX6_reason 69 = .ok (.aload_n 0, 1) := by decide +kernel
theorem dX6_reason_70 : decode cX6_reason 70 = .ok (.iload_n 1, 1) := by decide +kernel
theorem dX6_reason_71 : decode cX6_reason 71 = .ok (.iload_n 3, 1) := by decide +kernel
theorem dX6_reason_72 : decode cX6_reason 72 = .ok (.invokevirtual 68, 3) := by decide +kernel
theorem dX6_reason_75 : decode cX6_reason 75 = .ok (.if_icmp .ge 7, 3) := by decide +kernel
theorem dX6_reason_78 : decode cX6_reason 78 = .ok (.iconst 5, 1) := by decide +kernel
theorem dX6_reason_79 : decode cX6_reason 79 = .ok (.goto 4, 3) := by decide +kernel
theorem dX6_reason_82 : decode cX6_reason 82 = .ok (.iconst 0, 1) := by decide +kernel
theorem dX6_reason_83 : decode cX6_reason 83 = .ok (.ireturn, 1) := by decide +kernel
theorem dX6_strongestBut_0 : decode cX6_strongestBut 0 = .ok (.bipush (-6), 2) := by decide +kernel
theorem dX6_strongestBut_2 : decode cX6_strongestBut 2 = .ok (.istore_n 2, 1) := by decide +kernel
theorem dX6_strongestBut_3 : decode cX6_strongestBut 3 = .ok (.iconst 0, 1) := by decide +kernel
theorem dX6_strongestBut_4 : decode cX6_strongestBut 4 = .ok (.istore_n 3, 1) := by decide +kernel
theorem dX6_strongestBut_5 : decode cX6_strongestBut 5 = .ok (.iload_n 3, 1) := by decide +kernel
theorem dX6_strongestBut_6 : decode cX6_strongestBut 6 = .ok (.aload_n 0, 1) := by decide +kernel
theorem dX6_strongestBut_7 : decode cX6_strongestBut 7 = .ok (.getfield 7, 3) := by decide +kernel
theorem dX6_strongestBut_10 : decode cX6_strongestBut 10 = .ok (.iconst 5, 1) := by decide +kernel
theorem dX6_strongestBut_11 : decode cX6_strongestBut 11 = .ok (.iaload, 1) := by decide +kernel
theorem dX6_strongestBut_12 : decode cX6_strongestBut 12 = .ok (.if_icmp .ge 56, 3) := by decide +kernel
theorem dX6_strongestBut_15 : decode cX6_strongestBut 15 = .ok (.iload_n 1, 1) := by decide +kernel
theorem dX6_strongestBut_16 : decode cX6_strongestBut 16 = .ok (.iload_n 3, 1) := by decide +kernel
theorem dX6_strongestBut_17 : decode cX6_strongestBut 17 = .ok (.ishr, 1) := by decide +kernel
theorem dX6_strongestBut_18 : decode cX6_strongestBut 18 = .ok (.iconst 1, 1) := by decide +kernel
theorem dX6_strongestBut_19 : decode cX6_strongestBut 19 = .ok (.iand, 1) := by decide +kernel
theorem dX6_strongestBut_20 : decode cX6_strongestBut 20 = .ok (.ifCond .ne 7, 3) := by decide +kernel
theorem dX6_strongestBut_23 : decode cX6_strongestBut 23 = .ok (.iconst 1, 1) := by decide +kernel
theorem dX6_strongestBut_24 : decode cX6_strongestBut 24 = .ok (.goto 4, 3) := by decide +kernel
theorem dX6_strongestBut_27 : decode cX6_strongestBut 27 = .ok (.iconst 0, 1) := by decide +kernel
theorem dX6_strongestBut_28 : decode cX6_strongestBut 28 = .ok (.istore 4, 2) := by decide +kernel
theorem dX6_strongestBut_30 : decode cX6_strongestBut 30 = .ok (.iload 4, 2) := by decide +kernel
theorem dX6_strongestBut_32 : decode cX6_strongestBut 32 = .ok (.ifCond .eq 28, 3) := by decide +kernel
theorem dX6_strongestBut_35 : decode cX6_strongestBut 35 = .ok (.iload_n 2, 1) := by decide +kernel
theorem dX6_strongestBut_36 : decode cX6_strongestBut 36 = .ok (.bipush (-6), 2) := by decide +kernel
theorem dX6_strongestBut_38 : decode cX6_strongestBut 38 = .ok (.if_icmp .eq 18, 3) := by decide +kernel
theorem dX6_strongestBut_41 : decode cX6_strongestBut 41 = .ok (.aload_n 0, 1) := by decide +kernel
theorem dX6_strongestBut_42 : decode cX6_strongestBut 42 = .ok (.iload_n 3, 1) := by decide +kernel
theorem dX6_strongestBut_43 : decode cX6_strongestBut 43 = .ok (.iconst 1, 1) := by decide +kernel
theorem dX6_strongestBut_44 : decode cX6_strongestBut 44 = .ok (.invokevirtual 47, 3) := by decide +kernel
theorem dX6_strongestBut_47 : decode cX6_strongestBut 47 = .ok (.aload_n 0, 1) := by decide +kernel
theorem dX6_strongestBut_48 : decode cX6_strongestBut 48 = .ok (.iload_n 2, 1) := by decide +kernel
theorem dX6_strongestBut_49 : decode cX6_strongestBut 49 = .ok (.iconst 1, 1) := by decide +kernel
theorem dX6_strongestBut_50 : decode cX6_strongestBut 50 = .ok (.invokevirtual 47, 3) := by decide +kernel
theorem dX6_strongestBut_53 : decode cX6_strongestBut 53 = .ok (.if_icmp .le 7, 3) := by decide +kernel
theorem dX6_strongestBut_56 : decode cX6_strongestBut 56 = .ok (.iload_n 3, 1) := by decide +kernel
theorem dX6_strongestBut_57 : decode cX6_strongestBut 57 = .ok (.goto 4, 3) := by decide +kernel
theorem dX6_strongestBut_60 : decode cX6_strongestBut 60 = .ok (.iload_n 2, 1) := by decide +kernel
theorem dX6_strongestBut_61 : decode cX6_strongestBut 61 = .ok (.istore_n 2, 1) := by decide +kernel
theorem dX6_strongestBut_62 : decode cX6_strongestBut 62 = .ok (.iinc 3 1, 3) := by decide +kernel
theorem dX6_strongestBut_65 : decode cX6_strongestBut 65 = .ok (.goto (-60), 3) := by decide +kernel
theorem dX6_strongestBut_68 : decode cX6_strongestBut 68 = .ok (.iload_n 2, 1) := by decide +kernel
theorem dX6_strongestBut_69 : decode cX6_strongestBut 69 = .ok (.ireturn, 1) := by decide +kernel
theorem dX6_crewFor_0 : decode cX6_crewFor 0 = .ok (.aload_n 0, 1) := by decide +kernel
theorem dX6_crewFor_1 : decode cX6_crewFor 1 = .ok (.iload_n 1, 1) := by decide +kernel
theorem dX6_crewFor_2 : decode cX6_crewFor 2 = .ok (.iload_n 2, 1) := by decide +kernel
theorem dX6_crewFor_3 : decode cX6_crewFor 3 = .ok (.invokevirtual 61, 3) := by decide +kernel
theorem dX6_crewFor_6 : decode cX6_crewFor 6 = .ok (.ifCond .ne 6, 3) := by decide +kernel
theorem dX6_crewFor_9 : decode cX6_crewFor 9 = .ok (.bipush (-6), 2) := by decide +kernel
theorem dX6_crewFor_11 : decode cX6_crewFor 11 = .ok (.ireturn, 1) := by decide +kernel
theorem dX6_crewFor_12 : decode cX6_crewFor 12 = .ok (.aload_n 0, 1) := by decide +kernel
theorem dX6_crewFor_13 : decode cX6_crewFor 13 = .ok (.invokevirtual 57, 3) := by decide +kernel
theorem dX6_crewFor_16 : decode cX6_crewFor 16 = .ok (.istore_n 3, 1) := by decide +kernel
theorem dX6_crewFor_17 : decode cX6_crewFor 17 = .ok (.iconst 0, 1) := by decide +kernel
theorem dX6_crewFor_18 : decode cX6_crewFor 18 = .ok (.istore 4, 2) := by decide +kernel
theorem dX6_crewFor_20 : decode cX6_crewFor 20 = .ok (.aload_n 0, 1) := by decide +kernel
theorem dX6_crewFor_21 : decode cX6_crewFor 21 = .ok (.iload_n 1, 1) := by decide +kernel
theorem dX6_crewFor_22 : decode cX6_crewFor 22 = .ok (.iload_n 2, 1) := by decide +kernel
theorem dX6_crewFor_23 : decode cX6_crewFor 23 = .ok (.invokevirtual 68, 3) := by decide +kernel
theorem dX6_crewFor_26 : decode cX6_crewFor 26 = .ok (.istore 5, 2) := by decide +kernel
theorem dX6_crewFor_28 : decode cX6_crewFor 28 = .ok (.aload_n 0, 1) := by decide +kernel
theorem dX6_crewFor_29 : decode cX6_crewFor 29 = .ok (.iload 4, 2) := by decide +kernel
theorem dX6_crewFor_31 : decode cX6_crewFor 31 = .ok (.invokevirtual 65, 3) := by decide +kernel
theorem dX6_crewFor_34 : decode cX6_crewFor 34 = .ok (.iload 5, 2) := by decide +kernel
theorem dX6_crewFor_36 : decode cX6_crewFor 36 = .ok (.if_icmp .ge 49, 3) := by decide +kernel
theorem dX6_crewFor_39 : decode cX6_crewFor 39 = .ok (.aload_n 0, 1) := by decide +kernel
theorem dX6_crewFor_40 : decode cX6_crewFor 40 = .ok (.iload_n 3, 1) := by decide +kernel
theorem dX6_crewFor_41 : decode cX6_crewFor 41 = .ok (.iload 4, 2) := by decide +kernel
theorem dX6_crewFor_43 : decode cX6_crewFor 43 = .ok (.ior, 1) := by decide +kernel
theorem dX6_crewFor_44 : decode cX6_crewFor 44 = .ok (.invokevirtual 71, 3) := by decide +kernel
theorem dX6_crewFor_47 : decode cX6_crewFor 47 = .ok (.istore 6, 2) := by decide +kernel
theorem dX6_crewFor_49 : decode cX6_crewFor 49 = .ok (.iload 6, 2) := by decide +kernel
theorem dX6_crewFor_51 : decode cX6_crewFor 51 = .ok (.bipush (-6), 2) := by decide +kernel
theorem dX6_crewFor_53 : decode cX6_crewFor 53 = .ok (.if_icmp .eq 17, 3) := by decide +kernel
theorem dX6_crewFor_56 : decode cX6_crewFor 56 = .ok (.iload 4, 2) := by decide +kernel
theorem dX6_crewFor_58 : decode cX6_crewFor 58 = .ok (.invokestatic 54, 3) := by decide +kernel
theorem dX6_crewFor_61 : decode cX6_crewFor 61 = .ok (.aload_n 0, 1) := by decide +kernel
theorem dX6_crewFor_62 : decode cX6_crewFor 62 = .ok (.getfield 7, 3) := by decide +kernel
theorem dX6_crewFor_65 : decode cX6_crewFor 65 = .ok (.iconst 3, 1) := by decide +kernel
theorem dX6_crewFor_66 : decode cX6_crewFor 66 = .ok (.iaload, 1) := by decide +kernel
theorem dX6_crewFor_67 : decode cX6_crewFor 67 = .ok (.if_icmp .ne 6, 3) := by decide +kernel
theorem dX6_crewFor_70 : decode cX6_crewFor 70 = .ok (.bipush (-6), 2) := by decide +kernel
theorem dX6_crewFor_72 : decode cX6_crewFor 72 = .ok (.ireturn, 1) := by decide +kernel
theorem dX6_crewFor_73 : decode cX6_crewFor 73 = .ok (.iload 4, 2) := by decide +kernel
theorem dX6_crewFor_75 : decode cX6_crewFor 75 = .ok (.iconst 1, 1) := by decide +kernel
theorem dX6_crewFor_76 : decode cX6_crewFor 76 = .ok (.iload 6, 2) := by decide +kernel
theorem dX6_crewFor_78 : decode cX6_crewFor 78 = .ok (.ishl, 1) := by decide +kernel
theorem dX6_crewFor_79 : decode cX6_crewFor 79 = .ok (.ior, 1) := by decide +kernel
theorem dX6_crewFor_80 : decode cX6_crewFor 80 = .ok (.istore 4, 2) := by decide +kernel
theorem dX6_crewFor_82 : decode cX6_crewFor 82 = .ok (.goto (-54), 3) := by decide +kernel
theorem dX6_crewFor_85 : decode cX6_crewFor 85 = .ok (.iload 4, 2) := by decide +kernel
theorem dX6_crewFor_87 : decode cX6_crewFor 87 = .ok (.ireturn, 1) := by decide +kernel
theorem dX6_strapsFor_0 : decode cX6_strapsFor 0 = .ok (.bipush (-6), 2) := by decide +kernel
theorem dX6_strapsFor_2 : decode cX6_strapsFor 2 = .ok (.istore_n 2, 1) := by decide +kernel
theorem dX6_strapsFor_3 : decode cX6_strapsFor 3 = .ok (.iconst 0, 1) := by decide +kernel
theorem dX6_strapsFor_4 : decode cX6_strapsFor 4 = .ok (.istore_n 3, 1) := by decide +kernel
theorem dX6_strapsFor_5 : decode cX6_strapsFor 5 = .ok (.iconst 0, 1) := by decide +kernel
theorem dX6_strapsFor_6 : decode cX6_strapsFor 6 = .ok (.istore 4, 2) := by decide +kernel
theorem dX6_strapsFor_8 : decode cX6_strapsFor 8 = .ok (.iload 4, 2) := by decide +kernel
theorem dX6_strapsFor_10 : decode cX6_strapsFor 10 = .ok (.iconst 4, 1) := by decide +kernel
theorem dX6_strapsFor_11 : decode cX6_strapsFor 11 = .ok (.if_icmp .ge 97, 3) := by decide +kernel
theorem dX6_strapsFor_14 : decode cX6_strapsFor 14 = .ok (.aload_n 0, 1) := by decide +kernel
theorem dX6_strapsFor_15 : decode cX6_strapsFor 15 = .ok (.iload_n 1, 1) := by decide +kernel
theorem dX6_strapsFor_16 : decode cX6_strapsFor 16 = .ok (.iload 4, 2) := by decide +kernel
theorem dX6_strapsFor_18 : decode cX6_strapsFor 18 = .ok (.ifCond .ne 8, 3) := by decide +kernel
theorem dX6_strapsFor_21 : decode cX6_strapsFor 21 = .ok (.bipush (-6), 2) := by decide +kernel
theorem dX6_strapsFor_23 : decode cX6_strapsFor 23 = .ok (.goto 7, 3) := by decide +kernel
theorem dX6_strapsFor_26 : decode cX6_strapsFor 26 = .ok (.iload 4, 2) := by decide +kernel
theorem dX6_strapsFor_28 : decode cX6_strapsFor 28 = .ok (.iconst 1, 1) := by decide +kernel
theorem dX6_strapsFor_29 : decode cX6_strapsFor 29 = .ok (.isub, 1) := by decide +kernel
theorem dX6_strapsFor_30 : decode cX6_strapsFor 30 = .ok (.invokevirtual 74, 3) := by decide +kernel
theorem dX6_strapsFor_33 : decode cX6_strapsFor 33 = .ok (.istore 5, 2) := by decide +kernel
theorem dX6_strapsFor_35 : decode cX6_strapsFor 35 = .ok (.iload 5, 2) := by decide +kernel
theorem dX6_strapsFor_37 : decode cX6_strapsFor 37 = .ok (.bipush (-6), 2) := by decide +kernel
theorem dX6_strapsFor_39 : decode cX6_strapsFor 39 = .ok (.if_icmp .eq 22, 3) := by decide +kernel
theorem dX6_strapsFor_42 : decode cX6_strapsFor 42 = .ok (.iload_n 2, 1) := by decide +kernel
theorem dX6_strapsFor_43 : decode cX6_strapsFor 43 = .ok (.bipush (-6), 2) := by decide +kernel
theorem dX6_strapsFor_45 : decode cX6_strapsFor 45 = .ok (.if_icmp .eq 12, 3) := by decide +kernel
theorem dX6_strapsFor_48 : decode cX6_strapsFor 48 = .ok (.iload 5, 2) := by decide +kernel
theorem dX6_strapsFor_50 : decode cX6_strapsFor 50 = .ok (.invokestatic 54, 3) := by decide +kernel
theorem dX6_strapsFor_53 : decode cX6_strapsFor 53 = .ok (.iload_n 3, 1) := by decide +kernel
theorem dX6_strapsFor_54 : decode cX6_strapsFor 54 = .ok (.if_icmp .ge 7, 3) := by decide +kernel
theorem dX6_strapsFor_57 : decode cX6_strapsFor 57 = .ok (.iconst 1, 1) := by decide +kernel
theorem dX6_strapsFor_58 : decode cX6_strapsFor 58 = .ok (.goto 4, 3) := by decide +kernel
theorem dX6_strapsFor_61 : decode cX6_strapsFor 61 = .ok (.iconst 0, 1) := by decide +kernel
theorem dX6_strapsFor_62 : decode cX6_strapsFor 62 = .ok (.istore 6, 2) := by decide +kernel
theorem dX6_strapsFor_64 : decode cX6_strapsFor 64 = .ok (.iload 6, 2) := by decide +kernel
theorem dX6_strapsFor_66 : decode cX6_strapsFor 66 = .ok (.ifCond .eq 19, 3) := by decide +kernel
theorem dX6_strapsFor_69 : decode cX6_strapsFor 69 = .ok (.iload 4, 2) := by decide +kernel
theorem dX6_strapsFor_71 : decode cX6_strapsFor 71 = .ok (.ifCond .ne 7, 3) := by decide +kernel
theorem dX6_strapsFor_74 : decode cX6_strapsFor 74 = .ok (.iconst 3, 1) := by decide +kernel
theorem dX6_strapsFor_75 : decode cX6_strapsFor 75 = .ok (.goto 11, 3) := by decide +kernel
theorem dX6_strapsFor_78 : decode cX6_strapsFor 78 = .ok (.iload 4, 2) := by decide +kernel
theorem dX6_strapsFor_80 : decode cX6_strapsFor 80 = .ok (.iconst 1, 1) := by decide +kernel
theorem dX6_strapsFor_81 : decode cX6_strapsFor 81 = .ok (.isub, 1) := by decide +kernel
theorem dX6_strapsFor_82 : decode cX6_strapsFor 82 = .ok (.goto 4, 3) := by decide +kernel
theorem dX6_strapsFor_85 : decode cX6_strapsFor 85 = .ok (.iload_n 2, 1) := by decide +kernel
theorem dX6_strapsFor_86 : decode cX6_strapsFor 86 = .ok (.istore_n 2, 1) := by decide +kernel
theorem dX6_strapsFor_87 : decode cX6_strapsFor 87 = .ok (.iload 6, 2) := by decide +kernel
theorem dX6_strapsFor_89 : decode cX6_strapsFor 89 = .ok (.ifCond .eq 11, 3) := by decide +kernel
theorem dX6_strapsFor_92 : decode cX6_strapsFor 92 = .ok (.iload 5, 2) := by decide +kernel
theorem dX6_strapsFor_94 : decode cX6_strapsFor 94 = .ok (.invokestatic 54, 3) := by decide +kernel
theorem dX6_strapsFor_97 : decode cX6_strapsFor 97 = .ok (.goto 4, 3) := by decide +kernel
theorem dX6_strapsFor_100 : decode cX6_strapsFor 100 = .ok (.iload_n 3, 1) := by decide +kernel
theorem dX6_strapsFor_101 : decode cX6_strapsFor 101 = .ok (.istore_n 3, 1) := by decide +kernel
theorem dX6_strapsFor_102 : decode cX6_strapsFor 102 = .ok (.iinc 4 1, 3) := by decide +kernel
theorem dX6_strapsFor_105 : decode cX6_strapsFor 105 = .ok (.goto (-97), 3) := by decide +kernel
theorem dX6_strapsFor_108 : decode cX6_strapsFor 108 = .ok (.iload_n 2, 1) := by decide +kernel
theorem dX6_strapsFor_109 : decode cX6_strapsFor 109 = .ok (.ireturn, 1) := by decide +kernel
theorem dX6_begins_0 : decode cX6_begins 0 = .ok (.aload_n 0, 1) := by decide +kernel
theorem dX6_begins_1 : decode cX6_begins 1 = .ok (.iload_n 1, 1) := by decide +kernel
theorem dX6_begins_2 : decode cX6_begins 2 = .ok (.iload_n 3, 1) := by decide +kernel
theorem dX6_begins_3 : decode cX6_begins 3 = .ok (.invokevirtual 68, 3) := by decide +kernel
theorem dX6_begins_6 : decode cX6_begins 6 = .ok (.istore 4, 2) := by decide +kernel
theorem dX6_begins_8 : decode cX6_begins 8 = .ok (.aload_n 0, 1) := by decide +kernel
theorem dX6_begins_9 : decode cX6_begins 9 = .ok (.iload_n 1, 1) := by decide +kernel
theorem dX6_begins_10 : decode cX6_begins 10 = .ok (.bipush 6, 2) := by decide +kernel
theorem dX6_begins_12 : decode cX6_begins 12 = .ok (.iload 4, 2) := by decide +kernel
theorem dX6_begins_14 : decode cX6_begins 14 = .ok (.invokevirtual 77, 3) := by decide +kernel
theorem dX6_begins_17 : decode cX6_begins 17 = .ok (.aload_n 0, 1) := by decide +kernel
theorem dX6_begins_18 : decode cX6_begins 18 = .ok (.iload_n 1, 1) := by decide +kernel
theorem dX6_begins_19 : decode cX6_begins 19 = .ok (.bipush 7, 2) := by decide +kernel
theorem dX6_begins_21 : decode cX6_begins 21 = .ok (.iload_n 2, 1) := by decide +kernel
