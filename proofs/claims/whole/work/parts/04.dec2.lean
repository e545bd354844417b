theorem dX11_step_47 : decode cX11_step 47 = .ok (.if_icmp .ne 7, 3) := by decide +kernel
theorem dX11_step_50 : decode cX11_step 50 = .ok (.iconst 3, 1) := by decide +kernel
theorem dX11_step_51 : decode cX11_step 51 = .ok (.goto 15, 3) := by decide +kernel
theorem dX11_step_54 : decode cX11_step 54 = .ok (.iload_n 1, 1) := by decide +kernel
theorem dX11_step_55 : decode cX11_step 55 = .ok (.bipush 46, 2) := by decide +kernel
theorem dX11_step_57 : decode cX11_step 57 = .ok (.if_icmp .ne 7, 3) := by decide +kernel
theorem dX11_step_60 : decode cX11_step 60 = .ok (.iconst 0, 1) := by decide +kernel
theorem dX11_step_61 : decode cX11_step 61 = .ok (.goto 5, 3) := by decide +kernel
theorem dX11_step_64 : decode cX11_step 64 = .ok (.bipush (-6), 2) := by decide +kernel
theorem dX11_step_66 : decode cX11_step 66 = .ok (.ireturn, 1) := by decide +kernel
theorem dX11_step_67 : decode cX11_step 67 = .ok (.iload_n 1, 1) := by decide +kernel
theorem dX11_step_68 : decode cX11_step 68 = .ok (.bipush 48, 2) := by decide +kernel
theorem dX11_step_70 : decode cX11_step 70 = .ok (.bipush 54, 2) := by decide +kernel
theorem dX11_step_72 : decode cX11_step 72 = .ok (.invokestatic 54, 3) := by decide +kernel
theorem dX11_step_75 : decode cX11_step 75 = .ok (.ifCond .ne 15, 3) := by decide +kernel
theorem dX11_step_78 : decode cX11_step 78 = .ok (.iload_n 1, 1) := by decide +kernel
theorem dX11_step_79 : decode cX11_step 79 = .ok (.bipush 45, 2) := by decide +kernel
theorem dX11_step_81 : decode cX11_step 81 = .ok (.if_icmp .eq 9, 3) := by decide +kernel
theorem dX11_step_84 : decode cX11_step 84 = .ok (.iload_n 1, 1) := by decide +kernel
theorem dX11_step_85 : decode cX11_step 85 = .ok (.bipush 43, 2) := by decide +kernel
theorem dX11_step_87 : decode cX11_step 87 = .ok (.if_icmp .ne 7, 3) := by decide +kernel
theorem dX11_step_90 : decode cX11_step 90 = .ok (.iconst 0, 1) := by decide +kernel
theorem dX11_step_91 : decode cX11_step 91 = .ok (.goto 21, 3) := by decide +kernel
theorem dX11_step_94 : decode cX11_step 94 = .ok (.iload_n 1, 1) := by decide +kernel
theorem dX11_step_95 : decode cX11_step 95 = .ok (.bipush 62, 2) := by decide +kernel
theorem dX11_step_97 : decode cX11_step 97 = .ok (.if_icmp .eq 9, 3) := by decide +kernel
theorem dX11_step_100 : decode cX11_step 100 = .ok (.iload_n 1, 1) := by decide +kernel
theorem dX11_step_101 : decode cX11_step 101 = .ok (.bipush 36, 2) := by decide +kernel
theorem dX11_step_103 : decode cX11_step 103 = .ok (.if_icmp .ne 7, 3) := by decide +kernel
theorem dX11_step_106 : decode cX11_step 106 = .ok (.iconst 2, 1) := by decide +kernel
theorem dX11_step_107 : decode cX11_step 107 = .ok (.goto 5, 3) := by decide +kernel
theorem dX11_step_110 : decode cX11_step 110 = .ok (.bipush (-6), 2) := by decide +kernel
theorem dX11_step_112 : decode cX11_step 112 = .ok (.ireturn, 1) := by decide +kernel
theorem dX11_step_113 : decode cX11_step 113 = .ok (.iload_n 2, 1) := by decide +kernel
theorem dX11_step_114 : decode cX11_step 114 = .ok (.ifCond .eq 7, 3) := by decide +kernel
theorem dX11_step_117 : decode cX11_step 117 = .ok (.iconst 0, 1) := by decide +kernel
theorem dX11_step_118 : decode cX11_step 118 = .ok (.goto 5, 3) := by decide +kernel
theorem dX11_step_121 : decode cX11_step 121 = .ok (.bipush (-6), 2) := by decide +kernel
theorem dX11_step_123 : decode cX11_step 123 = .ok (.ireturn, 1) := by decide +kernel
theorem dX11_step_124 : decode cX11_step 124 = .ok (.iload_n 1, 1) := by decide +kernel
theorem dX11_step_125 : decode cX11_step 125 = .ok (.bipush 48, 2) := by decide +kernel
theorem dX11_step_127 : decode cX11_step 127 = .ok (.bipush 51, 2) := by decide +kernel
theorem dX11_step_129 : decode cX11_step 129 = .ok (.invokestatic 54, 3) := by decide +kernel
theorem dX11_step_132 : decode cX11_step 132 = .ok (.ifCond .eq 7, 3) := by decide +kernel
theorem dX11_step_135 : decode cX11_step 135 = .ok (.iconst 0, 1) := by decide +kernel
theorem dX11_step_136 : decode cX11_step 136 = .ok (.goto 5, 3) := by decide +kernel
theorem dX11_step_139 : decode cX11_step 139 = .ok (.bipush (-6), 2) := by decide +kernel
theorem dX11_step_141 : decode cX11_step 141 = .ok (.ireturn, 1) := by decide +kernel
theorem dX11_faultOf_0 : decode cX11_faultOf 0 = .ok (.iconst 0, 1) := by decide +kernel
theorem dX11_faultOf_1 : decode cX11_faultOf 1 = .ok (.istore_n 1, 1) := by decide +kernel
theorem dX11_faultOf_2 : decode cX11_faultOf 2 = .ok (.iconst 0, 1) := by decide +kernel
theorem dX11_faultOf_3 : decode cX11_faultOf 3 = .ok (.istore_n 2, 1) := by decide +kernel
theorem dX11_faultOf_4 : decode cX11_faultOf 4 = .ok (.iload_n 2, 1) := by decide +kernel
theorem dX11_faultOf_5 : decode cX11_faultOf 5 = .ok (.aload_n 0, 1) := by decide +kernel
theorem dX11_faultOf_6 : decode cX11_faultOf 6 = .ok (.getfield 58, 3) := by decide +kernel
theorem dX11_faultOf_9 : decode cX11_faultOf 9 = .ok (.if_icmp .ge 26, 3) := by decide +kernel
theorem dX11_faultOf_12 : decode cX11_faultOf 12 = .ok (.iload_n 1, 1) := by decide +kernel
theorem dX11_faultOf_13 : decode cX11_faultOf 13 = .ok (.aload_n 0, 1) := by decide +kernel
theorem dX11_faultOf_14 : decode cX11_faultOf 14 = .ok (.getfield 19, 3) := by decide +kernel
theorem dX11_faultOf_17 : decode cX11_faultOf 17 = .ok (.iload_n 2, 1) := by decide +kernel
theorem dX11_faultOf_18 : decode cX11_faultOf 18 = .ok (.iaload, 1) := by decide +kernel
theorem dX11_faultOf_19 : decode cX11_faultOf 19 = .ok (.invokestatic 62, 3) := by decide +kernel
theorem dX11_faultOf_22 : decode cX11_faultOf 22 = .ok (.istore_n 1, 1) := by decide +kernel
theorem dX11_faultOf_23 : decode cX11_faultOf 23 = .ok (.iload_n 1, 1) := by decide +kernel
theorem dX11_faultOf_24 : decode cX11_faultOf 24 = .ok (.ifCond .ge 5, 3) := by decide +kernel
theorem dX11_faultOf_27 : decode cX11_faultOf 27 = .ok (.iload_n 2, 1) := by decide +kernel
theorem dX11_faultOf_28 : decode cX11_faultOf 28 = .ok (.ireturn, 1) := by decide +kernel
theorem dX11_faultOf_29 : decode cX11_faultOf 29 = .ok (.iinc 2 1, 3) := by decide +kernel
theorem dX11_faultOf_32 : decode cX11_faultOf 32 = .ok (.goto (-28), 3) := by decide +kernel
theorem dX11_faultOf_35 : decode cX11_faultOf 35 = .ok (.iload_n 1, 1) := by decide +kernel
theorem dX11_faultOf_36 : decode cX11_faultOf 36 = .ok (.ifCond .ne 8, 3) := by decide +kernel
theorem dX11_faultOf_39 : decode cX11_faultOf 39 = .ok (.bipush (-6), 2) := by decide +kernel
theorem dX11_faultOf_41 : decode cX11_faultOf 41 = .ok (.goto 7, 3) := by decide +kernel
theorem dX11_faultOf_44 : decode cX11_faultOf 44 = .ok (.aload_n 0, 1) := by decide +kernel
theorem dX11_faultOf_45 : decode cX11_faultOf 45 = .ok (.getfield 58, 3) := by decide +kernel
theorem dX11_faultOf_48 : decode cX11_faultOf 48 = .ok (.ireturn, 1) := by decide +kernel
theorem dX11_fault_0 : decode cX11_fault 0 = .ok (.aload_n 0, 1) := by decide +kernel
theorem dX11_fault_1 : decode cX11_fault 1 = .ok (.invokevirtual 66, 3) := by decide +kernel
theorem dX11_fault_4 : decode cX11_fault 4 = .ok (.ireturn, 1) := by decide +kernel
theorem dX11_asNow_0 : decode cX11_asNow 0 = .ok (.iconst 0, 1) := by decide +kernel
theorem dX11_asNow_1 : decode cX11_asNow 1 = .ok (.istore_n 1, 1) := by decide +kernel
theorem dX11_asNow_2 : decode cX11_asNow 2 = .ok (.iload_n 1, 1) := by decide +kernel
theorem dX11_asNow_3 : decode cX11_asNow 3 = .ok (.bipush 31, 2) := by decide +kernel
theorem dX11_asNow_5 : decode cX11_asNow 5 = .ok (.if_icmp .ge 21, 3) := by decide +kernel
theorem dX11_asNow_8 : decode cX11_asNow 8 = .ok (.aload_n 0, 1) := by decide +kernel
theorem dX11_asNow_9 : decode cX11_asNow 9 = .ok (.getfield 13, 3) := by decide +kernel
theorem dX11_asNow_12 : decode cX11_asNow 12 = .ok (.iload_n 1, 1) := by decide +kernel
theorem dX11_asNow_13 : decode cX11_asNow 13 = .ok (.aload_n 0, 1) := by decide +kernel
theorem dX11_asNow_14 : decode cX11_asNow 14 = .ok (.getfield 7, 3) := by decide +kernel
theorem dX11_asNow_17 : decode cX11_asNow 17 = .ok (.iload_n 1, 1) := by decide +kernel
theorem dX11_asNow_18 : decode cX11_asNow 18 = .ok (.iaload, 1) := by decide +kernel
theorem dX11_asNow_19 : decode cX11_asNow 19 = .ok (.iastore, 1) := by decide +kernel
theorem dX11_asNow_20 : decode cX11_asNow 20 = .ok (.iinc 1 1, 3) := by decide +kernel
theorem dX11_asNow_23 : decode cX11_asNow 23 = .ok (.goto (-21), 3) := by decide +kernel
theorem dX11_asNow_26 : decode cX11_asNow 26 = .ok (.aload_n 0, 1) := by decide +kernel
theorem dX11_asNow_27 : decode cX11_asNow 27 = .ok (.iconst 0, 1) := by decide +kernel
theorem dX11_asNow_28 : decode cX11_asNow 28 = .ok (.putfield 70, 3) := by decide +kernel
theorem dX11_asNow_31 : decode cX11_asNow 31 = .ok (.aload_n 0, 1) := by decide +kernel
theorem dX11_asNow_32 : decode cX11_asNow 32 = .ok (.iconst 0, 1) := by decide +kernel
theorem dX11_asNow_33 : decode cX11_asNow 33 = .ok (.putfield 73, 3) := by decide +kernel
theorem dX11_asNow_36 : decode cX11_asNow 36 = .ok (.aload_n 0, 1) := by decide +kernel
theorem dX11_asNow_37 : decode cX11_asNow 37 = .ok (.bipush (-6), 2) := by decide +kernel
theorem dX11_asNow_39 : decode cX11_asNow 39 = .ok (.putfield 76, 3) := by decide +kernel
theorem dX11_asNow_42 : decode cX11_asNow 42 = .ok (.return_, 1) := by decide +kernel
theorem dX11_chalkOf_0 : decode cX11_chalkOf 0 = .ok (.iconst 0, 1) := by decide +kernel
theorem dX11_chalkOf_1 : decode cX11_chalkOf 1 = .ok (.istore_n 2, 1) := by decide +kernel
theorem dX11_chalkOf_2 : decode cX11_chalkOf 2 = .ok (.iconst 0, 1) := by decide +kernel
theorem dX11_chalkOf_3 : decode cX11_chalkOf 3 = .ok (.istore_n 3, 1) := by decide +kernel
theorem dX11_chalkOf_4 : decode cX11_chalkOf 4 = .ok (.iload_n 3, 1) := by decide +kernel
theorem dX11_chalkOf_5 : decode cX11_chalkOf 5 = .ok (.bipush 8, 2) := by decide +kernel
theorem dX11_chalkOf_7 : decode cX11_chalkOf 7 = .ok (.if_icmp .ge 27, 3) := by decide +kernel
theorem dX11_chalkOf_10 : decode cX11_chalkOf 10 = .ok (.iload_n 2, 1) := by decide +kernel
theorem dX11_chalkOf_11 : decode cX11_chalkOf 11 = .ok (.aload_n 0, 1) := by decide +kernel
theorem dX11_chalkOf_12 : decode cX11_chalkOf 12 = .ok (.getfield 13, 3) := by decide +kernel
theorem dX11_chalkOf_15 : decode cX11_chalkOf 15 = .ok (.iload_n 3, 1) := by decide +kernel
theorem dX11_chalkOf_16 : decode cX11_chalkOf 16 = .ok (.iaload, 1) := by decide +kernel
theorem dX11_chalkOf_17 : decode cX11_chalkOf 17 = .ok (.iload_n 1, 1) := by decide +kernel
theorem dX11_chalkOf_18 : decode cX11_chalkOf 18 = .ok (.if_icmp .ne 7, 3) := by decide +kernel
theorem dX11_chalkOf_21 : decode cX11_chalkOf 21 = .ok (.iconst 1, 1) := by decide +kernel
theorem dX11_chalkOf_22 : decode cX11_chalkOf 22 = .ok (.goto 4, 3) := by decide +kernel
theorem dX11_chalkOf_25 : decode cX11_chalkOf 25 = .ok (.iconst 0, 1) := by decide +kernel
theorem dX11_chalkOf_26 : decode cX11_chalkOf 26 = .ok (.iadd, 1) := by decide +kernel
theorem dX11_chalkOf_27 : decode cX11_chalkOf 27 = .ok (.istore_n 2, 1) := by decide +kernel
theorem dX11_chalkOf_28 : decode cX11_chalkOf 28 = .ok (.iinc 3 1, 3) := by decide +kernel
theorem dX11_chalkOf_31 : decode cX11_chalkOf 31 = .ok (.goto (-27), 3) := by decide +kernel
theorem dX11_chalkOf_34 : decode cX11_chalkOf 34 = .ok (.iload_n 2, 1) := by decide +kernel
theorem dX11_chalkOf_35 : decode cX11_chalkOf 35 = .ok (.ireturn, 1) := by decide +kernel
theorem dX11_theDay_0 : decode cX11_theDay 0 = .ok (.iconst 0, 1) := by decide +kernel
theorem dX11_theDay_1 : decode cX11_theDay 1 = .ok (.istore_n 1, 1) := by decide +kernel
theorem dX11_theDay_2 : decode cX11_theDay 2 = .ok (.iconst 1, 1) := by decide +kernel
theorem dX11_theDay_3 : decode cX11_theDay 3 = .ok (.istore_n 2, 1) := by decide +kernel
theorem dX11_theDay_4 : decode cX11_theDay 4 = .ok (.iload_n 2, 1) := by decide +kernel
theorem dX11_theDay_5 : decode cX11_theDay 5 = .ok (.bipush 7, 2) := by decide +kernel
theorem dX11_theDay_7 : decode cX11_theDay 7 = .ok (.if_icmp .ge 28, 3) := by decide +kernel
theorem dX11_theDay_10 : decode cX11_theDay 10 = .ok (.aload_n 0, 1) := by decide +kernel
theorem dX11_theDay_11 : decode cX11_theDay 11 = .ok (.iload_n 2, 1) := by decide +kernel
theorem dX11_theDay_12 : decode cX11_theDay 12 = .ok (.invokevirtual 79, 3) := by decide +kernel
theorem dX11_theDay_15 : decode cX11_theDay 15 = .ok (.aload_n 0, 1) := by decide +kernel
theorem dX11_theDay_16 : decode cX11_theDay 16 = .ok (.iload_n 1, 1) := by decide +kernel
theorem dX11_theDay_17 : decode cX11_theDay 17 = .ok (.invokevirtual 79, 3) := by decide +kernel
theorem dX11_theDay_20 : decode cX11_theDay 20 = .ok (.if_icmp .ge 7, 3) := by decide +kernel
theorem dX11_theDay_23 : decode cX11_theDay 23 = .ok (.iload_n 2, 1) := by decide +kernel
theorem dX11_theDay_24 : decode cX11_theDay 24 = .ok (.goto 4, 3) := by decide +kernel
theorem dX11_theDay_27 : decode cX11_theDay 27 = .ok (.iload_n 1, 1) := by decide +kernel
theorem dX11_theDay_28 : decode cX11_theDay 28 = .ok (.istore_n 1, 1) := by decide +kernel
theorem dX11_theDay_29 : decode cX11_theDay 29 = .ok (.iinc 2 1, 3) := by decide +kernel
theorem dX11_theDay_32 : decode cX11_theDay 32 = .ok (.goto (-28), 3) := by decide +kernel
theorem dX11_theDay_35 : decode cX11_theDay 35 = .ok (.iload_n 1, 1) := by decide +kernel
theorem dX11_theDay_36 : decode cX11_theDay 36 = .ok (.ireturn, 1) := by decide +kernel
theorem dX11_think_0 : decode cX11_think 0 = .ok (.aload_n 0, 1) := by decide +kernel
theorem dX11_think_1 : decode cX11_think 1 = .ok (.getfield 13, 3) := by decide +kernel
theorem dX11_think_4 : decode cX11_think 4 = .ok (.iload_n 1, 1) := by decide +kernel
theorem dX11_think_5 : decode cX11_think 5 = .ok (.iaload, 1) := by decide +kernel
theorem dX11_think_6 : decode cX11_think 6 = .ok (.iload_n 2, 1) := by decide +kernel
theorem dX11_think_7 : decode cX11_think 7 = .ok (.if_icmp .ne 5, 3) := by decide +kernel
theorem dX11_think_10 : decode cX11_think 10 = .ok (.iconst 1, 1) := by decide +kernel
theorem dX11_think_11 : decode cX11_think 11 = .ok (.ireturn, 1) := by decide +kernel
theorem dX11_think_12 : decode cX11_think 12 = .ok (.aload_n 0, 1) := by decide +kernel
theorem dX11_think_13 : decode cX11_think 13 = .ok (.getfield 13, 3) := by decide +kernel
theorem dX11_think_16 : decode cX11_think 16 = .ok (.iload_n 1, 1) := by decide +kernel
theorem dX11_think_17 : decode cX11_think 17 = .ok (.iload_n 2, 1) := by decide +kernel
theorem dX11_think_18 : decode cX11_think 18 = .ok (.iastore, 1) := by decide +kernel
theorem dX11_think_19 : decode cX11_think 19 = .ok (.iconst 0, 1) := by decide +kernel
theorem dX11_think_20 : decode cX11_think 20 = .ok (.ireturn, 1) := by decide +kernel
theorem dX11_grow_0 : decode cX11_grow 0 = .ok (.aload_n 0, 1) := by decide +kernel
theorem dX11_grow_1 : decode cX11_grow 1 = .ok (.getfield 13, 3) := by decide +kernel
theorem dX11_grow_4 : decode cX11_grow 4 = .ok (.bipush 8, 2) := by decide +kernel
theorem dX11_grow_6 : decode cX11_grow 6 = .ok (.iload_n 1, 1) := by decide +kernel
theorem dX11_grow_7 : decode cX11_grow 7 = .ok (.iadd, 1) := by decide +kernel
theorem dX11_grow_8 : decode cX11_grow 8 = .ok (.iaload, 1) := by decide +kernel
theorem dX11_grow_9 : decode cX11_grow 9 = .ok (.bipush 9, 2) := by decide +kernel
theorem dX11_grow_11 : decode cX11_grow 11 = .ok (.if_icmp .ne 5, 3) := by decide +kernel
theorem dX11_grow_14 : decode cX11_grow 14 = .ok (.iconst 2, 1) := by decide +kernel
theorem dX11_grow_15 : decode cX11_grow 15 = .ok (.ireturn, 1) := by decide +kernel
theorem dX11_grow_16 : decode cX11_grow 16 = .ok (.aload_n 0, 1) := by decide +kernel
theorem dX11_grow_17 : decode cX11_grow 17 = .ok (.getfield 13, 3) := by decide +kernel
theorem dX11_grow_20 : decode cX11_grow 20 = .ok (.bipush 8, 2) := by decide +kernel
theorem dX11_grow_22 : decode cX11_grow 22 = .ok (.iload_n 1, 1) := by decide +kernel
theorem dX11_grow_23 : decode cX11_grow 23 = .ok (.iadd, 1) := by decide +kernel
theorem dX11_grow_24 : decode cX11_grow 24 = .ok (.dup2, 1) := by decide +kernel
theorem dX11_grow_25 : decode cX11_grow 25 = .ok (.iaload, 1) := by decide +kernel
theorem dX11_grow_26 : decode cX11_grow 26 = .ok (.iconst 1, 1) := by decide +kernel
theorem dX11_grow_27 : decode cX11_grow 27 = .ok (.iadd, 1) := by decide +kernel
theorem dX11_grow_28 : decode cX11_grow 28 = .ok (.iastore, 1) := by decide +kernel
theorem dX11_grow_29 : decode cX11_grow 29 = .ok (.iconst 0, 1) := by decide +kernel
theorem dX11_grow_30 : decode cX11_grow 30 = .ok (.ireturn, 1) := by decide +kernel
theorem dX11_talk_0 : decode cX11_talk 0 = .ok (.iload_n 1, 1) := by decide +kernel
theorem dX11_talk_1 : decode cX11_talk 1 = .ok (.iload_n 2, 1) := by decide +kernel
theorem dX11_talk_2 : decode cX11_talk 2 = .ok (.if_icmp .ne 5, 3) := by decide +kernel
theorem dX11_talk_5 : decode cX11_talk 5 = .ok (.iconst 3, 1) := by decide +kernel
theorem dX11_talk_6 : decode cX11_talk 6 = .ok (.ireturn, 1) := by decide +kernel
theorem dX11_talk_7 : decode cX11_talk 7 = .ok (.aload_n 0, 1) := by decide +kernel
theorem dX11_talk_8 : decode cX11_talk 8 = .ok (.getfield 13, 3) := by decide +kernel
theorem dX11_talk_11 : decode cX11_talk 11 = .ok (.iload_n 1, 1) := by decide +kernel
theorem dX11_talk_12 : decode cX11_talk 12 = .ok (.iaload, 1) := by decide +kernel
theorem dX11_talk_13 : decode cX11_talk 13 = .ok (.ifCond .ge 5, 3) := by decide +kernel
theorem dX11_talk_16 : decode cX11_talk 16 = .ok (.iconst 4, 1) := by decide +kernel
theorem dX11_talk_17 : decode cX11_talk 17 = .ok (.ireturn, 1) := by decide +kernel
theorem dX11_talk_18 : decode cX11_talk 18 = .ok (.aload_n 0, 1) := by decide +kernel
theorem dX11_talk_19 : decode cX11_talk 19 = .ok (.getfield 13, 3) := by decide +kernel
theorem dX11_talk_22 : decode cX11_talk 22 = .ok (.bipush 8, 2) := by decide +kernel
theorem dX11_talk_24 : decode cX11_talk 24 = .ok (.iload_n 2, 1) := by decide +kernel
theorem dX11_talk_25 : decode cX11_talk 25 = .ok (.iadd, 1) := by decide +kernel
theorem dX11_talk_26 : decode cX11_talk 26 = .ok (.iaload, 1) := by decide +kernel
theorem dX11_talk_27 : decode cX11_talk 27 = .ok (.aload_n 0, 1) := by decide +kernel
theorem dX11_talk_28 : decode cX11_talk 28 = .ok (.getfield 13, 3) := by decide +kernel
theorem dX11_talk_31 : decode cX11_talk 31 = .ok (.bipush 8, 2) := by decide +kernel
theorem dX11_talk_33 : decode cX11_talk 33 = .ok (.iload_n 1, 1) := by decide +kernel
theorem dX11_talk_34 : decode cX11_talk 34 = .ok (.iadd, 1) := by decide +kernel
theorem dX11_talk_35 : decode cX11_talk 35 = .ok (.iaload, 1) := by decide +kernel
theorem dX11_talk_36 : decode cX11_talk 36 = .ok (.if_icmp .lt 5, 3) := by decide +kernel
theorem dX11_talk_39 : decode cX11_talk 39 = .ok (.iconst 5, 1) := by decide +kernel
theorem dX11_talk_40 : decode cX11_talk 40 = .ok (.ireturn, 1) := by decide +kernel
theorem dX11_talk_41 : decode cX11_talk 41 = .ok (.aload_n 0, 1) := by decide +kernel
theorem dX11_talk_42 : decode cX11_talk 42 = .ok (.getfield 13, 3) := by decide +kernel
theorem dX11_talk_45 : decode cX11_talk 45 = .ok (.iload_n 2, 1) := by decide +kernel
theorem dX11_talk_46 : decode cX11_talk 46 = .ok (.aload_n 0, 1) := by decide +kernel
theorem dX11_talk_47 : decode cX11_talk 47 = .ok (.getfield 13, 3) := by decide +kernel
theorem dX11_talk_50 : decode cX11_talk 50 = .ok (.iload_n 1, 1) := by decide +kernel
theorem dX11_talk_51 : decode cX11_talk 51 = .ok (.iaload, 1) := by decide +kernel
theorem dX11_talk_52 : decode cX11_talk 52 = .ok (.iastore, 1) := by decide +kernel
theorem dX11_talk_53 : decode cX11_talk 53 = .ok (.aload_n 0, 1) := by decide +kernel
theorem dX11_talk_54 : decode cX11_talk 54 = .ok (.getfield 13, 3) := by decide +kernel
theorem dX11_talk_57 : decode cX11_talk 57 = .ok (.bipush 8, 2) := by decide +kernel
theorem dX11_talk_59 : decode cX11_talk 59 = .ok (.iload_n 2, 1) := by decide +kernel
theorem dX11_talk_60 : decode cX11_talk 60 = .ok (.iadd, 1) := by decide +kernel
theorem dX11_talk_61 : decode cX11_talk 61 = .ok (.dup2, 1) := by decide +kernel
theorem dX11_talk_62 : decode cX11_talk 62 = .ok (.iaload, 1) := by decide +kernel
theorem dX11_talk_63 : decode cX11_talk 63 = .ok (.aload_n 0, 1) := by decide +kernel
theorem dX11_talk_64 : decode cX11_talk 64 = .ok (.getfield 13, 3) := by decide +kernel
theorem dX11_talk_67 : decode cX11_talk 67 = .ok (.bipush 8, 2) := by decide +kernel
theorem dX11_talk_69 : decode cX11_talk 69 = .ok (.iload_n 2, 1) := by decide +kernel
theorem dX11_talk_70 : decode cX11_talk 70 = .ok (.iadd, 1) := by decide +kernel
theorem dX11_talk_71 : decode cX11_talk 71 = .ok (.iaload, 1) := by decide +kernel
theorem dX11_talk_72 : decode cX11_talk 72 = .ok (.ifCond .le 7, 3) := by decide +kernel
theorem dX11_talk_75 : decode cX11_talk 75 = .ok (.iconst 1, 1) := by decide +kernel
theorem dX11_talk_76 : decode cX11_talk 76 = .ok (.goto 4, 3) := by decide +kernel
theorem dX11_talk_79 : decode cX11_talk 79 = .ok (.iconst 0, 1) := by decide +kernel
theorem dX11_talk_80 : decode cX11_talk 80 = .ok (.isub, 1) := by decide +kernel
theorem dX11_talk_81 : decode cX11_talk 81 = .ok (.iastore, 1) := by decide +kernel
theorem dX11_talk_82 : decode cX11_talk 82 = .ok (.iconst 0, 1) := by decide +kernel
theorem dX11_talk_83 : decode cX11_talk 83 = .ok (.ireturn, 1) := by decide +kernel
theorem dX11_pay_0 : decode cX11_pay 0 = .ok (.iload_n 1, 1) := by decide +kernel
theorem dX11_pay_1 : decode cX11_pay 1 = .ok (.iload_n 2, 1) := by decide +kernel
theorem dX11_pay_2 : decode cX11_pay 2 = .ok (.if_icmp .ne 5, 3) := by decide +kernel
theorem dX11_pay_5 : decode cX11_pay 5 = .ok (.iconst 3, 1) := by decide +kernel
theorem dX11_pay_6 : decode cX11_pay 6 = .ok (.ireturn, 1) := by decide +kernel
theorem dX11_pay_7 : decode cX11_pay 7 = .ok (.aload_n 0, 1) := by decide +kernel
theorem dX11_pay_8 : decode cX11_pay 8 = .ok (.getfield 13, 3) := by decide +kernel
theorem dX11_pay_11 : decode cX11_pay 11 = .ok (.bipush 16, 2) := by decide +kernel
theorem dX11_pay_13 : decode cX11_pay 13 = .ok (.iload_n 1, 1) := by decide +kernel
theorem dX11_pay_14 : decode cX11_pay 14 = .ok (.iadd, 1) := by decide +kernel
theorem dX11_pay_15 : decode cX11_pay 15 = .ok (.iaload, 1) := by decide +kernel
theorem dX11_pay_16 : decode cX11_pay 16 = .ok (.iconst 3, 1) := by decide +kernel
theorem dX11_pay_17 : decode cX11_pay 17 = .ok (.if_icmp .ge 6, 3) := by decide +kernel
theorem dX11_pay_20 : decode cX11_pay 20 = .ok (.bipush 6, 2) := by decide +kernel
theorem dX11_pay_22 : decode cX11_pay 22 = .ok (.ireturn, 1) := by decide +kernel
theorem dX11_pay_23 : decode cX11_pay 23 = .ok (.aload_n 0, 1) := by decide +kernel
theorem dX11_pay_24 : decode cX11_pay 24 = .ok (.getfield 13, 3) := by decide +kernel
theorem dX11_pay_27 : decode cX11_pay 27 = .ok (.bipush 16, 2) := by decide +kernel
theorem dX11_pay_29 : decode cX11_pay 29 = .ok (.iload_n 1, 1) := by decide +kernel
theorem dX11_pay_30 : decode cX11_pay 30 = .ok (.iadd, 1) := by decide +kernel
theorem dX11_pay_31 : decode cX11_pay 31 = .ok (.dup2, 1) := by decide +kernel
theorem dX11_pay_32 : decode cX11_pay 32 = .ok (.iaload, 1) := by decide +kernel
theorem dX11_pay_33 : decode cX11_pay 33 = .ok (.iconst 3, 1) := by decide +kernel
theorem dX11_pay_34 : decode cX11_pay 34 = .ok (.isub, 1) := by decide +kernel
theorem dX11_pay_35 : decode cX11_pay 35 = .ok (.iastore, 1) := by decide +kernel
theorem dX11_pay_36 : decode cX11_pay 36 = .ok (.aload_n 0, 1) := by decide +kernel
theorem dX11_pay_37 : decode cX11_pay 37 = .ok (.getfield 13, 3) := by decide +kernel
theorem dX11_pay_40 : decode cX11_pay 40 = .ok (.bipush 16, 2) := by decide +kernel
theorem dX11_pay_42 : decode cX11_pay 42 = .ok (.iload_n 2, 1) := by decide +kernel
theorem dX11_pay_43 : decode cX11_pay 43 = .ok (.iadd, 1) := by decide +kernel
theorem dX11_pay_44 : decode cX11_pay 44 = .ok (.dup2, 1) := by decide +kernel
theorem dX11_pay_45 : decode cX11_pay 45 = .ok (.iaload, 1) := by decide +kernel
theorem dX11_pay_46 : decode cX11_pay 46 = .ok (.iconst 3, 1) := by decide +kernel
theorem dX11_pay_47 : decode cX11_pay 47 = .ok (.iadd, 1) := by decide +kernel
theorem dX11_pay_48 : decode cX11_pay 48 = .ok (.iastore, 1) := by decide +kernel
theorem dX11_pay_49 : decode cX11_pay 49 = .ok (.aload_n 0, 1) := by decide +kernel
theorem dX11_pay_50 : decode cX11_pay 50 = .ok (.getfield 13, 3) := by decide +kernel
theorem dX11_pay_53 : decode cX11_pay 53 = .ok (.bipush 8, 2) := by decide +kernel
theorem dX11_pay_55 : decode cX11_pay 55 = .ok (.iload_n 2, 1) := by decide +kernel
theorem dX11_pay_56 : decode cX11_pay 56 = .ok (.iadd, 1) := by decide +kernel
theorem dX11_pay_57 : decode cX11_pay 57 = .ok (.bipush 9, 2) := by decide +kernel
theorem dX11_pay_59 : decode cX11_pay 59 = .ok (.iastore, 1) := by decide +kernel
theorem dX11_pay_60 : decode cX11_pay 60 = .ok (.iconst 0, 1) := by decide +kernel
theorem dX11_pay_61 : decode cX11_pay 61 = .ok (.ireturn, 1) := by decide +kernel
theorem dX11_drive_0 : decode cX11_drive 0 = .ok (.aload_n 0, 1) := by decide +kernel
theorem dX11_drive_1 : decode cX11_drive 1 = .ok (.getfield 13, 3) := by decide +kernel
theorem dX11_drive_4 : decode cX11_drive 4 = .ok (.bipush 24, 2) := by decide +kernel
theorem dX11_drive_6 : decode cX11_drive 6 = .ok (.iload_n 1, 1) := by decide +kernel
theorem dX11_drive_7 : decode cX11_drive 7 = .ok (.iadd, 1) := by decide +kernel
theorem dX11_drive_8 : decode cX11_drive 8 = .ok (.iaload, 1) := by decide +kernel
theorem dX11_drive_9 : decode cX11_drive 9 = .ok (.ifCond .ne 6, 3) := by decide +kernel
theorem dX11_drive_12 : decode cX11_drive 12 = .ok (.bipush 7, 2) := by decide +kernel
theorem dX11_drive_14 : decode cX11_drive 14 = .ok (.ireturn, 1) := by decide +kernel
theorem dX11_drive_15 : decode cX11_drive 15 = .ok (.aload_n 0, 1) := by decide +kernel
theorem dX11_drive_16 : decode cX11_drive 16 = .ok (.getfield 13, 3) := by decide +kernel
theorem dX11_drive_19 : decode cX11_drive 19 = .ok (.bipush 24, 2) := by decide +kernel
theorem dX11_drive_21 : decode cX11_drive 21 = .ok (.iload_n 1, 1) := by decide +kernel
theorem dX11_drive_22 : decode cX11_drive 22 = .ok (.iadd, 1) := by decide +kernel
theorem dX11_drive_23 : decode cX11_drive 23 = .ok (.dup2, 1) := by decide +kernel
theorem dX11_drive_24 : decode cX11_drive 24 = .ok (.iaload, 1) := by decide +kernel
theorem dX11_drive_25 : decode cX11_drive 25 = .ok (.iconst 1, 1) := by decide +kernel
theorem dX11_drive_26 : decode cX11_drive 26 = .ok (.isub, 1) := by decide +kernel
theorem dX11_drive_27 : decode cX11_drive 27 = .ok (.iastore, 1) := by decide +kernel
theorem dX11_drive_28 : decode cX11_drive 28 = .ok (.iconst 0, 1) := by decide +kernel
theorem dX11_drive_29 : decode cX11_drive 29 = .ok (.ireturn, 1) := by decide +kernel
theorem dX11_endNight_0 : decode cX11_endNight 0 = .ok (.aload_n 0, 1) := by decide +kernel
theorem dX11_endNight_1 : decode cX11_endNight 1 = .ok (.getfield 13, 3) := by decide +kernel
theorem dX11_endNight_4 : decode cX11_endNight 4 = .ok (.bipush 29, 2) := by decide +kernel
theorem dX11_endNight_6 : decode cX11_endNight 6 = .ok (.iaload, 1) := by decide +kernel
theorem dX11_endNight_7 : decode cX11_endNight 7 = .ok (.bipush 99, 2) := by decide +kernel
theorem dX11_endNight_9 : decode cX11_endNight 9 = .ok (.if_icmp .ne 6, 3) := by decide +kernel
theorem dX11_endNight_12 : decode cX11_endNight 12 = .ok (.bipush 8, 2) := by decide +kernel
theorem dX11_endNight_14 : decode cX11_endNight 14 = .ok (.ireturn, 1) := by decide +kernel
theorem dX11_endNight_15 : decode cX11_endNight 15 = .ok (.aload_n 0, 1) := by decide +kernel
theorem dX11_endNight_16 : decode cX11_endNight 16 = .ok (.getfield 13, 3) := by decide +kernel
theorem dX11_endNight_19 : decode cX11_endNight 19 = .ok (.bipush 29, 2) := by decide +kernel
theorem dX11_endNight_21 : decode cX11_endNight 21 = .ok (.dup2, 1) := by decide +kernel
theorem dX11_endNight_22 : decode cX11_endNight 22 = .ok (.iaload, 1) := by decide +kernel
theorem dX11_endNight_23 : decode cX11_endNight 23 = .ok (.iconst 1, 1) := by decide +kernel
theorem dX11_endNight_24 : decode cX11_endNight 24 = .ok (.iadd, 1) := by decide +kernel
theorem dX11_endNight_25 : decode cX11_endNight 25 = .ok (.iastore, 1) := by decide +kernel
theorem dX11_endNight_26 : decode cX11_endNight 26 = .ok (.aload_n 0, 1) := by decide +kernel
theorem dX11_endNight_27 : decode cX11_endNight 27 = .ok (.getfield 13, 3) := by decide +kernel
theorem dX11_endNight_30 : decode cX11_endNight 30 = .ok (.bipush 28, 2) := by decide +kernel
theorem dX11_endNight_32 : decode cX11_endNight 32 = .ok (.aload_n 0, 1) := by decide +kernel
theorem dX11_endNight_33 : decode cX11_endNight 33 = .ok (.getfield 13, 3) := by decide +kernel
theorem dX11_endNight_36 : decode cX11_endNight 36 = .ok (.bipush 28, 2) := by decide +kernel
theorem dX11_endNight_38 : decode cX11_endNight 38 = .ok (.iaload, 1) := by decide +kernel
theorem dX11_endNight_39 : decode cX11_endNight 39 = .ok (.iconst 1, 1) := by decide +kernel
theorem dX11_endNight_40 : decode cX11_endNight 40 = .ok (.iadd, 1) := by decide +kernel
theorem dX11_endNight_41 : decode cX11_endNight 41 = .ok (.bipush 7, 2) := by decide +kernel
theorem dX11_endNight_43 : decode cX11_endNight 43 = .ok (.irem, 1) := by decide +kernel
theorem dX11_endNight_44 : decode cX11_endNight 44 = .ok (.iastore, 1) := by decide +kernel
theorem dX11_endNight_45 : decode cX11_endNight 45 = .ok (.aload_n 0, 1) := by decide +kernel
theorem dX11_endNight_46 : decode cX11_endNight 46 = .ok (.invokevirtual 83, 3) := by decide +kernel
theorem dX11_endNight_49 : decode cX11_endNight 49 = .ok (.aload_n 0, 1) := by decide +kernel
theorem dX11_endNight_50 : decode cX11_endNight 50 = .ok (.getfield 13, 3) := by decide +kernel
theorem dX11_endNight_53 : decode cX11_endNight 53 = .ok (.bipush 28, 2) := by decide +kernel
theorem dX11_endNight_55 : decode cX11_endNight 55 = .ok (.iaload, 1) := by decide +kernel
theorem dX11_endNight_56 : decode cX11_endNight 56 = .ok (.if_icmp .ne 7, 3) := by decide +kernel
theorem dX11_endNight_59 : decode cX11_endNight 59 = .ok (.iconst 1, 1) := by decide +kernel
theorem dX11_endNight_60 : decode cX11_endNight 60 = .ok (.goto 4, 3) := by decide +kernel
theorem dX11_endNight_63 : decode cX11_endNight 63 = .ok (.iconst 0, 1) := by decide +kernel
theorem dX11_endNight_64 : decode cX11_endNight 64 = .ok (.istore_n 1, 1) := by decide +kernel
theorem dX11_endNight_65 : decode cX11_endNight 65 = .ok (.bipush 24, 2) := by decide +kernel
theorem dX11_endNight_67 : decode cX11_endNight 67 = .ok (.istore_n 2, 1) := by decide +kernel
theorem dX11_endNight_68 : decode cX11_endNight 68 = .ok (.iload_n 2, 1) := by decide +kernel
theorem dX11_endNight_69 : decode cX11_endNight 69 = .ok (.bipush 28, 2) := by decide +kernel
theorem dX11_endNight_71 : decode cX11_endNight 71 = .ok (.if_icmp .ge 77, 3) := by decide +kernel
theorem dX11_endNight_74 : decode cX11_endNight 74 = .ok (.iload_n 1, 1) := by decide +kernel
theorem dX11_endNight_75 : decode cX11_endNight 75 = .ok (.ifCond .eq 44, 3) := by decide +kernel
theorem dX11_endNight_78 : decode cX11_endNight 78 = .ok (.aload_n 0, 1) := by decide +kernel
theorem dX11_endNight_79 : decode cX11_endNight 79 = .ok (.getfield 13, 3) := by decide +kernel
theorem dX11_endNight_82 : decode cX11_endNight 82 = .ok (.iload_n 2, 1) := by decide +kernel
theorem dX11_endNight_83 : decode cX11_endNight 83 = .ok (.iaload, 1) := by decide +kernel
theorem dX11_endNight_84 : decode cX11_endNight 84 = .ok (.ifCond .ne 35, 3) := by decide +kernel
theorem dX11_endNight_87 : decode cX11_endNight 87 = .ok (.aload_n 0, 1) := by decide +kernel
theorem dX11_endNight_88 : decode cX11_endNight 88 = .ok (.dup, 1) := by decide +kernel
theorem dX11_endNight_89 : decode cX11_endNight 89 = .ok (.getfield 70, 3) := by decide +kernel
theorem dX11_endNight_92 : decode cX11_endNight 92 = .ok (.iconst 1, 1) := by decide +kernel
theorem dX11_endNight_93 : decode cX11_endNight 93 = .ok (.iadd, 1) := by decide +kernel
theorem dX11_endNight_94 : decode cX11_endNight 94 = .ok (.putfield 70, 3) := by decide +kernel
theorem dX11_endNight_97 : decode cX11_endNight 97 = .ok (.aload_n 0, 1) := by decide +kernel
theorem dX11_endNight_98 : decode cX11_endNight 98 = .ok (.getfield 13, 3) := by decide +kernel
theorem dX11_endNight_101 : decode cX11_endNight 101 = .ok (.bipush 30, 2) := by decide +kernel
theorem dX11_endNight_103 : decode cX11_endNight 103 = .ok (.dup2, 1) := by decide +kernel
theorem dX11_endNight_104 : decode cX11_endNight 104 = .ok (.iaload, 1) := by decide +kernel
theorem dX11_endNight_105 : decode cX11_endNight 105 = .ok (.iconst 1, 1) := by decide +kernel
theorem dX11_endNight_106 : decode cX11_endNight 106 = .ok (.iadd, 1) := by decide +kernel
theorem dX11_endNight_107 : decode cX11_endNight 107 = .ok (.iastore, 1) := by decide +kernel
theorem dX11_endNight_108 : decode cX11_endNight 108 = .ok (.aload_n 0, 1) := by decide +kernel
theorem dX11_endNight_109 : decode cX11_endNight 109 = .ok (.getfield 13, 3) := by decide +kernel
theorem dX11_endNight_112 : decode cX11_endNight 112 = .ok (.iload_n 2, 1) := by decide +kernel
theorem dX11_endNight_113 : decode cX11_endNight 113 = .ok (.bipush 9, 2) := by decide +kernel
theorem dX11_endNight_115 : decode cX11_endNight 115 = .ok (.iastore, 1) := by decide +kernel
theorem dX11_endNight_116 : decode cX11_endNight 116 = .ok (.goto 26, 3) := by decide +kernel
theorem dX11_endNight_119 : decode cX11_endNight 119 = .ok (.iload_n 1, 1) := by decide +kernel
theorem dX11_endNight_120 : decode cX11_endNight 120 = .ok (.ifCond .ne 22, 3) := by decide +kernel
theorem dX11_endNight_123 : decode cX11_endNight 123 = .ok (.aload_n 0, 1) := by decide +kernel
theorem dX11_endNight_124 : decode cX11_endNight 124 = .ok (.getfield 13, 3) := by decide +kernel
theorem dX11_endNight_127 : decode cX11_endNight 127 = .ok (.iload_n 2, 1) := by decide +kernel
theorem dX11_endNight_128 : decode cX11_endNight 128 = .ok (.iaload, 1) := by decide +kernel
theorem dX11_endNight_129 : decode cX11_endNight 129 = .ok (.ifCond .le 13, 3) := by decide +kernel
theorem dX11_endNight_132 : decode cX11_endNight 132 = .ok (.aload_n 0, 1) := by decide +kernel
theorem dX11_endNight_133 : decode cX11_endNight 133 = .ok (.getfield 13, 3) := by decide +kernel
theorem dX11_endNight_136 : decode cX11_endNight 136 = .ok (.iload_n 2, 1) := by decide +kernel
theorem dX11_endNight_137 : decode cX11_endNight 137 = .ok (.dup2, 1) := by decide +kernel
theorem dX11_endNight_138 : decode cX11_endNight 138 = .ok (.iaload, 1) := by decide +kernel
theorem dX11_endNight_139 : decode cX11_endNight 139 = .ok (.iconst 1, 1) := by decide +kernel
theorem dX11_endNight_140 : decode cX11_endNight 140 = .ok (.isub, 1) := by decide +kernel
theorem dX11_endNight_141 : decode cX11_endNight 141 = .ok (.iastore, 1) := by decide +kernel
theorem dX11_endNight_142 : decode cX11_endNight 142 = .ok (.iinc 2 1, 3) := by decide +kernel
theorem dX11_endNight_145 : decode cX11_endNight 145 = .ok (.goto (-77), 3) := by decide +kernel
theorem dX11_endNight_148 : decode cX11_endNight 148 = .ok (.iconst 0, 1) := by decide +kernel
theorem dX11_endNight_149 : decode cX11_endNight 149 = .ok (.istore_n 2, 1) := by decide +kernel
theorem dX11_endNight_150 : decode cX11_endNight 150 = .ok (.iload_n 2, 1) := by decide +kernel
theorem dX11_endNight_151 : decode cX11_endNight 151 = .ok (.bipush 8, 2) := by decide +kernel
theorem dX11_endNight_153 : decode cX11_endNight 153 = .ok (.if_icmp .ge 72, 3) := by decide +kernel
theorem dX11_endNight_156 : decode cX11_endNight 156 = .ok (.iload_n 1, 1) := by decide +kernel
theorem dX11_endNight_157 : decode cX11_endNight 157 = .ok (.ifCond .eq 68, 3) := by decide +kernel
theorem dX11_endNight_160 : decode cX11_endNight 160 = .ok (.aload_n 0, 1) := by decide +kernel
theorem dX11_endNight_161 : decode cX11_endNight 161 = .ok (.getfield 13, 3) := by decide +kernel
theorem dX11_endNight_164 : decode cX11_endNight 164 = .ok (.bipush 8, 2) := by decide +kernel
theorem dX11_endNight_166 : decode cX11_endNight 166 = .ok (.iload_n 2, 1) := by decide +kernel
theorem dX11_endNight_167 : decode cX11_endNight 167 = .ok (.iadd, 1) := by decide +kernel
theorem dX11_endNight_168 : decode cX11_endNight 168 = .ok (.aload_n 0, 1) := by decide +kernel
theorem dX11_endNight_169 : decode cX11_endNight 169 = .ok (.getfield 13, 3) := by decide +kernel
theorem dX11_endNight_172 : decode cX11_endNight 172 = .ok (.iload_n 2, 1) := by decide +kernel
theorem dX11_endNight_173 : decode cX11_endNight 173 = .ok (.iaload, 1) := by decide +kernel
theorem dX11_endNight_174 : decode cX11_endNight 174 = .ok (.aload_n 0, 1) := by decide +kernel
theorem dX11_endNight_175 : decode cX11_endNight 175 = .ok (.getfield 13, 3) := by decide +kernel
theorem dX11_endNight_178 : decode cX11_endNight 178 = .ok (.bipush 28, 2) := by decide +kernel
theorem dX11_endNight_180 : decode cX11_endNight 180 = .ok (.iaload, 1) := by decide +kernel
theorem dX11_endNight_181 : decode cX11_endNight 181 = .ok (.if_icmp .ne 7, 3) := by decide +kernel
theorem dX11_endNight_184 : decode cX11_endNight 184 = .ok (.iconst 0, 1) := by decide +kernel
theorem dX11_endNight_185 : decode cX11_endNight 185 = .ok (.goto 33, 3) := by decide +kernel
theorem dX11_endNight_188 : decode cX11_endNight 188 = .ok (.aload_n 0, 1) := by decide +kernel
theorem dX11_endNight_189 : decode cX11_endNight 189 = .ok (.getfield 13, 3) := by decide +kernel
theorem dX11_endNight_192 : decode cX11_endNight 192 = .ok (.bipush 8, 2) := by decide +kernel
theorem dX11_endNight_194 : decode cX11_endNight 194 = .ok (.iload_n 2, 1) := by decide +kernel
theorem dX11_endNight_195 : decode cX11_endNight 195 = .ok (.iadd, 1) := by decide +kernel
theorem dX11_endNight_196 : decode cX11_endNight 196 = .ok (.iaload, 1) := by decide +kernel
theorem dX11_endNight_197 : decode cX11_endNight 197 = .ok (.bipush 9, 2) := by decide +kernel
theorem dX11_endNight_199 : decode cX11_endNight 199 = .ok (.if_icmp .ge 17, 3) := by decide +kernel
theorem dX11_endNight_202 : decode cX11_endNight 202 = .ok (.aload_n 0, 1) := by decide +kernel
theorem dX11_endNight_203 : decode cX11_endNight 203 = .ok (.getfield 13, 3) := by decide +kernel
theorem dX11_endNight_206 : decode cX11_endNight 206 = .ok (.bipush 8, 2) := by decide +kernel
theorem dX11_endNight_208 : decode cX11_endNight 208 = .ok (.iload_n 2, 1) := by decide +kernel
theorem dX11_endNight_209 : decode cX11_endNight 209 = .ok (.iadd, 1) := by decide +kernel
theorem dX11_endNight_210 : decode cX11_endNight 210 = .ok (.iaload, 1) := by decide +kernel
theorem dX11_endNight_211 : decode cX11_endNight 211 = .ok (.iconst 1, 1) := by decide +kernel
theorem dX11_endNight_212 : decode cX11_endNight 212 = .ok (.iadd, 1) := by decide +kernel
theorem dX11_endNight_213 : decode cX11_endNight 213 = .ok (.goto 5, 3) := by decide +kernel
theorem dX11_endNight_216 : decode cX11_endNight 216 = .ok (.bipush 9, 2) := by decide +kernel
theorem dX11_endNight_218 : decode cX11_endNight 218 = .ok (.iastore, 1) := by decide +kernel
theorem dX11_endNight_219 : decode cX11_endNight 219 = .ok (.iinc 2 1, 3) := by decide +kernel
theorem dX11_endNight_222 : decode cX11_endNight 222 = .ok (.goto (-72), 3) := by decide +kernel
theorem dX11_endNight_225 : decode cX11_endNight 225 = .ok (.aload_n 0, 1) := by decide +kernel
theorem dX11_endNight_226 : decode cX11_endNight 226 = .ok (.dup, 1) := by decide +kernel
theorem dX11_endNight_227 : decode cX11_endNight 227 = .ok (.getfield 73, 3) := by decide +kernel
theorem dX11_endNight_230 : decode cX11_endNight 230 = .ok (.iload_n 1, 1) := by decide +kernel
theorem dX11_endNight_231 : decode cX11_endNight 231 = .ok (.ifCond .eq 7, 3) := by decide +kernel
theorem dX11_endNight_234 : decode cX11_endNight 234 = .ok (.iconst 1, 1) := by decide +kernel
theorem dX11_endNight_235 : decode cX11_endNight 235 = .ok (.goto 4, 3) := by decide +kernel
theorem dX11_endNight_238 : decode cX11_endNight 238 = .ok (.iconst 0, 1) := by decide +kernel
theorem dX11_endNight_239 : decode cX11_endNight 239 = .ok (.iadd, 1) := by decide +kernel
theorem dX11_endNight_240 : decode cX11_endNight 240 = .ok (.putfield 73, 3) := by decide +kernel
theorem dX11_endNight_243 : decode cX11_endNight 243 = .ok (.iconst 0, 1) := by decide +kernel
theorem dX11_endNight_244 : decode cX11_endNight 244 = .ok (.ireturn, 1) := by decide +kernel
theorem dX11_oneAct_0 : decode cX11_oneAct 0 = .ok (.aload_n 0, 1) := by decide +kernel
theorem dX11_oneAct_1 : decode cX11_oneAct 1 = .ok (.getfield 19, 3) := by decide +kernel
theorem dX11_oneAct_4 : decode cX11_oneAct 4 = .ok (.iload_n 1, 1) := by decide +kernel
theorem dX11_oneAct_5 : decode cX11_oneAct 5 = .ok (.iaload, 1) := by decide +kernel
theorem dX11_oneAct_6 : decode cX11_oneAct 6 = .ok (.bipush 65, 2) := by decide +kernel
theorem dX11_oneAct_8 : decode cX11_oneAct 8 = .ok (.isub, 1) := by decide +kernel
theorem dX11_oneAct_9 : decode cX11_oneAct 9 = .ok (.istore_n 2, 1) := by decide +kernel
theorem dX11_oneAct_10 : decode cX11_oneAct 10 = .ok (.aload_n 0, 1) := by decide +kernel
theorem dX11_oneAct_11 : decode cX11_oneAct 11 = .ok (.getfield 19, 3) := by decide +kernel
theorem dX11_oneAct_14 : decode cX11_oneAct 14 = .ok (.iload_n 1, 1) := by decide +kernel
theorem dX11_oneAct_15 : decode cX11_oneAct 15 = .ok (.iconst 1, 1) := by decide +kernel
theorem dX11_oneAct_16 : decode cX11_oneAct 16 = .ok (.iadd, 1) := by decide +kernel
theorem dX11_oneAct_17 : decode cX11_oneAct 17 = .ok (.iaload, 1) := by decide +kernel
theorem dX11_oneAct_18 : decode cX11_oneAct 18 = .ok (.istore_n 3, 1) := by decide +kernel
theorem dX11_oneAct_19 : decode cX11_oneAct 19 = .ok (.aload_n 0, 1) := by decide +kernel
theorem dX11_oneAct_20 : decode cX11_oneAct 20 = .ok (.getfield 19, 3) := by decide +kernel
theorem dX11_oneAct_23 : decode cX11_oneAct 23 = .ok (.iload_n 1, 1) := by decide +kernel
theorem dX11_oneAct_24 : decode cX11_oneAct 24 = .ok (.iaload, 1) := by decide +kernel
theorem dX11_oneAct_25 : decode cX11_oneAct 25 = .ok (.bipush 99, 2) := by decide +kernel
theorem dX11_oneAct_27 : decode cX11_oneAct 27 = .ok (.if_icmp .ne 12, 3) := by decide +kernel
theorem dX11_oneAct_30 : decode cX11_oneAct 30 = .ok (.aload_n 0, 1) := by decide +kernel
theorem dX11_oneAct_31 : decode cX11_oneAct 31 = .ok (.iload_n 3, 1) := by decide +kernel
theorem dX11_oneAct_32 : decode cX11_oneAct 32 = .ok (.bipush 48, 2) := by decide +kernel
theorem dX11_oneAct_34 : decode cX11_oneAct 34 = .ok (.isub, 1) := by decide +kernel
theorem dX11_oneAct_35 : decode cX11_oneAct 35 = .ok (.invokevirtual 86, 3) := by decide +kernel
theorem dX11_oneAct_38 : decode cX11_oneAct 38 = .ok (.ireturn, 1) := by decide +kernel
theorem dX11_oneAct_39 : decode cX11_oneAct 39 = .ok (.iload_n 3, 1) := by decide +kernel
theorem dX11_oneAct_40 : decode cX11_oneAct 40 = .ok (.bipush 62, 2) := by decide +kernel
theorem dX11_oneAct_42 : decode cX11_oneAct 42 = .ok (.if_icmp .ne 22, 3) := by decide +kernel
theorem dX11_oneAct_45 : decode cX11_oneAct 45 = .ok (.aload_n 0, 1) := by decide +kernel
theorem dX11_oneAct_46 : decode cX11_oneAct 46 = .ok (.iload_n 2, 1) := by decide +kernel
theorem dX11_oneAct_47 : decode cX11_oneAct 47 = .ok (.aload_n 0, 1) := by decide +kernel
theorem dX11_oneAct_48 : decode cX11_oneAct 48 = .ok (.getfield 19, 3) := by decide +kernel
theorem dX11_oneAct_51 : decode cX11_oneAct 51 = .ok (.iload_n 1, 1) := by decide +kernel
theorem dX11_oneAct_52 : decode cX11_oneAct 52 = .ok (.iconst 2, 1) := by decide +kernel
theorem dX11_oneAct_53 : decode cX11_oneAct 53 = .ok (.iadd, 1) := by decide +kernel
theorem dX11_oneAct_54 : decode cX11_oneAct 54 = .ok (.iaload, 1) := by decide +kernel
theorem dX11_oneAct_55 : decode cX11_oneAct 55 = .ok (.bipush 65, 2) := by decide +kernel
theorem dX11_oneAct_57 : decode cX11_oneAct 57 = .ok (.isub, 1) := by decide +kernel
theorem dX11_oneAct_58 : decode cX11_oneAct 58 = .ok (.invokevirtual 89, 3) := by decide +kernel
theorem dX11_oneAct_61 : decode cX11_oneAct 61 = .ok (.goto 62, 3) := by decide +kernel
theorem dX11_oneAct_64 : decode cX11_oneAct 64 = .ok (.iload_n 3, 1) := by decide +kernel
theorem dX11_oneAct_65 : decode cX11_oneAct 65 = .ok (.bipush 36, 2) := by decide +kernel
theorem dX11_oneAct_67 : decode cX11_oneAct 67 = .ok (.if_icmp .ne 22, 3) := by decide +kernel
theorem dX11_oneAct_70 : decode cX11_oneAct 70 = .ok (.aload_n 0, 1) := by decide +kernel
theorem dX11_oneAct_71 : decode cX11_oneAct 71 = .ok (.iload_n 2, 1) := by decide +kernel
theorem dX11_oneAct_72 : decode cX11_oneAct 72 = .ok (.aload_n 0, 1) := by decide +kernel
theorem dX11_oneAct_73 : decode cX11_oneAct 73 = .ok (.getfield 19, 3) := by decide +kernel
theorem dX11_oneAct_76 : decode cX11_oneAct 76 = .ok (.iload_n 1, 1) := by decide +kernel
theorem dX11_oneAct_77 : decode cX11_oneAct 77 = .ok (.iconst 2, 1) := by decide +kernel
theorem dX11_oneAct_78 : decode cX11_oneAct 78 = .ok (.iadd, 1) := by decide +kernel
theorem dX11_oneAct_79 : decode cX11_oneAct 79 = .ok (.iaload, 1) := by decide +kernel
theorem dX11_oneAct_80 : decode cX11_oneAct 80 = .ok (.bipush 65, 2) := by decide +kernel
theorem dX11_oneAct_82 : decode cX11_oneAct 82 = .ok (.isub, 1) := by decide +kernel
theorem dX11_oneAct_83 : decode cX11_oneAct 83 = .ok (.invokevirtual 92, 3) := by decide +kernel
theorem dX11_oneAct_86 : decode cX11_oneAct 86 = .ok (.goto 37, 3) := by decide +kernel
theorem dX11_oneAct_89 : decode cX11_oneAct 89 = .ok (.iload_n 3, 1) := by decide +kernel
theorem dX11_oneAct_90 : decode cX11_oneAct 90 = .ok (.bipush 43, 2) := by decide +kernel
theorem dX11_oneAct_92 : decode cX11_oneAct 92 = .ok (.if_icmp .ne 11, 3) := by decide +kernel
theorem dX11_oneAct_95 : decode cX11_oneAct 95 = .ok (.aload_n 0, 1) := by decide +kernel
theorem dX11_oneAct_96 : decode cX11_oneAct 96 = .ok (.iload_n 2, 1) := by decide +kernel
theorem dX11_oneAct_97 : decode cX11_oneAct 97 = .ok (.invokevirtual 95, 3) := by decide +kernel
theorem dX11_oneAct_100 : decode cX11_oneAct 100 = .ok (.goto 23, 3) := by decide +kernel
theorem dX11_oneAct_103 : decode cX11_oneAct 103 = .ok (.aload_n 0, 1) := by decide +kernel
theorem dX11_oneAct_104 : decode cX11_oneAct 104 = .ok (.iload_n 2, 1) := by decide +kernel
theorem dX11_oneAct_105 : decode cX11_oneAct 105 = .ok (.iload_n 3, 1) := by decide +kernel
theorem dX11_oneAct_106 : decode cX11_oneAct 106 = .ok (.bipush 45, 2) := by decide +kernel
theorem dX11_oneAct_108 : decode cX11_oneAct 108 = .ok (.if_icmp .ne 8, 3) := by decide +kernel
theorem dX11_oneAct_111 : decode cX11_oneAct 111 = .ok (.bipush (-6), 2) := by decide +kernel
theorem dX11_oneAct_113 : decode cX11_oneAct 113 = .ok (.goto 7, 3) := by decide +kernel
theorem dX11_oneAct_116 : decode cX11_oneAct 116 = .ok (.iload_n 3, 1) := by decide +kernel
theorem dX11_oneAct_117 : decode cX11_oneAct 117 = .ok (.bipush 48, 2) := by decide +kernel
theorem dX11_oneAct_119 : decode cX11_oneAct 119 = .ok (.isub, 1) := by decide +kernel
theorem dX11_oneAct_120 : decode cX11_oneAct 120 = .ok (.invokevirtual 98, 3) := by decide +kernel
theorem dX11_oneAct_123 : decode cX11_oneAct 123 = .ok (.ireturn, 1) := by decide +kernel
theorem dX11_goWeeks_0 : decode cX11_goWeeks 0 = .ok (.aload_n 0, 1) := by decide +kernel
theorem dX11_goWeeks_1 : decode cX11_goWeeks 1 = .ok (.invokevirtual 101, 3) := by decide +kernel
theorem dX11_goWeeks_4 : decode cX11_goWeeks 4 = .ok (.aload_n 0, 1) := by decide +kernel
theorem dX11_goWeeks_5 : decode cX11_goWeeks 5 = .ok (.iconst 0, 1) := by decide +kernel
theorem dX11_goWeeks_6 : decode cX11_goWeeks 6 = .ok (.putfield 104, 3) := by decide +kernel
theorem dX11_goWeeks_9 : decode cX11_goWeeks 9 = .ok (.iconst 0, 1) := by decide +kernel
theorem dX11_goWeeks_10 : decode cX11_goWeeks 10 = .ok (.istore_n 1, 1) := by decide +kernel
theorem dX11_goWeeks_11 : decode cX11_goWeeks 11 = .ok (.iload_n 1, 1) := by decide +kernel
theorem dX11_goWeeks_12 : decode cX11_goWeeks 12 = .ok (.aload_n 0, 1) := by decide +kernel
theorem dX11_goWeeks_13 : decode cX11_goWeeks 13 = .ok (.getfield 58, 3) := by decide +kernel
theorem dX11_goWeeks_16 : decode cX11_goWeeks 16 = .ok (.if_icmp .ge 142, 3) := by decide +kernel
theorem dX11_goWeeks_19 : decode cX11_goWeeks 19 = .ok (.aload_n 0, 1) := by decide +kernel
theorem dX11_goWeeks_20 : decode cX11_goWeeks 20 = .ok (.getfield 73, 3) := by decide +kernel
theorem dX11_goWeeks_23 : decode cX11_goWeeks 23 = .ok (.istore_n 2, 1) := by decide +kernel
theorem dX11_goWeeks_24 : decode cX11_goWeeks 24 = .ok (.aload_n 0, 1) := by decide +kernel
theorem dX11_goWeeks_25 : decode cX11_goWeeks 25 = .ok (.getfield 19, 3) := by decide +kernel
theorem dX11_goWeeks_28 : decode cX11_goWeeks 28 = .ok (.iload_n 1, 1) := by decide +kernel
theorem dX11_goWeeks_29 : decode cX11_goWeeks 29 = .ok (.iaload, 1) := by decide +kernel
theorem dX11_goWeeks_30 : decode cX11_goWeeks 30 = .ok (.bipush 46, 2) := by decide +kernel
theorem dX11_goWeeks_32 : decode cX11_goWeeks 32 = .ok (.if_icmp .ne 7, 3) := by decide +kernel
theorem dX11_goWeeks_35 : decode cX11_goWeeks 35 = .ok (.iconst 1, 1) := by decide +kernel
theorem dX11_goWeeks_36 : decode cX11_goWeeks 36 = .ok (.goto 4, 3) := by decide +kernel
theorem dX11_goWeeks_39 : decode cX11_goWeeks 39 = .ok (.iconst 0, 1) := by decide +kernel
theorem dX11_goWeeks_40 : decode cX11_goWeeks 40 = .ok (.istore_n 3, 1) := by decide +kernel
theorem dX11_goWeeks_41 : decode cX11_goWeeks 41 = .ok (.aload_n 0, 1) := by decide +kernel
theorem dX11_goWeeks_42 : decode cX11_goWeeks 42 = .ok (.iload_n 3, 1) := by decide +kernel
theorem dX11_goWeeks_43 : decode cX11_goWeeks 43 = .ok (.ifCond .eq 10, 3) := by decide +kernel
theorem dX11_goWeeks_46 : decode cX11_goWeeks 46 = .ok (.aload_n 0, 1) := by decide +kernel
theorem dX11_goWeeks_47 : decode cX11_goWeeks 47 = .ok (.invokevirtual 107, 3) := by decide +kernel
theorem dX11_goWeeks_50 : decode cX11_goWeeks 50 = .ok (.goto 8, 3) := by decide +kernel
theorem dX11_goWeeks_53 : decode cX11_goWeeks 53 = .ok (.aload_n 0, 1) := by decide +kernel
theorem dX11_goWeeks_54 : decode cX11_goWeeks 54 = .ok (.iload_n 1, 1) := by decide +kernel
theorem dX11_goWeeks_55 : decode cX11_goWeeks 55 = .ok (.invokevirtual 110, 3) := by decide +kernel
theorem dX11_goWeeks_58 : decode cX11_goWeeks 58 = .ok (.putfield 113, 3) := by decide +kernel
theorem dX11_goWeeks_61 : decode cX11_goWeeks 61 = .ok (.iload_n 1, 1) := by decide +kernel
theorem dX11_goWeeks_62 : decode cX11_goWeeks 62 = .ok (.iload_n 3, 1) := by decide +kernel
theorem dX11_goWeeks_63 : decode cX11_goWeeks 63 = .ok (.ifCond .eq 7, 3) := by decide +kernel
theorem dX11_goWeeks_66 : decode cX11_goWeeks 66 = .ok (.iconst 1, 1) := by decide +kernel
theorem dX11_goWeeks_67 : decode cX11_goWeeks 67 = .ok (.goto 34, 3) := by decide +kernel
theorem dX11_goWeeks_70 : decode cX11_goWeeks 70 = .ok (.aload_n 0, 1) := by decide +kernel
theorem dX11_goWeeks_71 : decode cX11_goWeeks 71 = .ok (.getfield 19, 3) := by decide +kernel
theorem dX11_goWeeks_74 : decode cX11_goWeeks 74 = .ok (.iload_n 1, 1) := by decide +kernel
theorem dX11_goWeeks_75 : decode cX11_goWeeks 75 = .ok (.iconst 1, 1) := by decide +kernel
theorem dX11_goWeeks_76 : decode cX11_goWeeks 76 = .ok (.iadd, 1) := by decide +kernel
theorem dX11_goWeeks_77 : decode cX11_goWeeks 77 = .ok (.iaload, 1) := by decide +kernel
theorem dX11_goWeeks_78 : decode cX11_goWeeks 78 = .ok (.bipush 62, 2) := by decide +kernel
theorem dX11_goWeeks_80 : decode cX11_goWeeks 80 = .ok (.if_icmp .eq 16, 3) := by decide +kernel
theorem dX11_goWeeks_83 : decode cX11_goWeeks 83 = .ok (.aload_n 0, 1) := by decide +kernel
theorem dX11_goWeeks_84 : decode cX11_goWeeks 84 = .ok (.getfield 19, 3) := by decide +kernel
theorem dX11_goWeeks_87 : decode cX11_goWeeks 87 = .ok (.iload_n 1, 1) := by decide +kernel
theorem dX11_goWeeks_88 : decode cX11_goWeeks 88 = .ok (.iconst 1, 1) := by decide +kernel
theorem dX11_goWeeks_89 : decode cX11_goWeeks 89 = .ok (.iadd, 1) := by decide +kernel
theorem dX11_goWeeks_90 : decode cX11_goWeeks 90 = .ok (.iaload, 1) := by decide +kernel
theorem dX11_goWeeks_91 : decode cX11_goWeeks 91 = .ok (.bipush 36, 2) := by decide +kernel
theorem dX11_goWeeks_93 : decode cX11_goWeeks 93 = .ok (.if_icmp .ne 7, 3) := by decide +kernel
theorem dX11_goWeeks_96 : decode cX11_goWeeks 96 = .ok (.iconst 3, 1) := by decide +kernel
theorem dX11_goWeeks_97 : decode cX11_goWeeks 97 = .ok (.goto 4, 3) := by decide +kernel
theorem dX11_goWeeks_100 : decode cX11_goWeeks 100 = .ok (.iconst 2, 1) := by decide +kernel
theorem dX11_goWeeks_101 : decode cX11_goWeeks 101 = .ok (.iadd, 1) := by decide +kernel
theorem dX11_goWeeks_102 : decode cX11_goWeeks 102 = .ok (.istore_n 1, 1) := by decide +kernel
theorem dX11_goWeeks_103 : decode cX11_goWeeks 103 = .ok (.aload_n 0, 1) := by decide +kernel
theorem dX11_goWeeks_104 : decode cX11_goWeeks 104 = .ok (.getfield 113, 3) := by decide +kernel
theorem dX11_goWeeks_107 : decode cX11_goWeeks 107 = .ok (.ifCond .le 8, 3) := by decide +kernel
theorem dX11_goWeeks_110 : decode cX11_goWeeks 110 = .ok (.aload_n 0, 1) := by decide +kernel
theorem dX11_goWeeks_111 : decode cX11_goWeeks 111 = .ok (.getfield 104, 3) := by decide +kernel
theorem dX11_goWeeks_114 : decode cX11_goWeeks 114 = .ok (.ireturn, 1) := by decide +kernel
theorem dX11_goWeeks_115 : decode cX11_goWeeks 115 = .ok (.aload_n 0, 1) := by decide +kernel
theorem dX11_goWeeks_116 : decode cX11_goWeeks 116 = .ok (.aload_n 0, 1) := by decide +kernel
theorem dX11_goWeeks_117 : decode cX11_goWeeks 117 = .ok (.getfield 73, 3) := by decide +kernel
theorem dX11_goWeeks_120 : decode cX11_goWeeks 120 = .ok (.iload_n 2, 1) := by decide +kernel
theorem dX11_goWeeks_121 : decode cX11_goWeeks 121 = .ok (.if_icmp .le 17, 3) := by decide +kernel
theorem dX11_goWeeks_124 : decode cX11_goWeeks 124 = .ok (.aload_n 0, 1) := by decide +kernel
theorem dX11_goWeeks_125 : decode cX11_goWeeks 125 = .ok (.getfield 76, 3) := by decide +kernel
theorem dX11_goWeeks_128 : decode cX11_goWeeks 128 = .ok (.ifCond .ge 10, 3) := by decide +kernel
theorem dX11_goWeeks_131 : decode cX11_goWeeks 131 = .ok (.aload_n 0, 1) := by decide +kernel
theorem dX11_goWeeks_132 : decode cX11_goWeeks 132 = .ok (.getfield 104, 3) := by decide +kernel
theorem dX11_goWeeks_135 : decode cX11_goWeeks 135 = .ok (.goto 7, 3) := by decide +kernel
theorem dX11_goWeeks_138 : decode cX11_goWeeks 138 = .ok (.aload_n 0, 1) := by decide +kernel
theorem dX11_goWeeks_139 : decode cX11_goWeeks 139 = .ok (.getfield 76, 3) := by decide +kernel
theorem dX11_goWeeks_142 : decode cX11_goWeeks 142 = .ok (.putfield 76, 3) := by decide +kernel
theorem dX11_goWeeks_145 : decode cX11_goWeeks 145 = .ok (.aload_n 0, 1) := by decide +kernel
theorem dX11_goWeeks_146 : decode cX11_goWeeks 146 = .ok (.dup, 1) := by decide +kernel
theorem dX11_goWeeks_147 : decode cX11_goWeeks 147 = .ok (.getfield 104, 3) := by decide +kernel
theorem dX11_goWeeks_150 : decode cX11_goWeeks 150 = .ok (.iconst 1, 1) := by decide +kernel
theorem dX11_goWeeks_151 : decode cX11_goWeeks 151 = .ok (.iadd, 1) := by decide +kernel
theorem dX11_goWeeks_152 : decode cX11_goWeeks 152 = .ok (.putfield 104, 3) := by decide +kernel
theorem dX11_goWeeks_155 : decode cX11_goWeeks 155 = .ok (.goto (-144), 3) := by decide +kernel
theorem dX11_goWeeks_158 : decode cX11_goWeeks 158 = .ok (.bipush (-6), 2) := by decide +kernel
theorem dX11_goWeeks_160 : decode cX11_goWeeks 160 = .ok (.ireturn, 1) := by decide +kernel
theorem dX11_judge_0 : decode cX11_judge 0 = .ok (.iload_n 1, 1) := by decide +kernel
theorem dX11_judge_1 : decode cX11_judge 1 = .ok (.iconst 0, 1) := by decide +kernel
theorem dX11_judge_2 : decode cX11_judge 2 = .ok (.iconst 1, 1) := by decide +kernel
theorem dX11_judge_3 : decode cX11_judge 3 = .ok (.invokestatic 54, 3) := by decide +kernel
theorem dX11_judge_6 : decode cX11_judge 6 = .ok (.ifCond .ne 6, 3) := by decide +kernel
theorem dX11_judge_9 : decode cX11_judge 9 = .ok (.bipush (-2), 2) := by decide +kernel
theorem dX11_judge_11 : decode cX11_judge 11 = .ok (.ireturn, 1) := by decide +kernel
theorem dX11_judge_12 : decode cX11_judge 12 = .ok (.aload_n 0, 1) := by decide +kernel
theorem dX11_judge_13 : decode cX11_judge 13 = .ok (.invokevirtual 66, 3) := by decide +kernel
theorem dX11_judge_16 : decode cX11_judge 16 = .ok (.ifCond .lt 6, 3) := by decide +kernel
theorem dX11_judge_19 : decode cX11_judge 19 = .ok (.bipush (-5), 2) := by decide +kernel
theorem dX11_judge_21 : decode cX11_judge 21 = .ok (.ireturn, 1) := by decide +kernel
theorem dX11_judge_22 : decode cX11_judge 22 = .ok (.aload_n 0, 1) := by decide +kernel
theorem dX11_judge_23 : decode cX11_judge 23 = .ok (.invokevirtual 116, 3) := by decide +kernel
theorem dX11_judge_26 : decode cX11_judge 26 = .ok (.istore_n 2, 1) := by decide +kernel
theorem dX11_judge_27 : decode cX11_judge 27 = .ok (.iload_n 2, 1) := by decide +kernel
theorem dX11_judge_28 : decode cX11_judge 28 = .ok (.ifCond .lt 7, 3) := by decide +kernel
theorem dX11_judge_31 : decode cX11_judge 31 = .ok (.iload_n 1, 1) := by decide +kernel
theorem dX11_judge_32 : decode cX11_judge 32 = .ok (.ifCond .ne 7, 3) := by decide +kernel
theorem dX11_judge_35 : decode cX11_judge 35 = .ok (.iload_n 2, 1) := by decide +kernel
theorem dX11_judge_36 : decode cX11_judge 36 = .ok (.goto 7, 3) := by decide +kernel
theorem dX11_judge_39 : decode cX11_judge 39 = .ok (.aload_n 0, 1) := by decide +kernel
theorem dX11_judge_40 : decode cX11_judge 40 = .ok (.getfield 113, 3) := by decide +kernel
theorem dX11_judge_43 : decode cX11_judge 43 = .ok (.ireturn, 1) := by decide +kernel
theorem dX11_barOfWeeks_0 : decode cX11_barOfWeeks 0 = .ok (.aload_n 0, 1) := by decide +kernel
theorem dX11_barOfWeeks_1 : decode cX11_barOfWeeks 1 = .ok (.invokevirtual 66, 3) := by decide +kernel
theorem dX11_barOfWeeks_4 : decode cX11_barOfWeeks 4 = .ok (.ifCond .ge 10, 3) := by decide +kernel
theorem dX11_barOfWeeks_7 : decode cX11_barOfWeeks 7 = .ok (.aload_n 0, 1) := by decide +kernel
theorem dX11_barOfWeeks_8 : decode cX11_barOfWeeks 8 = .ok (.invokevirtual 116, 3) := by decide +kernel
theorem dX11_barOfWeeks_11 : decode cX11_barOfWeeks 11 = .ok (.ifCond .lt 8, 3) := by decide +kernel
theorem dX11_barOfWeeks_14 : decode cX11_barOfWeeks 14 = .ok (.bipush (-5), 2) := by decide +kernel
theorem dX11_barOfWeeks_16 : decode cX11_barOfWeeks 16 = .ok (.goto 4, 3) := by decide +kernel
theorem dX11_barOfWeeks_19 : decode cX11_barOfWeeks 19 = .ok (.iconst 0, 1) := by decide +kernel
theorem dX11_barOfWeeks_20 : decode cX11_barOfWeeks 20 = .ok (.ireturn, 1) := by decide +kernel
theorem dX11_done_0 : decode cX11_done 0 = .ok (.aload_n 0, 1) := by decide +kernel
theorem dX11_done_1 : decode cX11_done 1 = .ok (.invokevirtual 119, 3) := by decide +kernel
theorem dX11_done_4 : decode cX11_done 4 = .ok (.ifCond .ge 6, 3) := by decide +kernel
theorem dX11_done_7 : decode cX11_done 7 = .ok (.bipush (-5), 2) := by decide +kernel
theorem dX11_done_9 : decode cX11_done 9 = .ok (.ireturn, 1) := by decide +kernel
theorem dX11_done_10 : decode cX11_done 10 = .ok (.iconst 0, 1) := by decide +kernel
theorem dX11_done_11 : decode cX11_done 11 = .ok (.istore_n 1, 1) := by decide +kernel
theorem dX11_done_12 : decode cX11_done 12 = .ok (.iload_n 1, 1) := by decide +kernel
theorem dX11_done_13 : decode cX11_done 13 = .ok (.bipush 31, 2) := by decide +kernel
theorem dX11_done_15 : decode cX11_done 15 = .ok (.if_icmp .ge 21, 3) := by decide +kernel
theorem dX11_done_18 : decode cX11_done 18 = .ok (.aload_n 0, 1) := by decide +kernel
theorem dX11_done_19 : decode cX11_done 19 = .ok (.getfield 7, 3) := by decide +kernel
theorem dX11_done_22 : decode cX11_done 22 = .ok (.iload_n 1, 1) := by decide +kernel
theorem dX11_done_23 : decode cX11_done 23 = .ok (.aload_n 0, 1) := by decide +kernel
theorem dX11_done_24 : decode cX11_done 24 = .ok (.getfield 13, 3) := by decide +kernel
theorem dX11_done_27 : decode cX11_done 27 = .ok (.iload_n 1, 1) := by decide +kernel
theorem dX11_done_28 : decode cX11_done 28 = .ok (.iaload, 1) := by decide +kernel
theorem dX11_done_29 : decode cX11_done 29 = .ok (.iastore, 1) := by decide +kernel
theorem dX11_done_30 : decode cX11_done 30 = .ok (.iinc 1 1, 3) := by decide +kernel
theorem dX11_done_33 : decode cX11_done 33 = .ok (.goto (-21), 3) := by decide +kernel
theorem dX11_done_36 : decode cX11_done 36 = .ok (.aload_n 0, 1) := by decide +kernel
theorem dX11_done_37 : decode cX11_done 37 = .ok (.iconst 0, 1) := by decide +kernel
theorem dX11_done_38 : decode cX11_done 38 = .ok (.putfield 58, 3) := by decide +kernel
theorem dX11_done_41 : decode cX11_done 41 = .ok (.aload_n 0, 1) := by decide +kernel
theorem dX11_done_42 : decode cX11_done 42 = .ok (.getfield 104, 3) := by decide +kernel
theorem dX11_done_45 : decode cX11_done 45 = .ok (.ireturn, 1) := by decide +kernel
theorem dX11_behind_0 : decode cX11_behind 0 = .ok (.iload_n 1, 1) := by decide +kernel
theorem dX11_behind_1 : decode cX11_behind 1 = .ok (.iconst 0, 1) := by decide +kernel
theorem dX11_behind_2 : decode cX11_behind 2 = .ok (.bipush 7, 2) := by decide +kernel
theorem dX11_behind_4 : decode cX11_behind 4 = .ok (.invokestatic 54, 3) := by decide +kernel
theorem dX11_behind_7 : decode cX11_behind 7 = .ok (.ifCond .ne 5, 3) := by decide +kernel
theorem dX11_behind_10 : decode cX11_behind 10 = .ok (.iconst (-1), 1) := by decide +kernel
theorem dX11_behind_11 : decode cX11_behind 11 = .ok (.ireturn, 1) := by decide +kernel
theorem dX11_behind_12 : decode cX11_behind 12 = .ok (.iload_n 2, 1) := by decide +kernel
theorem dX11_behind_13 : decode cX11_behind 13 = .ok (.iconst 0, 1) := by decide +kernel
theorem dX11_behind_14 : decode cX11_behind 14 = .ok (.iconst 2, 1) := by decide +kernel
theorem dX11_behind_15 : decode cX11_behind 15 = .ok (.invokestatic 54, 3) := by decide +kernel
theorem dX11_behind_18 : decode cX11_behind 18 = .ok (.ifCond .ne 6, 3) := by decide +kernel
theorem dX11_behind_21 : decode cX11_behind 21 = .ok (.bipush (-2), 2) := by decide +kernel
theorem dX11_behind_23 : decode cX11_behind 23 = .ok (.ireturn, 1) := by decide +kernel
theorem dX11_behind_24 : decode cX11_behind 24 = .ok (.aload_n 0, 1) := by decide +kernel
theorem dX11_behind_25 : decode cX11_behind 25 = .ok (.invokevirtual 119, 3) := by decide +kernel
theorem dX11_behind_28 : decode cX11_behind 28 = .ok (.ifCond .ge 8, 3) := by decide +kernel
theorem dX11_behind_31 : decode cX11_behind 31 = .ok (.bipush (-5), 2) := by decide +kernel
theorem dX11_behind_33 : decode cX11_behind 33 = .ok (.goto 14, 3) := by decide +kernel
theorem dX11_behind_36 : decode cX11_behind 36 = .ok (.aload_n 0, 1) := by decide +kernel
theorem dX11_behind_37 : decode cX11_behind 37 = .ok (.getfield 13, 3) := by decide +kernel
theorem dX11_behind_40 : decode cX11_behind 40 = .ok (.bipush 8, 2) := by decide +kernel
theorem dX11_behind_42 : decode cX11_behind 42 = .ok (.iload_n 2, 1) := by decide +kernel
theorem dX11_behind_43 : decode cX11_behind 43 = .ok (.imul, 1) := by decide +kernel
theorem dX11_behind_44 : decode cX11_behind 44 = .ok (.iload_n 1, 1) := by decide +kernel
theorem dX11_behind_45 : decode cX11_behind 45 = .ok (.iadd, 1) := by decide +kernel
theorem dX11_behind_46 : decode cX11_behind 46 = .ok (.iaload, 1) := by decide +kernel
theorem dX11_behind_47 : decode cX11_behind 47 = .ok (.ireturn, 1) := by decide +kernel
theorem dX11_comes_0 : decode cX11_comes 0 = .ok (.iload_n 1, 1) := by decide +kernel
theorem dX11_comes_1 : decode cX11_comes 1 = .ok (.iconst 0, 1) := by decide +kernel
theorem dX11_comes_2 : decode cX11_comes 2 = .ok (.iconst 3, 1) := by decide +kernel
theorem dX11_comes_3 : decode cX11_comes 3 = .ok (.invokestatic 54, 3) := by decide +kernel
theorem dX11_comes_6 : decode cX11_comes 6 = .ok (.ifCond .ne 5, 3) := by decide +kernel
theorem dX11_comes_9 : decode cX11_comes 9 = .ok (.iconst (-1), 1) := by decide +kernel
theorem dX11_comes_10 : decode cX11_comes 10 = .ok (.ireturn, 1) := by decide +kernel
theorem dX11_comes_11 : decode cX11_comes 11 = .ok (.aload_n 0, 1) := by decide +kernel
theorem dX11_comes_12 : decode cX11_comes 12 = .ok (.invokevirtual 119, 3) := by decide +kernel
theorem dX11_comes_15 : decode cX11_comes 15 = .ok (.ifCond .ge 8, 3) := by decide +kernel
theorem dX11_comes_18 : decode cX11_comes 18 = .ok (.bipush (-5), 2) := by decide +kernel
theorem dX11_comes_20 : decode cX11_comes 20 = .ok (.goto 12, 3) := by decide +kernel
theorem dX11_comes_23 : decode cX11_comes 23 = .ok (.aload_n 0, 1) := by decide +kernel
theorem dX11_comes_24 : decode cX11_comes 24 = .ok (.getfield 13, 3) := by decide +kernel
theorem dX11_comes_27 : decode cX11_comes 27 = .ok (.bipush 24, 2) := by decide +kernel
theorem dX11_comes_29 : decode cX11_comes 29 = .ok (.iload_n 1, 1) := by decide +kernel
theorem dX11_comes_30 : decode cX11_comes 30 = .ok (.iadd, 1) := by decide +kernel
theorem dX11_comes_31 : decode cX11_comes 31 = .ok (.iaload, 1) := by decide +kernel
theorem dX11_comes_32 : decode cX11_comes 32 = .ok (.ireturn, 1) := by decide +kernel
theorem dX11_then_0 : decode cX11_then 0 = .ok (.iload_n 1, 1) := by decide +kernel
theorem dX11_then_1 : decode cX11_then 1 = .ok (.iconst 0, 1) := by decide +kernel
theorem dX11_then_2 : decode cX11_then 2 = .ok (.bipush 6, 2) := by decide +kernel
theorem dX11_then_4 : decode cX11_then 4 = .ok (.invokestatic 54, 3) := by decide +kernel
theorem dX11_then_7 : decode cX11_then 7 = .ok (.ifCond .ne 6, 3) := by decide +kernel
theorem dX11_then_10 : decode cX11_then 10 = .ok (.bipush (-2), 2) := by decide +kernel
theorem dX11_then_12 : decode cX11_then 12 = .ok (.ireturn, 1) := by decide +kernel
theorem dX11_then_13 : decode cX11_then 13 = .ok (.aload_n 0, 1) := by decide +kernel
theorem dX11_then_14 : decode cX11_then 14 = .ok (.invokevirtual 119, 3) := by decide +kernel
theorem dX11_then_17 : decode cX11_then 17 = .ok (.ifCond .ge 6, 3) := by decide +kernel
theorem dX11_then_20 : decode cX11_then 20 = .ok (.bipush (-5), 2) := by decide +kernel
theorem dX11_then_22 : decode cX11_then 22 = .ok (.ireturn, 1) := by decide +kernel
theorem dX11_then_23 : decode cX11_then 23 = .ok (.iload_n 1, 1) := by decide +kernel
theorem dX11_then_24 : decode cX11_then 24 = .ok (.tableswitch 71 0 4 #[36, 44, 49, 58, 63], 36) := by decide +kernel
theorem dX11_then_60 : decode cX11_then 60 = .ok (.aload_n 0, 1) := by decide +kernel
theorem dX11_then_61 : decode cX11_then 61 = .ok (.getfield 13, 3) := by decide +kernel
theorem dX11_then_64 : decode cX11_then 64 = .ok (.bipush 28, 2) := by decide +kernel
theorem dX11_then_66 : decode cX11_then 66 = .ok (.iaload, 1) := by decide +kernel
theorem dX11_then_67 : decode cX11_then 67 = .ok (.ireturn, 1) := by decide +kernel
theorem dX11_then_68 : decode cX11_then 68 = .ok (.aload_n 0, 1) := by decide +kernel
theorem dX11_then_69 : decode cX11_then 69 = .ok (.invokevirtual 83, 3) := by decide +kernel
theorem dX11_then_72 : decode cX11_then 72 = .ok (.ireturn, 1) := by decide +kernel
theorem dX11_then_73 : decode cX11_then 73 = .ok (.aload_n 0, 1) := by decide +kernel
theorem dX11_then_74 : decode cX11_then 74 = .ok (.aload_n 0, 1) := by decide +kernel
theorem dX11_then_75 : decode cX11_then 75 = .ok (.invokevirtual 83, 3) := by decide +kernel
theorem dX11_then_78 : decode cX11_then 78 = .ok (.invokevirtual 79, 3) := by decide +kernel
theorem dX11_then_81 : decode cX11_then 81 = .ok (.ireturn, 1) := by decide +kernel
theorem dX11_then_82 : decode cX11_then 82 = .ok (.aload_n 0, 1) := by decide +kernel
theorem dX11_then_83 : decode cX11_then 83 = .ok (.getfield 70, 3) := by decide +kernel
theorem dX11_then_86 : decode cX11_then 86 = .ok (.ireturn, 1) := by decide +kernel
theorem dX11_then_87 : decode cX11_then 87 = .ok (.aload_n 0, 1) := by decide +kernel
theorem dX11_then_88 : decode cX11_then 88 = .ok (.getfield 13, 3) := by decide +kernel
theorem dX11_then_91 : decode cX11_then 91 = .ok (.bipush 29, 2) := by decide +kernel
theorem dX11_then_93 : decode cX11_then 93 = .ok (.iaload, 1) := by decide +kernel
theorem dX11_then_94 : decode cX11_then 94 = .ok (.ireturn, 1) := by decide +kernel
theorem dX11_then_95 : decode cX11_then 95 = .ok (.iload_n 1, 1) := by decide +kernel
theorem dX11_then_96 : decode cX11_then 96 = .ok (.iconst 5, 1) := by decide +kernel
theorem dX11_then_97 : decode cX11_then 97 = .ok (.if_icmp .ne 10, 3) := by decide +kernel
theorem dX11_then_100 : decode cX11_then 100 = .ok (.aload_n 0, 1) := by decide +kernel
theorem dX11_then_101 : decode cX11_then 101 = .ok (.getfield 73, 3) := by decide +kernel
theorem dX11_then_104 : decode cX11_then 104 = .ok (.goto 7, 3) := by decide +kernel
theorem dX11_then_107 : decode cX11_then 107 = .ok (.aload_n 0, 1) := by decide +kernel
theorem dX11_then_108 : decode cX11_then 108 = .ok (.getfield 76, 3) := by decide +kernel
theorem dX11_then_111 : decode cX11_then 111 = .ok (.ireturn, 1) := by decide +kernel
theorem dX11_chalk_0 : decode cX11_chalk 0 = .ok (.aload_n 0, 1) := by decide +kernel
theorem dX11_chalk_1 : decode cX11_chalk 1 = .ok (.invokevirtual 101, 3) := by decide +kernel
theorem dX11_chalk_4 : decode cX11_chalk 4 = .ok (.iload_n 1, 1) := by decide +kernel
theorem dX11_chalk_5 : decode cX11_chalk 5 = .ok (.iconst 0, 1) := by decide +kernel
theorem dX11_chalk_6 : decode cX11_chalk 6 = .ok (.bipush 6, 2) := by decide +kernel
theorem dX11_chalk_8 : decode cX11_chalk 8 = .ok (.invokestatic 54, 3) := by decide +kernel
theorem dX11_chalk_11 : decode cX11_chalk 11 = .ok (.ifCond .eq 11, 3) := by decide +kernel
theorem dX11_chalk_14 : decode cX11_chalk 14 = .ok (.aload_n 0, 1) := by decide +kernel
theorem dX11_chalk_15 : decode cX11_chalk 15 = .ok (.iload_n 1, 1) := by decide +kernel
theorem dX11_chalk_16 : decode cX11_chalk 16 = .ok (.invokevirtual 79, 3) := by decide +kernel
theorem dX11_chalk_19 : decode cX11_chalk 19 = .ok (.goto 5, 3) := by decide +kernel
theorem dX11_chalk_22 : decode cX11_chalk 22 = .ok (.bipush (-2), 2) := by decide +kernel
theorem dX11_chalk_24 : decode cX11_chalk 24 = .ok (.ireturn, 1) := by decide +kernel
theorem dX11_sway_0 : decode cX11_sway 0 = .ok (.iload_n 1, 1) := by decide +kernel
theorem dX11_sway_1 : decode cX11_sway 1 = .ok (.iconst 0, 1) := by decide +kernel
theorem dX11_sway_2 : decode cX11_sway 2 = .ok (.bipush 6, 2) := by decide +kernel
theorem dX11_sway_4 : decode cX11_sway 4 = .ok (.invokestatic 54, 3) := by decide +kernel
theorem dX11_sway_7 : decode cX11_sway 7 = .ok (.ifCond .ne 6, 3) := by decide +kernel
theorem dX11_sway_10 : decode cX11_sway 10 = .ok (.bipush (-2), 2) := by decide +kernel
theorem dX11_sway_12 : decode cX11_sway 12 = .ok (.ireturn, 1) := by decide +kernel
theorem dX11_sway_13 : decode cX11_sway 13 = .ok (.aload_n 0, 1) := by decide +kernel
theorem dX11_sway_14 : decode cX11_sway 14 = .ok (.invokevirtual 101, 3) := by decide +kernel
theorem dX11_sway_17 : decode cX11_sway 17 = .ok (.ldc 122, 2) := by decide +kernel
theorem dX11_sway_19 : decode cX11_sway 19 = .ok (.istore_n 2, 1) := by decide +kernel
theorem dX11_sway_20 : decode cX11_sway 20 = .ok (.iconst 0, 1) := by decide +kernel
theorem dX11_sway_21 : decode cX11_sway 21 = .ok (.istore_n 3, 1) := by decide +kernel
theorem dX11_sway_22 : decode cX11_sway 22 = .ok (.iload_n 3, 1) := by decide +kernel
theorem dX11_sway_23 : decode cX11_sway 23 = .ok (.bipush 9, 2) := by decide +kernel
theorem dX11_sway_25 : decode cX11_sway 25 = .ok (.if_icmp .ge 169, 3) := by decide +kernel
theorem dX11_sway_28 : decode cX11_sway 28 = .ok (.iload_n 3, 1) := by decide +kernel
theorem dX11_sway_29 : decode cX11_sway 29 = .ok (.istore 4, 2) := by decide +kernel
theorem dX11_sway_31 : decode cX11_sway 31 = .ok (.iload_n 3, 1) := by decide +kernel
theorem dX11_sway_32 : decode cX11_sway 32 = .ok (.aload_n 0, 1) := by decide +kernel
theorem dX11_sway_33 : decode cX11_sway 33 = .ok (.iload_n 1, 1) := by decide +kernel
theorem dX11_sway_34 : decode cX11_sway 34 = .ok (.invokevirtual 79, 3) := by decide +kernel
theorem dX11_sway_37 : decode cX11_sway 37 = .ok (.if_icmp .le 13, 3) := by decide +kernel
theorem dX11_sway_40 : decode cX11_sway 40 = .ok (.iload_n 3, 1) := by decide +kernel
theorem dX11_sway_41 : decode cX11_sway 41 = .ok (.aload_n 0, 1) := by decide +kernel
theorem dX11_sway_42 : decode cX11_sway 42 = .ok (.iload_n 1, 1) := by decide +kernel
theorem dX11_sway_43 : decode cX11_sway 43 = .ok (.invokevirtual 79, 3) := by decide +kernel
theorem dX11_sway_46 : decode cX11_sway 46 = .ok (.isub, 1) := by decide +kernel
theorem dX11_sway_47 : decode cX11_sway 47 = .ok (.goto 4, 3) := by decide +kernel
theorem dX11_sway_50 : decode cX11_sway 50 = .ok (.iconst 0, 1) := by decide +kernel
theorem dX11_sway_51 : decode cX11_sway 51 = .ok (.istore 5, 2) := by decide +kernel
theorem dX11_sway_53 : decode cX11_sway 53 = .ok (.aload_n 0, 1) := by decide +kernel
theorem dX11_sway_54 : decode cX11_sway 54 = .ok (.iload_n 1, 1) := by decide +kernel
theorem dX11_sway_55 : decode cX11_sway 55 = .ok (.invokevirtual 79, 3) := by decide +kernel
theorem dX11_sway_58 : decode cX11_sway 58 = .ok (.iload_n 3, 1) := by decide +kernel
theorem dX11_sway_59 : decode cX11_sway 59 = .ok (.if_icmp .le 13, 3) := by decide +kernel
theorem dX11_sway_62 : decode cX11_sway 62 = .ok (.aload_n 0, 1) := by decide +kernel
theorem dX11_sway_63 : decode cX11_sway 63 = .ok (.iload_n 1, 1) := by decide +kernel
theorem dX11_sway_64 : decode cX11_sway 64 = .ok (.invokevirtual 79, 3) := by decide +kernel
theorem dX11_sway_67 : decode cX11_sway 67 = .ok (.iload_n 3, 1) := by decide +kernel
theorem dX11_sway_68 : decode cX11_sway 68 = .ok (.isub, 1) := by decide +kernel
theorem dX11_sway_69 : decode cX11_sway 69 = .ok (.goto 4, 3) := by decide +kernel
theorem dX11_sway_72 : decode cX11_sway 72 = .ok (.iconst 0, 1) := by decide +kernel
theorem dX11_sway_73 : decode cX11_sway 73 = .ok (.istore 6, 2) := by decide +kernel
theorem dX11_sway_75 : decode cX11_sway 75 = .ok (.iconst 0, 1) := by decide +kernel
theorem dX11_sway_76 : decode cX11_sway 76 = .ok (.istore 7, 2) := by decide +kernel
theorem dX11_sway_78 : decode cX11_sway 78 = .ok (.iload 7, 2) := by decide +kernel
theorem dX11_sway_80 : decode cX11_sway 80 = .ok (.bipush 7, 2) := by decide +kernel
theorem dX11_sway_82 : decode cX11_sway 82 = .ok (.if_icmp .ge 70, 3) := by decide +kernel
theorem dX11_sway_85 : decode cX11_sway 85 = .ok (.iload 7, 2) := by decide +kernel
theorem dX11_sway_87 : decode cX11_sway 87 = .ok (.iload_n 1, 1) := by decide +kernel
theorem dX11_sway_88 : decode cX11_sway 88 = .ok (.if_icmp .ne 7, 3) := by decide +kernel
theorem dX11_sway_91 : decode cX11_sway 91 = .ok (.iconst 0, 1) := by decide +kernel
theorem dX11_sway_92 : decode cX11_sway 92 = .ok (.goto 16, 3) := by decide +kernel
theorem dX11_sway_95 : decode cX11_sway 95 = .ok (.iload 7, 2) := by decide +kernel
theorem dX11_sway_97 : decode cX11_sway 97 = .ok (.iload_n 1, 1) := by decide +kernel
theorem dX11_sway_98 : decode cX11_sway 98 = .ok (.if_icmp .ge 9, 3) := by decide +kernel
theorem dX11_sway_101 : decode cX11_sway 101 = .ok (.iload_n 3, 1) := by decide +kernel
theorem dX11_sway_102 : decode cX11_sway 102 = .ok (.iconst 1, 1) := by decide +kernel
theorem dX11_sway_103 : decode cX11_sway 103 = .ok (.iadd, 1) := by decide +kernel
theorem dX11_sway_104 : decode cX11_sway 104 = .ok (.goto 4, 3) := by decide +kernel
theorem dX11_sway_107 : decode cX11_sway 107 = .ok (.iload_n 3, 1) := by decide +kernel
theorem dX11_sway_108 : decode cX11_sway 108 = .ok (.istore 8, 2) := by decide +kernel
theorem dX11_sway_110 : decode cX11_sway 110 = .ok (.iload 4, 2) := by decide +kernel
theorem dX11_sway_112 : decode cX11_sway 112 = .ok (.iload 8, 2) := by decide +kernel
theorem dX11_sway_114 : decode cX11_sway 114 = .ok (.iadd, 1) := by decide +kernel
theorem dX11_sway_115 : decode cX11_sway 115 = .ok (.istore 4, 2) := by decide +kernel
theorem dX11_sway_117 : decode cX11_sway 117 = .ok (.iload 5, 2) := by decide +kernel
theorem dX11_sway_119 : decode cX11_sway 119 = .ok (.iload 8, 2) := by decide +kernel
theorem dX11_sway_121 : decode cX11_sway 121 = .ok (.aload_n 0, 1) := by decide +kernel
theorem dX11_sway_122 : decode cX11_sway 122 = .ok (.iload 7, 2) := by decide +kernel
theorem dX11_sway_124 : decode cX11_sway 124 = .ok (.invokevirtual 79, 3) := by decide +kernel
theorem dX11_sway_127 : decode cX11_sway 127 = .ok (.if_icmp .le 15, 3) := by decide +kernel
theorem dX11_sway_130 : decode cX11_sway 130 = .ok (.iload 8, 2) := by decide +kernel
theorem dX11_sway_132 : decode cX11_sway 132 = .ok (.aload_n 0, 1) := by decide +kernel
theorem dX11_sway_133 : decode cX11_sway 133 = .ok (.iload 7, 2) := by decide +kernel
theorem dX11_sway_135 : decode cX11_sway 135 = .ok (.invokevirtual 79, 3) := by decide +kernel
theorem dX11_sway_138 : decode cX11_sway 138 = .ok (.isub, 1) := by decide +kernel
theorem dX11_sway_139 : decode cX11_sway 139 = .ok (.goto 4, 3) := by decide +kernel
theorem dX11_sway_142 : decode cX11_sway 142 = .ok (.iconst 0, 1) := by decide +kernel
theorem dX11_sway_143 : decode cX11_sway 143 = .ok (.iadd, 1) := by decide +kernel
theorem dX11_sway_144 : decode cX11_sway 144 = .ok (.istore 5, 2) := by decide +kernel
theorem dX11_sway_146 : decode cX11_sway 146 = .ok (.iinc 7 1, 3) := by decide +kernel
theorem dX11_sway_149 : decode cX11_sway 149 = .ok (.goto (-71), 3) := by decide +kernel
theorem dX11_sway_152 : decode cX11_sway 152 = .ok (.iload 5, 2) := by decide +kernel
theorem dX11_sway_154 : decode cX11_sway 154 = .ok (.iload 6, 2) := by decide +kernel
theorem dX11_sway_156 : decode cX11_sway 156 = .ok (.if_icmp .le 8, 3) := by decide +kernel
theorem dX11_sway_159 : decode cX11_sway 159 = .ok (.iload 5, 2) := by decide +kernel
theorem dX11_sway_161 : decode cX11_sway 161 = .ok (.goto 5, 3) := by decide +kernel
theorem dX11_sway_164 : decode cX11_sway 164 = .ok (.iload 6, 2) := by decide +kernel
theorem dX11_sway_166 : decode cX11_sway 166 = .ok (.istore 7, 2) := by decide +kernel
theorem dX11_sway_168 : decode cX11_sway 168 = .ok (.iload 4, 2) := by decide +kernel
theorem dX11_sway_170 : decode cX11_sway 170 = .ok (.bipush 9, 2) := by decide +kernel
theorem dX11_sway_172 : decode cX11_sway 172 = .ok (.if_icmp .ge 14, 3) := by decide +kernel
theorem dX11_sway_175 : decode cX11_sway 175 = .ok (.iload 7, 2) := by decide +kernel
theorem dX11_sway_177 : decode cX11_sway 177 = .ok (.iload_n 2, 1) := by decide +kernel
theorem dX11_sway_178 : decode cX11_sway 178 = .ok (.if_icmp .ge 8, 3) := by decide +kernel
theorem dX11_sway_181 : decode cX11_sway 181 = .ok (.iload 7, 2) := by decide +kernel
theorem dX11_sway_183 : decode cX11_sway 183 = .ok (.goto 4, 3) := by decide +kernel
theorem dX11_sway_186 : decode cX11_sway 186 = .ok (.iload_n 2, 1) := by decide +kernel
theorem dX11_sway_187 : decode cX11_sway 187 = .ok (.istore_n 2, 1) := by decide +kernel
theorem dX11_sway_188 : decode cX11_sway 188 = .ok (.iinc 3 1, 3) := by decide +kernel
theorem dX11_sway_191 : decode cX11_sway 191 = .ok (.goto (-169), 3) := by decide +kernel
theorem dX11_sway_194 : decode cX11_sway 194 = .ok (.iload_n 2, 1) := by decide +kernel
theorem dX11_sway_195 : decode cX11_sway 195 = .ok (.ldc 122, 2) := by decide +kernel
theorem dX11_sway_197 : decode cX11_sway 197 = .ok (.if_icmp .ge 7, 3) := by decide +kernel
theorem dX11_sway_200 : decode cX11_sway 200 = .ok (.iload_n 2, 1) := by decide +kernel
theorem dX11_sway_201 : decode cX11_sway 201 = .ok (.goto 5, 3) := by decide +kernel
theorem dX11_sway_204 : decode cX11_sway 204 = .ok (.bipush (-6), 2) := by decide +kernel
theorem dX11_sway_206 : decode cX11_sway 206 = .ok (.ireturn, 1) := by decide +kernel
theorem dX11_layRow_0 : decode cX11_layRow 0 = .ok (.iload_n 2, 1) := by decide +kernel
theorem dX11_layRow_1 : decode cX11_layRow 1 = .ok (.iconst 1, 1) := by decide +kernel
theorem dX11_layRow_2 : decode cX11_layRow 2 = .ok (.bipush 9, 2) := by decide +kernel
theorem dX11_layRow_4 : decode cX11_layRow 4 = .ok (.invokestatic 54, 3) := by decide +kernel
theorem dX11_layRow_7 : decode cX11_layRow 7 = .ok (.ifCond .eq 7, 3) := by decide +kernel
theorem dX11_layRow_10 : decode cX11_layRow 10 = .ok (.iload_n 1, 1) := by decide +kernel
theorem dX11_layRow_11 : decode cX11_layRow 11 = .ok (.ifCond .ge 5, 3) := by decide +kernel
theorem dX11_layRow_14 : decode cX11_layRow 14 = .ok (.iconst 0, 1) := by decide +kernel
theorem dX11_layRow_15 : decode cX11_layRow 15 = .ok (.ireturn, 1) := by decide +kernel
theorem dX11_layRow_16 : decode cX11_layRow 16 = .ok (.iload_n 1, 1) := by decide +kernel
theorem dX11_layRow_17 : decode cX11_layRow 17 = .ok (.istore_n 3, 1) := by decide +kernel
theorem dX11_layRow_18 : decode cX11_layRow 18 = .ok (.iload_n 2, 1) := by decide +kernel
theorem dX11_layRow_19 : decode cX11_layRow 19 = .ok (.iconst 1, 1) := by decide +kernel
theorem dX11_layRow_20 : decode cX11_layRow 20 = .ok (.isub, 1) := by decide +kernel
theorem dX11_layRow_21 : decode cX11_layRow 21 = .ok (.istore 4, 2) := by decide +kernel
theorem dX11_layRow_23 : decode cX11_layRow 23 = .ok (.iload 4, 2) := by decide +kernel
theorem dX11_layRow_25 : decode cX11_layRow 25 = .ok (.ifCond .lt 25, 3) := by decide +kernel
theorem dX11_layRow_28 : decode cX11_layRow 28 = .ok (.aload_n 0, 1) := by decide +kernel
theorem dX11_layRow_29 : decode cX11_layRow 29 = .ok (.getfield 22, 3) := by decide +kernel
theorem dX11_layRow_32 : decode cX11_layRow 32 = .ok (.iload 4, 2) := by decide +kernel
theorem dX11_layRow_34 : decode cX11_layRow 34 = .ok (.iload_n 3, 1) := by decide +kernel
theorem dX11_layRow_35 : decode cX11_layRow 35 = .ok (.bipush 10, 2) := by decide +kernel
theorem dX11_layRow_37 : decode cX11_layRow 37 = .ok (.irem, 1) := by decide +kernel
theorem dX11_layRow_38 : decode cX11_layRow 38 = .ok (.iastore, 1) := by decide +kernel
theorem dX11_layRow_39 : decode cX11_layRow 39 = .ok (.iload_n 3, 1) := by decide +kernel
theorem dX11_layRow_40 : decode cX11_layRow 40 = .ok (.bipush 10, 2) := by decide +kernel
theorem dX11_layRow_42 : decode cX11_layRow 42 = .ok (.idiv, 1) := by decide +kernel
theorem dX11_layRow_43 : decode cX11_layRow 43 = .ok (.istore_n 3, 1) := by decide +kernel
theorem dX11_layRow_44 : decode cX11_layRow 44 = .ok (.iinc 4 (-1), 3) := by decide +kernel
theorem dX11_layRow_47 : decode cX11_layRow 47 = .ok (.goto (-24), 3) := by decide +kernel
theorem dX11_layRow_50 : decode cX11_layRow 50 = .ok (.iload_n 3, 1) := by decide +kernel
theorem dX11_layRow_51 : decode cX11_layRow 51 = .ok (.ifCond .ne 7, 3) := by decide +kernel
theorem dX11_layRow_54 : decode cX11_layRow 54 = .ok (.iconst 1, 1) := by decide +kernel
theorem dX11_layRow_55 : decode cX11_layRow 55 = .ok (.goto 4, 3) := by decide +kernel
theorem dX11_layRow_58 : decode cX11_layRow 58 = .ok (.iconst 0, 1) := by decide +kernel
theorem dX11_layRow_59 : decode cX11_layRow 59 = .ok (.ireturn, 1) := by decide +kernel
theorem dX11_needed_0 : decode cX11_needed 0 = .ok (.aload_n 0, 1) := by decide +kernel
theorem dX11_needed_1 : decode cX11_needed 1 = .ok (.iload_n 1, 1) := by decide +kernel
theorem dX11_needed_2 : decode cX11_needed 2 = .ok (.iload_n 2, 1) := by decide +kernel
theorem dX11_needed_3 : decode cX11_needed 3 = .ok (.invokevirtual 123, 3) := by decide +kernel
theorem dX11_needed_6 : decode cX11_needed 6 = .ok (.ifCond .eq 35, 3) := by decide +kernel
theorem dX11_needed_9 : decode cX11_needed 9 = .ok (.iload_n 3, 1) := by decide +kernel
theorem dX11_needed_10 : decode cX11_needed 10 = .ok (.iconst 1, 1) := by decide +kernel
theorem dX11_needed_11 : decode cX11_needed 11 = .ok (.bipush 81, 2) := by decide +kernel
theorem dX11_needed_13 : decode cX11_needed 13 = .ok (.invokestatic 54, 3) := by decide +kernel
theorem dX11_needed_16 : decode cX11_needed 16 = .ok (.ifCond .eq 25, 3) := by decide +kernel
theorem dX11_needed_19 : decode cX11_needed 19 = .ok (.iload 4, 2) := by decide +kernel
theorem dX11_needed_21 : decode cX11_needed 21 = .ok (.iconst 0, 1) := by decide +kernel
theorem dX11_needed_22 : decode cX11_needed 22 = .ok (.iload_n 2, 1) := by decide +kernel
theorem dX11_needed_23 : decode cX11_needed 23 = .ok (.iconst 1, 1) := by decide +kernel
theorem dX11_needed_24 : decode cX11_needed 24 = .ok (.isub, 1) := by decide +kernel
theorem dX11_needed_25 : decode cX11_needed 25 = .ok (.invokestatic 54, 3) := by decide +kernel
theorem dX11_needed_28 : decode cX11_needed 28 = .ok (.ifCond .eq 13, 3) := by decide +kernel
theorem dX11_needed_31 : decode cX11_needed 31 = .ok (.iload 5, 2) := by decide +kernel
theorem dX11_needed_33 : decode cX11_needed 33 = .ok (.iconst 0, 1) := by decide +kernel
theorem dX11_needed_34 : decode cX11_needed 34 = .ok (.iconst 1, 1) := by decide +kernel
theorem dX11_needed_35 : decode cX11_needed 35 = .ok (.invokestatic 54, 3) := by decide +kernel
theorem dX11_needed_38 : decode cX11_needed 38 = .ok (.ifCond .ne 6, 3) := by decide +kernel
theorem dX11_needed_41 : decode cX11_needed 41 = .ok (.bipush (-2), 2) := by decide +kernel
theorem dX11_needed_43 : decode cX11_needed 43 = .ok (.ireturn, 1) := by decide +kernel
theorem dX11_needed_44 : decode cX11_needed 44 = .ok (.iconst 0, 1) := by decide +kernel
theorem dX11_needed_45 : decode cX11_needed 45 = .ok (.istore 6, 2) := by decide +kernel
theorem dX11_needed_47 : decode cX11_needed 47 = .ok (.iconst 0, 1) := by decide +kernel
theorem dX11_needed_48 : decode cX11_needed 48 = .ok (.istore 7, 2) := by decide +kernel
theorem dX11_needed_50 : decode cX11_needed 50 = .ok (.iconst 0, 1) := by decide +kernel
theorem dX11_needed_51 : decode cX11_needed 51 = .ok (.istore 8, 2) := by decide +kernel
theorem dX11_needed_53 : decode cX11_needed 53 = .ok (.iload 8, 2) := by decide +kernel
theorem dX11_needed_55 : decode cX11_needed 55 = .ok (.iconst 1, 1) := by decide +kernel
theorem dX11_needed_56 : decode cX11_needed 56 = .ok (.iload_n 2, 1) := by decide +kernel
theorem dX11_needed_57 : decode cX11_needed 57 = .ok (.ishl, 1) := by decide +kernel
theorem dX11_needed_58 : decode cX11_needed 58 = .ok (.if_icmp .ge 109, 3) := by decide +kernel
theorem dX11_needed_61 : decode cX11_needed 61 = .ok (.iconst 0, 1) := by decide +kernel
theorem dX11_needed_62 : decode cX11_needed 62 = .ok (.istore 9, 2) := by decide +kernel
theorem dX11_needed_64 : decode cX11_needed 64 = .ok (.iconst 0, 1) := by decide +kernel
theorem dX11_needed_65 : decode cX11_needed 65 = .ok (.istore 10, 2) := by decide +kernel
theorem dX11_needed_67 : decode cX11_needed 67 = .ok (.iload 10, 2) := by decide +kernel
theorem dX11_needed_69 : decode cX11_needed 69 = .ok (.iload_n 2, 1) := by decide +kernel
theorem dX11_needed_70 : decode cX11_needed 70 = .ok (.if_icmp .ge 35, 3) := by decide +kernel
theorem dX11_needed_73 : decode cX11_needed 73 = .ok (.iload 9, 2) := by decide +kernel
theorem dX11_needed_75 : decode cX11_needed 75 = .ok (.iload 8, 2) := by decide +kernel
theorem dX11_needed_77 : decode cX11_needed 77 = .ok (.iload 10, 2) := by decide +kernel
theorem dX11_needed_79 : decode cX11_needed 79 = .ok (.invokestatic 127, 3) := by decide +kernel
theorem dX11_needed_82 : decode cX11_needed 82 = .ok (.ifCond .eq 13, 3) := by decide +kernel
theorem dX11_needed_85 : decode cX11_needed 85 = .ok (.aload_n 0, 1) := by decide +kernel
theorem dX11_needed_86 : decode cX11_needed 86 = .ok (.getfield 22, 3) := by decide +kernel
theorem dX11_needed_89 : decode cX11_needed 89 = .ok (.iload 10, 2) := by decide +kernel
theorem dX11_needed_91 : decode cX11_needed 91 = .ok (.iaload, 1) := by decide +kernel
theorem dX11_needed_92 : decode cX11_needed 92 = .ok (.goto 4, 3) := by decide +kernel
theorem dX11_needed_95 : decode cX11_needed 95 = .ok (.iconst 0, 1) := by decide +kernel
theorem dX11_needed_96 : decode cX11_needed 96 = .ok (.iadd, 1) := by decide +kernel
theorem dX11_needed_97 : decode cX11_needed 97 = .ok (.istore 9, 2) := by decide +kernel
theorem dX11_needed_99 : decode cX11_needed 99 = .ok (.iinc 10 1, 3) := by decide +kernel
theorem dX11_needed_102 : decode cX11_needed 102 = .ok (.goto (-35), 3) := by decide +kernel
theorem dX11_needed_105 : decode cX11_needed 105 = .ok (.iload 7, 2) := by decide +kernel
theorem dX11_needed_107 : decode cX11_needed 107 = .ok (.iload 9, 2) := by decide +kernel
theorem dX11_needed_109 : decode cX11_needed 109 = .ok (.iload_n 3, 1) := by decide +kernel
theorem dX11_needed_110 : decode cX11_needed 110 = .ok (.if_icmp .lt 7, 3) := by decide +kernel
theorem dX11_needed_113 : decode cX11_needed 113 = .ok (.iconst 1, 1) := by decide +kernel
theorem dX11_needed_114 : decode cX11_needed 114 = .ok (.goto 4, 3) := by decide +kernel
theorem dX11_needed_117 : decode cX11_needed 117 = .ok (.iconst 0, 1) := by decide +kernel
theorem dX11_needed_118 : decode cX11_needed 118 = .ok (.iadd, 1) := by decide +kernel
theorem dX11_needed_119 : decode cX11_needed 119 = .ok (.istore 7, 2) := by decide +kernel
theorem dX11_needed_121 : decode cX11_needed 121 = .ok (.iload 6, 2) := by decide +kernel
theorem dX11_needed_123 : decode cX11_needed 123 = .ok (.iload 8, 2) := by decide +kernel
theorem dX11_needed_125 : decode cX11_needed 125 = .ok (.iload 4, 2) := by decide +kernel
theorem dX11_needed_127 : decode cX11_needed 127 = .ok (.invokestatic 127, 3) := by decide +kernel
theorem dX11_needed_130 : decode cX11_needed 130 = .ok (.ifCond .eq 27, 3) := by decide +kernel
theorem dX11_needed_133 : decode cX11_needed 133 = .ok (.iload 9, 2) := by decide +kernel
theorem dX11_needed_135 : decode cX11_needed 135 = .ok (.iload_n 3, 1) := by decide +kernel
theorem dX11_needed_136 : decode cX11_needed 136 = .ok (.if_icmp .lt 21, 3) := by decide +kernel
theorem dX11_needed_139 : decode cX11_needed 139 = .ok (.iload 9, 2) := by decide +kernel
theorem dX11_needed_141 : decode cX11_needed 141 = .ok (.aload_n 0, 1) := by decide +kernel
theorem dX11_needed_142 : decode cX11_needed 142 = .ok (.getfield 22, 3) := by decide +kernel
theorem dX11_needed_145 : decode cX11_needed 145 = .ok (.iload 4, 2) := by decide +kernel
theorem dX11_needed_147 : decode cX11_needed 147 = .ok (.iaload, 1) := by decide +kernel
theorem dX11_needed_148 : decode cX11_needed 148 = .ok (.isub, 1) := by decide +kernel
theorem dX11_needed_149 : decode cX11_needed 149 = .ok (.iload_n 3, 1) := by decide +kernel
theorem dX11_needed_150 : decode cX11_needed 150 = .ok (.if_icmp .ge 7, 3) := by decide +kernel
theorem dX11_needed_153 : decode cX11_needed 153 = .ok (.iconst 1, 1) := by decide +kernel
theorem dX11_needed_154 : decode cX11_needed 154 = .ok (.goto 4, 3) := by decide +kernel
theorem dX11_needed_157 : decode cX11_needed 157 = .ok (.iconst 0, 1) := by decide +kernel
theorem dX11_needed_158 : decode cX11_needed 158 = .ok (.iadd, 1) := by decide +kernel
theorem dX11_needed_159 : decode cX11_needed 159 = .ok (.istore 6, 2) := by decide +kernel
theorem dX11_needed_161 : decode cX11_needed 161 = .ok (.iinc 8 1, 3) := by decide +kernel
theorem dX11_needed_164 : decode cX11_needed 164 = .ok (.goto (-111), 3) := by decide +kernel
theorem dX11_needed_167 : decode cX11_needed 167 = .ok (.iload 5, 2) := by decide +kernel
theorem dX11_needed_169 : decode cX11_needed 169 = .ok (.ifCond .ne 8, 3) := by decide +kernel
theorem dX11_needed_172 : decode cX11_needed 172 = .ok (.iload 6, 2) := by decide +kernel
theorem dX11_needed_174 : decode cX11_needed 174 = .ok (.goto 5, 3) := by decide +kernel
theorem dX11_needed_177 : decode cX11_needed 177 = .ok (.iload 7, 2) := by decide +kernel
theorem dX11_needed_179 : decode cX11_needed 179 = .ok (.ireturn, 1) := by decide +kernel
theorem dX11_trade_0 : decode cX11_trade 0 = .ok (.aload_n 0, 1) := by decide +kernel
theorem dX11_trade_1 : decode cX11_trade 1 = .ok (.iload_n 1, 1) := by decide +kernel
theorem dX11_trade_2 : decode cX11_trade 2 = .ok (.iload_n 2, 1) := by decide +kernel
theorem dX11_trade_3 : decode cX11_trade 3 = .ok (.invokevirtual 123, 3) := by decide +kernel
theorem dX11_trade_6 : decode cX11_trade 6 = .ok (.ifCond .eq 23, 3) := by decide +kernel
theorem dX11_trade_9 : decode cX11_trade 9 = .ok (.iload_n 3, 1) := by decide +kernel
theorem dX11_trade_10 : decode cX11_trade 10 = .ok (.iconst 0, 1) := by decide +kernel
theorem dX11_trade_11 : decode cX11_trade 11 = .ok (.bipush 9, 2) := by decide +kernel
theorem dX11_trade_13 : decode cX11_trade 13 = .ok (.invokestatic 54, 3) := by decide +kernel
theorem dX11_trade_16 : decode cX11_trade 16 = .ok (.ifCond .eq 13, 3) := by decide +kernel
theorem dX11_trade_19 : decode cX11_trade 19 = .ok (.iload 4, 2) := by decide +kernel
theorem dX11_trade_21 : decode cX11_trade 21 = .ok (.iconst 0, 1) := by decide +kernel
theorem dX11_trade_22 : decode cX11_trade 22 = .ok (.iconst 1, 1) := by decide +kernel
theorem dX11_trade_23 : decode cX11_trade 23 = .ok (.invokestatic 54, 3) := by decide +kernel
theorem dX11_trade_26 : decode cX11_trade 26 = .ok (.ifCond .ne 6, 3) := by decide +kernel
theorem dX11_trade_29 : decode cX11_trade 29 = .ok (.bipush (-2), 2) := by decide +kernel
theorem dX11_trade_31 : decode cX11_trade 31 = .ok (.ireturn, 1) := by decide +kernel
theorem dX11_trade_32 : decode cX11_trade 32 = .ok (.iconst 0, 1) := by decide +kernel
theorem dX11_trade_33 : decode cX11_trade 33 = .ok (.istore 5, 2) := by decide +kernel
theorem dX11_trade_35 : decode cX11_trade 35 = .ok (.iload 5, 2) := by decide +kernel
theorem dX11_trade_37 : decode cX11_trade 37 = .ok (.bipush 11, 2) := by decide +kernel
theorem dX11_trade_39 : decode cX11_trade 39 = .ok (.if_icmp .ge 26, 3) := by decide +kernel
theorem dX11_trade_42 : decode cX11_trade 42 = .ok (.aload_n 0, 1) := by decide +kernel
theorem dX11_trade_43 : decode cX11_trade 43 = .ok (.getfield 25, 3) := by decide +kernel
theorem dX11_trade_46 : decode cX11_trade 46 = .ok (.iload 5, 2) := by decide +kernel
theorem dX11_trade_48 : decode cX11_trade 48 = .ok (.iconst 0, 1) := by decide +kernel
theorem dX11_trade_49 : decode cX11_trade 49 = .ok (.iastore, 1) := by decide +kernel
theorem dX11_trade_50 : decode cX11_trade 50 = .ok (.aload_n 0, 1) := by decide +kernel
theorem dX11_trade_51 : decode cX11_trade 51 = .ok (.getfield 28, 3) := by decide +kernel
theorem dX11_trade_54 : decode cX11_trade 54 = .ok (.iload 5, 2) := by decide +kernel
theorem dX11_trade_56 : decode cX11_trade 56 = .ok (.ldc 130, 2) := by decide +kernel
theorem dX11_trade_58 : decode cX11_trade 58 = .ok (.iastore, 1) := by decide +kernel
theorem dX11_trade_59 : decode cX11_trade 59 = .ok (.iinc 5 1, 3) := by decide +kernel
theorem dX11_trade_62 : decode cX11_trade 62 = .ok (.goto (-27), 3) := by decide +kernel
theorem dX11_trade_65 : decode cX11_trade 65 = .ok (.iconst 0, 1) := by decide +kernel
theorem dX11_trade_66 : decode cX11_trade 66 = .ok (.istore 5, 2) := by decide +kernel
theorem dX11_trade_68 : decode cX11_trade 68 = .ok (.iload 5, 2) := by decide +kernel
theorem dX11_trade_70 : decode cX11_trade 70 = .ok (.iload_n 2, 1) := by decide +kernel
theorem dX11_trade_71 : decode cX11_trade 71 = .ok (.if_icmp .ge 122, 3) := by decide +kernel
theorem dX11_trade_74 : decode cX11_trade 74 = .ok (.iconst 1, 1) := by decide +kernel
theorem dX11_trade_75 : decode cX11_trade 75 = .ok (.istore 6, 2) := by decide +kernel
theorem dX11_trade_77 : decode cX11_trade 77 = .ok (.iload 6, 2) := by decide +kernel
theorem dX11_trade_79 : decode cX11_trade 79 = .ok (.iload_n 3, 1) := by decide +kernel
theorem dX11_trade_80 : decode cX11_trade 80 = .ok (.if_icmp .gt 107, 3) := by decide +kernel
theorem dX11_trade_83 : decode cX11_trade 83 = .ok (.aload_n 0, 1) := by decide +kernel
theorem dX11_trade_84 : decode cX11_trade 84 = .ok (.getfield 28, 3) := by decide +kernel
theorem dX11_trade_87 : decode cX11_trade 87 = .ok (.iload 6, 2) := by decide +kernel
theorem dX11_trade_89 : decode cX11_trade 89 = .ok (.iaload, 1) := by decide +kernel
theorem dX11_trade_90 : decode cX11_trade 90 = .ok (.aload_n 0, 1) := by decide +kernel
theorem dX11_trade_91 : decode cX11_trade 91 = .ok (.getfield 22, 3) := by decide +kernel
theorem dX11_trade_94 : decode cX11_trade 94 = .ok (.iload 5, 2) := by decide +kernel
theorem dX11_trade_96 : decode cX11_trade 96 = .ok (.iaload, 1) := by decide +kernel
theorem dX11_trade_97 : decode cX11_trade 97 = .ok (.iadd, 1) := by decide +kernel
theorem dX11_trade_98 : decode cX11_trade 98 = .ok (.istore 7, 2) := by decide +kernel
theorem dX11_trade_100 : decode cX11_trade 100 = .ok (.aload_n 0, 1) := by decide +kernel
theorem dX11_trade_101 : decode cX11_trade 101 = .ok (.getfield 25, 3) := by decide +kernel
theorem dX11_trade_104 : decode cX11_trade 104 = .ok (.iload 6, 2) := by decide +kernel
theorem dX11_trade_106 : decode cX11_trade 106 = .ok (.iload 7, 2) := by decide +kernel
theorem dX11_trade_108 : decode cX11_trade 108 = .ok (.aload_n 0, 1) := by decide +kernel
theorem dX11_trade_109 : decode cX11_trade 109 = .ok (.getfield 25, 3) := by decide +kernel
theorem dX11_trade_112 : decode cX11_trade 112 = .ok (.iload 6, 2) := by decide +kernel
theorem dX11_trade_114 : decode cX11_trade 114 = .ok (.iaload, 1) := by decide +kernel
theorem dX11_trade_115 : decode cX11_trade 115 = .ok (.if_icmp .le 8, 3) := by decide +kernel
theorem dX11_trade_118 : decode cX11_trade 118 = .ok (.iload 7, 2) := by decide +kernel
theorem dX11_trade_120 : decode cX11_trade 120 = .ok (.goto 10, 3) := by decide +kernel
theorem dX11_trade_123 : decode cX11_trade 123 = .ok (.aload_n 0, 1) := by decide +kernel
theorem dX11_trade_124 : decode cX11_trade 124 = .ok (.getfield 25, 3) := by decide +kernel
theorem dX11_trade_127 : decode cX11_trade 127 = .ok (.iload 6, 2) := by decide +kernel
theorem dX11_trade_129 : decode cX11_trade 129 = .ok (.iaload, 1) := by decide +kernel
theorem dX11_trade_130 : decode cX11_trade 130 = .ok (.iastore, 1) := by decide +kernel
theorem dX11_trade_131 : decode cX11_trade 131 = .ok (.aload_n 0, 1) := by decide +kernel
theorem dX11_trade_132 : decode cX11_trade 132 = .ok (.getfield 25, 3) := by decide +kernel
theorem dX11_trade_135 : decode cX11_trade 135 = .ok (.iload 6, 2) := by decide +kernel
theorem dX11_trade_137 : decode cX11_trade 137 = .ok (.iconst 1, 1) := by decide +kernel
theorem dX11_trade_138 : decode cX11_trade 138 = .ok (.isub, 1) := by decide +kernel
theorem dX11_trade_139 : decode cX11_trade 139 = .ok (.iaload, 1) := by decide +kernel
theorem dX11_trade_140 : decode cX11_trade 140 = .ok (.aload_n 0, 1) := by decide +kernel
theorem dX11_trade_141 : decode cX11_trade 141 = .ok (.getfield 22, 3) := by decide +kernel
theorem dX11_trade_144 : decode cX11_trade 144 = .ok (.iload 5, 2) := by decide +kernel
theorem dX11_trade_146 : decode cX11_trade 146 = .ok (.iaload, 1) := by decide +kernel
theorem dX11_trade_147 : decode cX11_trade 147 = .ok (.isub, 1) := by decide +kernel
theorem dX11_trade_148 : decode cX11_trade 148 = .ok (.istore 8, 2) := by decide +kernel
theorem dX11_trade_150 : decode cX11_trade 150 = .ok (.aload_n 0, 1) := by decide +kernel
theorem dX11_trade_151 : decode cX11_trade 151 = .ok (.getfield 28, 3) := by decide +kernel
theorem dX11_trade_154 : decode cX11_trade 154 = .ok (.iload 6, 2) := by decide +kernel
theorem dX11_trade_156 : decode cX11_trade 156 = .ok (.iload 8, 2) := by decide +kernel
theorem dX11_trade_158 : decode cX11_trade 158 = .ok (.aload_n 0, 1) := by decide +kernel
theorem dX11_trade_159 : decode cX11_trade 159 = .ok (.getfield 28, 3) := by decide +kernel
theorem dX11_trade_162 : decode cX11_trade 162 = .ok (.iload 6, 2) := by decide +kernel
theorem dX11_trade_164 : decode cX11_trade 164 = .ok (.iaload, 1) := by decide +kernel
theorem dX11_trade_165 : decode cX11_trade 165 = .ok (.if_icmp .le 8, 3) := by decide +kernel
theorem dX11_trade_168 : decode cX11_trade 168 = .ok (.iload 8, 2) := by decide +kernel
theorem dX11_trade_170 : decode cX11_trade 170 = .ok (.goto 10, 3) := by decide +kernel
theorem dX11_trade_173 : decode cX11_trade 173 = .ok (.aload_n 0, 1) := by decide +kernel
theorem dX11_trade_174 : decode cX11_trade 174 = .ok (.getfield 28, 3) := by decide +kernel
theorem dX11_trade_177 : decode cX11_trade 177 = .ok (.iload 6, 2) := by decide +kernel
theorem dX11_trade_179 : decode cX11_trade 179 = .ok (.iaload, 1) := by decide +kernel
theorem dX11_trade_180 : decode cX11_trade 180 = .ok (.iastore, 1) := by decide +kernel
theorem dX11_trade_181 : decode cX11_trade 181 = .ok (.iinc 6 1, 3) := by decide +kernel
theorem dX11_trade_184 : decode cX11_trade 184 = .ok (.goto (-107), 3) := by decide +kernel
theorem dX11_trade_187 : decode cX11_trade 187 = .ok (.iinc 5 1, 3) := by decide +kernel
theorem dX11_trade_190 : decode cX11_trade 190 = .ok (.goto (-122), 3) := by decide +kernel
theorem dX11_trade_193 : decode cX11_trade 193 = .ok (.iconst 0, 1) := by decide +kernel
theorem dX11_trade_194 : decode cX11_trade 194 = .ok (.istore 5, 2) := by decide +kernel
theorem dX11_trade_196 : decode cX11_trade 196 = .ok (.iconst 1, 1) := by decide +kernel
theorem dX11_trade_197 : decode cX11_trade 197 = .ok (.istore 6, 2) := by decide +kernel
theorem dX11_trade_199 : decode cX11_trade 199 = .ok (.iload 6, 2) := by decide +kernel
theorem dX11_trade_201 : decode cX11_trade 201 = .ok (.iload_n 3, 1) := by decide +kernel
theorem dX11_trade_202 : decode cX11_trade 202 = .ok (.if_icmp .gt 35, 3) := by decide +kernel
theorem dX11_trade_205 : decode cX11_trade 205 = .ok (.aload_n 0, 1) := by decide +kernel
theorem dX11_trade_206 : decode cX11_trade 206 = .ok (.getfield 25, 3) := by decide +kernel
theorem dX11_trade_209 : decode cX11_trade 209 = .ok (.iload 6, 2) := by decide +kernel
theorem dX11_trade_211 : decode cX11_trade 211 = .ok (.iaload, 1) := by decide +kernel
theorem dX11_trade_212 : decode cX11_trade 212 = .ok (.aload_n 0, 1) := by decide +kernel
theorem dX11_trade_213 : decode cX11_trade 213 = .ok (.getfield 25, 3) := by decide +kernel
theorem dX11_trade_216 : decode cX11_trade 216 = .ok (.iload 5, 2) := by decide +kernel
theorem dX11_trade_218 : decode cX11_trade 218 = .ok (.iaload, 1) := by decide +kernel
theorem dX11_trade_219 : decode cX11_trade 219 = .ok (.if_icmp .le 8, 3) := by decide +kernel
theorem dX11_trade_222 : decode cX11_trade 222 = .ok (.iload 6, 2) := by decide +kernel
theorem dX11_trade_224 : decode cX11_trade 224 = .ok (.goto 5, 3) := by decide +kernel
theorem dX11_trade_227 : decode cX11_trade 227 = .ok (.iload 5, 2) := by decide +kernel
theorem dX11_trade_229 : decode cX11_trade 229 = .ok (.istore 5, 2) := by decide +kernel
theorem dX11_trade_231 : decode cX11_trade 231 = .ok (.iinc 6 1, 3) := by decide +kernel
theorem dX11_trade_234 : decode cX11_trade 234 = .ok (.goto (-35), 3) := by decide +kernel
theorem dX11_trade_237 : decode cX11_trade 237 = .ok (.iload 4, 2) := by decide +kernel
theorem dX11_trade_239 : decode cX11_trade 239 = .ok (.ifCond .ne 13, 3) := by decide +kernel
theorem dX11_trade_242 : decode cX11_trade 242 = .ok (.aload_n 0, 1) := by decide +kernel
theorem dX11_trade_243 : decode cX11_trade 243 = .ok (.getfield 25, 3) := by decide +kernel
theorem dX11_trade_246 : decode cX11_trade 246 = .ok (.iload 5, 2) := by decide +kernel
theorem dX11_trade_248 : decode cX11_trade 248 = .ok (.iaload, 1) := by decide +kernel
theorem dX11_trade_249 : decode cX11_trade 249 = .ok (.goto 5, 3) := by decide +kernel
theorem dX11_trade_252 : decode cX11_trade 252 = .ok (.iload 5, 2) := by decide +kernel
theorem dX11_trade_254 : decode cX11_trade 254 = .ok (.ireturn, 1) := by decide +kernel
theorem dX11_seen_0 : decode cX11_seen 0 = .ok (.iload_n 1, 1) := by decide +kernel
theorem dX11_seen_1 : decode cX11_seen 1 = .ok (.iconst 0, 1) := by decide +kernel
theorem dX11_seen_2 : decode cX11_seen 2 = .ok (.bipush 9, 2) := by decide +kernel
theorem dX11_seen_4 : decode cX11_seen 4 = .ok (.invokestatic 54, 3) := by decide +kernel
theorem dX11_seen_7 : decode cX11_seen 7 = .ok (.ifCond .eq 22, 3) := by decide +kernel
theorem dX11_seen_10 : decode cX11_seen 10 = .ok (.iload_n 2, 1) := by decide +kernel
theorem dX11_seen_11 : decode cX11_seen 11 = .ok (.iconst 0, 1) := by decide +kernel
theorem dX11_seen_12 : decode cX11_seen 12 = .ok (.bipush 9, 2) := by decide +kernel
theorem dX11_seen_14 : decode cX11_seen 14 = .ok (.invokestatic 54, 3) := by decide +kernel
theorem dX11_seen_17 : decode cX11_seen 17 = .ok (.ifCond .eq 12, 3) := by decide +kernel
theorem dX11_seen_20 : decode cX11_seen 20 = .ok (.iload_n 3, 1) := by decide +kernel
theorem dX11_seen_21 : decode cX11_seen 21 = .ok (.iconst 0, 1) := by decide +kernel
theorem dX11_seen_22 : decode cX11_seen 22 = .ok (.iconst 2, 1) := by decide +kernel
theorem dX11_seen_23 : decode cX11_seen 23 = .ok (.invokestatic 54, 3) := by decide +kernel
theorem dX11_seen_26 : decode cX11_seen 26 = .ok (.ifCond .ne 6, 3) := by decide +kernel
theorem dX11_seen_29 : decode cX11_seen 29 = .ok (.bipush (-2), 2) := by decide +kernel
theorem dX11_seen_31 : decode cX11_seen 31 = .ok (.ireturn, 1) := by decide +kernel
theorem dX11_seen_32 : decode cX11_seen 32 = .ok (.aload_n 0, 1) := by decide +kernel
theorem dX11_seen_33 : decode cX11_seen 33 = .ok (.getfield 131, 3) := by decide +kernel
theorem dX11_seen_36 : decode cX11_seen 36 = .ok (.bipush 8, 2) := by decide +kernel
theorem dX11_seen_38 : decode cX11_seen 38 = .ok (.if_icmp .ne 6, 3) := by decide +kernel
theorem dX11_seen_41 : decode cX11_seen 41 = .ok (.bipush (-4), 2) := by decide +kernel
theorem dX11_seen_43 : decode cX11_seen 43 = .ok (.ireturn, 1) := by decide +kernel
theorem dX11_seen_44 : decode cX11_seen 44 = .ok (.aload_n 0, 1) := by decide +kernel
theorem dX11_seen_45 : decode cX11_seen 45 = .ok (.getfield 16, 3) := by decide +kernel
theorem dX11_seen_48 : decode cX11_seen 48 = .ok (.iconst 3, 1) := by decide +kernel
theorem dX11_seen_49 : decode cX11_seen 49 = .ok (.aload_n 0, 1) := by decide +kernel
theorem dX11_seen_50 : decode cX11_seen 50 = .ok (.getfield 131, 3) := by decide +kernel
theorem dX11_seen_53 : decode cX11_seen 53 = .ok (.imul, 1) := by decide +kernel
theorem dX11_seen_54 : decode cX11_seen 54 = .ok (.iload_n 1, 1) := by decide +kernel
theorem dX11_seen_55 : decode cX11_seen 55 = .ok (.iastore, 1) := by decide +kernel
theorem dX11_seen_56 : decode cX11_seen 56 = .ok (.aload_n 0, 1) := by decide +kernel
theorem dX11_seen_57 : decode cX11_seen 57 = .ok (.getfield 16, 3) := by decide +kernel
theorem dX11_seen_60 : decode cX11_seen 60 = .ok (.iconst 3, 1) := by decide +kernel
theorem dX11_seen_61 : decode cX11_seen 61 = .ok (.aload_n 0, 1) := by decide +kernel
theorem dX11_seen_62 : decode cX11_seen 62 = .ok (.getfield 131, 3) := by decide +kernel
theorem dX11_seen_65 : decode cX11_seen 65 = .ok (.imul, 1) := by decide +kernel
theorem dX11_seen_66 : decode cX11_seen 66 = .ok (.iconst 1, 1) := by decide +kernel
theorem dX11_seen_67 : decode cX11_seen 67 = .ok (.iadd, 1) := by decide +kernel
theorem dX11_seen_68 : decode cX11_seen 68 = .ok (.iload_n 2, 1) := by decide +kernel
theorem dX11_seen_69 : decode cX11_seen 69 = .ok (.iastore, 1) := by decide +kernel
theorem dX11_seen_70 : decode cX11_seen 70 = .ok (.aload_n 0, 1) := by decide +kernel
theorem dX11_seen_71 : decode cX11_seen 71 = .ok (.getfield 16, 3) := by decide +kernel
theorem dX11_seen_74 : decode cX11_seen 74 = .ok (.iconst 3, 1) := by decide +kernel
theorem dX11_seen_75 : decode cX11_seen 75 = .ok (.aload_n 0, 1) := by decide +kernel
theorem dX11_seen_76 : decode cX11_seen 76 = .ok (.getfield 131, 3) := by decide +kernel
theorem dX11_seen_79 : decode cX11_seen 79 = .ok (.imul, 1) := by decide +kernel
theorem dX11_seen_80 : decode cX11_seen 80 = .ok (.iconst 2, 1) := by decide +kernel
theorem dX11_seen_81 : decode cX11_seen 81 = .ok (.iadd, 1) := by decide +kernel
theorem dX11_seen_82 : decode cX11_seen 82 = .ok (.iload_n 3, 1) := by decide +kernel
theorem dX11_seen_83 : decode cX11_seen 83 = .ok (.iastore, 1) := by decide +kernel
theorem dX11_seen_84 : decode cX11_seen 84 = .ok (.aload_n 0, 1) := by decide +kernel
theorem dX11_seen_85 : decode cX11_seen 85 = .ok (.dup, 1) := by decide +kernel
theorem dX11_seen_86 : decode cX11_seen 86 = .ok (.getfield 131, 3) := by decide +kernel
theorem dX11_seen_89 : decode cX11_seen 89 = .ok (.iconst 1, 1) := by decide +kernel
theorem dX11_seen_90 : decode cX11_seen 90 = .ok (.iadd, 1) := by decide +kernel
theorem dX11_seen_91 : decode cX11_seen 91 = .ok (.putfield 131, 3) := by decide +kernel
theorem dX11_seen_94 : decode cX11_seen 94 = .ok (.aload_n 0, 1) := by decide +kernel
theorem dX11_seen_95 : decode cX11_seen 95 = .ok (.getfield 131, 3) := by decide +kernel
theorem dX11_seen_98 : decode cX11_seen 98 = .ok (.ireturn, 1) := by decide +kernel
theorem dX11_forget_0 : decode cX11_forget 0 = .ok (.aload_n 0, 1) := by decide +kernel
theorem dX11_forget_1 : decode cX11_forget 1 = .ok (.getfield 131, 3) := by decide +kernel
theorem dX11_forget_4 : decode cX11_forget 4 = .ok (.istore_n 1, 1) := by decide +kernel
theorem dX11_forget_5 : decode cX11_forget 5 = .ok (.aload_n 0, 1) := by decide +kernel
theorem dX11_forget_6 : decode cX11_forget 6 = .ok (.iconst 0, 1) := by decide +kernel
theorem dX11_forget_7 : decode cX11_forget 7 = .ok (.putfield 131, 3) := by decide +kernel
theorem dX11_forget_10 : decode cX11_forget 10 = .ok (.iload_n 1, 1) := by decide +kernel
theorem dX11_forget_11 : decode cX11_forget 11 = .ok (.ireturn, 1) := by decide +kernel
theorem dX11_saidOf_0 : decode cX11_saidOf 0 = .ok (.iload_n 0, 1) := by decide +kernel
theorem dX11_saidOf_1 : decode cX11_saidOf 1 = .ok (.bipush 10, 2) := by decide +kernel
theorem dX11_saidOf_3 : decode cX11_saidOf 3 = .ok (.idiv, 1) := by decide +kernel
theorem dX11_saidOf_4 : decode cX11_saidOf 4 = .ok (.iload_n 1, 1) := by decide +kernel
theorem dX11_saidOf_5 : decode cX11_saidOf 5 = .ok (.iadd, 1) := by decide +kernel
theorem dX11_saidOf_6 : decode cX11_saidOf 6 = .ok (.iload_n 0, 1) := by decide +kernel
theorem dX11_saidOf_7 : decode cX11_saidOf 7 = .ok (.bipush 10, 2) := by decide +kernel
theorem dX11_saidOf_9 : decode cX11_saidOf 9 = .ok (.irem, 1) := by decide +kernel
theorem dX11_saidOf_10 : decode cX11_saidOf 10 = .ok (.isub, 1) := by decide +kernel
theorem dX11_saidOf_11 : decode cX11_saidOf 11 = .ok (.iload_n 2, 1) := by decide +kernel
theorem dX11_saidOf_12 : decode cX11_saidOf 12 = .ok (.isub, 1) := by decide +kernel
theorem dX11_saidOf_13 : decode cX11_saidOf 13 = .ok (.istore_n 3, 1) := by decide +kernel
theorem dX11_saidOf_14 : decode cX11_saidOf 14 = .ok (.iload_n 3, 1) := by decide +kernel
theorem dX11_saidOf_15 : decode cX11_saidOf 15 = .ok (.ifCond .le 7, 3) := by decide +kernel
theorem dX11_saidOf_18 : decode cX11_saidOf 18 = .ok (.iconst 0, 1) := by decide +kernel
theorem dX11_saidOf_19 : decode cX11_saidOf 19 = .ok (.goto 12, 3) := by decide +kernel
theorem dX11_saidOf_22 : decode cX11_saidOf 22 = .ok (.iload_n 3, 1) := by decide +kernel
theorem dX11_saidOf_23 : decode cX11_saidOf 23 = .ok (.ifCond .ge 7, 3) := by decide +kernel
theorem dX11_saidOf_26 : decode cX11_saidOf 26 = .ok (.iconst 1, 1) := by decide +kernel
theorem dX11_saidOf_27 : decode cX11_saidOf 27 = .ok (.goto 4, 3) := by decide +kernel
theorem dX11_saidOf_30 : decode cX11_saidOf 30 = .ok (.iconst 2, 1) := by decide +kernel
theorem dX11_saidOf_31 : decode cX11_saidOf 31 = .ok (.ireturn, 1) := by decide +kernel
theorem dX11_isFit_0 : decode cX11_isFit 0 = .ok (.iload_n 1, 1) := by decide +kernel
theorem dX11_isFit_1 : decode cX11_isFit 1 = .ok (.bipush 10, 2) := by decide +kernel
theorem dX11_isFit_3 : decode cX11_isFit 3 = .ok (.idiv, 1) := by decide +kernel
theorem dX11_isFit_4 : decode cX11_isFit 4 = .ok (.iload_n 1, 1) := by decide +kernel
theorem dX11_isFit_5 : decode cX11_isFit 5 = .ok (.bipush 10, 2) := by decide +kernel
theorem dX11_isFit_7 : decode cX11_isFit 7 = .ok (.irem, 1) := by decide +kernel
theorem dX11_isFit_8 : decode cX11_isFit 8 = .ok (.iadd, 1) := by decide +kernel
theorem dX11_isFit_9 : decode cX11_isFit 9 = .ok (.bipush 9, 2) := by decide +kernel
theorem dX11_isFit_11 : decode cX11_isFit 11 = .ok (.if_icmp .ge 7, 3) := by decide +kernel
theorem dX11_isFit_14 : decode cX11_isFit 14 = .ok (.iconst 1, 1) := by decide +kernel
theorem dX11_isFit_15 : decode cX11_isFit 15 = .ok (.goto 4, 3) := by decide +kernel
theorem dX11_isFit_18 : decode cX11_isFit 18 = .ok (.iconst 0, 1) := by decide +kernel
theorem dX11_isFit_19 : decode cX11_isFit 19 = .ok (.istore_n 2, 1) := by decide +kernel
theorem dX11_isFit_20 : decode cX11_isFit 20 = .ok (.iconst 0, 1) := by decide +kernel
theorem dX11_isFit_21 : decode cX11_isFit 21 = .ok (.istore_n 3, 1) := by decide +kernel
theorem dX11_isFit_22 : decode cX11_isFit 22 = .ok (.iload_n 3, 1) := by decide +kernel
theorem dX11_isFit_23 : decode cX11_isFit 23 = .ok (.aload_n 0, 1) := by decide +kernel
theorem dX11_isFit_24 : decode cX11_isFit 24 = .ok (.getfield 131, 3) := by decide +kernel
theorem dX11_isFit_27 : decode cX11_isFit 27 = .ok (.if_icmp .ge 54, 3) := by decide +kernel
theorem dX11_isFit_30 : decode cX11_isFit 30 = .ok (.iload_n 2, 1) := by decide +kernel
theorem dX11_isFit_31 : decode cX11_isFit 31 = .ok (.ifCond .eq 50, 3) := by decide +kernel
theorem dX11_isFit_34 : decode cX11_isFit 34 = .ok (.iload_n 1, 1) := by decide +kernel
theorem dX11_isFit_35 : decode cX11_isFit 35 = .ok (.aload_n 0, 1) := by decide +kernel
theorem dX11_isFit_36 : decode cX11_isFit 36 = .ok (.getfield 16, 3) := by decide +kernel
theorem dX11_isFit_39 : decode cX11_isFit 39 = .ok (.iconst 3, 1) := by decide +kernel
theorem dX11_isFit_40 : decode cX11_isFit 40 = .ok (.iload_n 3, 1) := by decide +kernel
theorem dX11_isFit_41 : decode cX11_isFit 41 = .ok (.imul, 1) := by decide +kernel
theorem dX11_isFit_42 : decode cX11_isFit 42 = .ok (.iaload, 1) := by decide +kernel
theorem dX11_isFit_43 : decode cX11_isFit 43 = .ok (.aload_n 0, 1) := by decide +kernel
theorem dX11_isFit_44 : decode cX11_isFit 44 = .ok (.getfield 16, 3) := by decide +kernel
theorem dX11_isFit_47 : decode cX11_isFit 47 = .ok (.iconst 3, 1) := by decide +kernel
theorem dX11_isFit_48 : decode cX11_isFit 48 = .ok (.iload_n 3, 1) := by decide +kernel
theorem dX11_isFit_49 : decode cX11_isFit 49 = .ok (.imul, 1) := by decide +kernel
theorem dX11_isFit_50 : decode cX11_isFit 50 = .ok (.iconst 1, 1) := by decide +kernel
theorem dX11_isFit_51 : decode cX11_isFit 51 = .ok (.iadd, 1) := by decide +kernel
theorem dX11_isFit_52 : decode cX11_isFit 52 = .ok (.iaload, 1) := by decide +kernel
theorem dX11_isFit_53 : decode cX11_isFit 53 = .ok (.invokestatic 134, 3) := by decide +kernel
theorem dX11_isFit_56 : decode cX11_isFit 56 = .ok (.aload_n 0, 1) := by decide +kernel
theorem dX11_isFit_57 : decode cX11_isFit 57 = .ok (.getfield 16, 3) := by decide +kernel
theorem dX11_isFit_60 : decode cX11_isFit 60 = .ok (.iconst 3, 1) := by decide +kernel
theorem dX11_isFit_61 : decode cX11_isFit 61 = .ok (.iload_n 3, 1) := by decide +kernel
theorem dX11_isFit_62 : decode cX11_isFit 62 = .ok (.imul, 1) := by decide +kernel
theorem dX11_isFit_63 : decode cX11_isFit 63 = .ok (.iconst 2, 1) := by decide +kernel
theorem dX11_isFit_64 : decode cX11_isFit 64 = .ok (.iadd, 1) := by decide +kernel
theorem dX11_isFit_65 : decode cX11_isFit 65 = .ok (.iaload, 1) := by decide +kernel
theorem dX11_isFit_66 : decode cX11_isFit 66 = .ok (.if_icmp .ne 7, 3) := by decide +kernel
theorem dX11_isFit_69 : decode cX11_isFit 69 = .ok (.iconst 1, 1) := by decide +kernel
theorem dX11_isFit_70 : decode cX11_isFit 70 = .ok (.goto 4, 3) := by decide +kernel
theorem dX11_isFit_73 : decode cX11_isFit 73 = .ok (.iconst 0, 1) := by decide +kernel
theorem dX11_isFit_74 : decode cX11_isFit 74 = .ok (.istore_n 2, 1) := by decide +kernel
theorem dX11_isFit_75 : decode cX11_isFit 75 = .ok (.iinc 3 1, 3) := by decide +kernel
theorem dX11_isFit_78 : decode cX11_isFit 78 = .ok (.goto (-56), 3) := by decide +kernel
theorem dX11_isFit_81 : decode cX11_isFit 81 = .ok (.iload_n 2, 1) := by decide +kernel
theorem dX11_isFit_82 : decode cX11_isFit 82 = .ok (.ireturn, 1) := by decide +kernel
theorem dX11_slates_0 : decode cX11_slates 0 = .ok (.iconst 0, 1) := by decide +kernel
theorem dX11_slates_1 : decode cX11_slates 1 = .ok (.istore_n 2, 1) := by decide +kernel
theorem dX11_slates_2 : decode cX11_slates 2 = .ok (.iconst 0, 1) := by decide +kernel
theorem dX11_slates_3 : decode cX11_slates 3 = .ok (.istore_n 3, 1) := by decide +kernel
theorem dX11_slates_4 : decode cX11_slates 4 = .ok (.iload_n 3, 1) := by decide +kernel
theorem dX11_slates_5 : decode cX11_slates 5 = .ok (.bipush 81, 2) := by decide +kernel
theorem dX11_slates_7 : decode cX11_slates 7 = .ok (.if_icmp .ge 27, 3) := by decide +kernel
theorem dX11_slates_10 : decode cX11_slates 10 = .ok (.aload_n 0, 1) := by decide +kernel
theorem dX11_slates_11 : decode cX11_slates 11 = .ok (.iload_n 3, 1) := by decide +kernel
theorem dX11_slates_12 : decode cX11_slates 12 = .ok (.invokevirtual 138, 3) := by decide +kernel
theorem dX11_slates_15 : decode cX11_slates 15 = .ok (.ifCond .eq 13, 3) := by decide +kernel
theorem dX11_slates_18 : decode cX11_slates 18 = .ok (.iload_n 2, 1) := by decide +kernel
theorem dX11_slates_19 : decode cX11_slates 19 = .ok (.iload_n 1, 1) := by decide +kernel
theorem dX11_slates_20 : decode cX11_slates 20 = .ok (.if_icmp .ne 5, 3) := by decide +kernel
theorem dX11_slates_23 : decode cX11_slates 23 = .ok (.iload_n 3, 1) := by decide +kernel
theorem dX11_slates_24 : decode cX11_slates 24 = .ok (.ireturn, 1) := by decide +kernel
theorem dX11_slates_25 : decode cX11_slates 25 = .ok (.iinc 2 1, 3) := by decide +kernel
theorem dX11_slates_28 : decode cX11_slates 28 = .ok (.iinc 3 1, 3) := by decide +kernel
theorem dX11_slates_31 : decode cX11_slates 31 = .ok (.goto (-27), 3) := by decide +kernel
theorem dX11_slates_34 : decode cX11_slates 34 = .ok (.iload_n 1, 1) := by decide +kernel
theorem dX11_slates_35 : decode cX11_slates 35 = .ok (.iconst (-1), 1) := by decide +kernel
theorem dX11_slates_36 : decode cX11_slates 36 = .ok (.if_icmp .ne 7, 3) := by decide +kernel
theorem dX11_slates_39 : decode cX11_slates 39 = .ok (.iload_n 2, 1) := by decide +kernel
theorem dX11_slates_40 : decode cX11_slates 40 = .ok (.goto 5, 3) := by decide +kernel
theorem dX11_slates_43 : decode cX11_slates 43 = .ok (.bipush (-6), 2) := by decide +kernel
theorem dX11_slates_45 : decode cX11_slates 45 = .ok (.ireturn, 1) := by decide +kernel
theorem dX11_ask_0 : decode cX11_ask 0 = .ok (.iload_n 1, 1) := by decide +kernel
theorem dX11_ask_1 : decode cX11_ask 1 = .ok (.iconst 0, 1) := by decide +kernel
theorem dX11_ask_2 : decode cX11_ask 2 = .ok (.iconst 1, 1) := by decide +kernel
theorem dX11_ask_3 : decode cX11_ask 3 = .ok (.invokestatic 54, 3) := by decide +kernel
theorem dX11_ask_6 : decode cX11_ask 6 = .ok (.ifCond .ne 6, 3) := by decide +kernel
theorem dX11_ask_9 : decode cX11_ask 9 = .ok (.bipush (-2), 2) := by decide +kernel
theorem dX11_ask_11 : decode cX11_ask 11 = .ok (.ireturn, 1) := by decide +kernel
theorem dX11_ask_12 : decode cX11_ask 12 = .ok (.bipush (-6), 2) := by decide +kernel
theorem dX11_ask_14 : decode cX11_ask 14 = .ok (.istore_n 2, 1) := by decide +kernel
theorem dX11_ask_15 : decode cX11_ask 15 = .ok (.ldc 122, 2) := by decide +kernel
theorem dX11_ask_17 : decode cX11_ask 17 = .ok (.istore_n 3, 1) := by decide +kernel
theorem dX11_ask_18 : decode cX11_ask 18 = .ok (.iconst 0, 1) := by decide +kernel
theorem dX11_ask_19 : decode cX11_ask 19 = .ok (.istore 4, 2) := by decide +kernel
theorem dX11_ask_21 : decode cX11_ask 21 = .ok (.iload 4, 2) := by decide +kernel
theorem dX11_ask_23 : decode cX11_ask 23 = .ok (.bipush 100, 2) := by decide +kernel
theorem dX11_ask_25 : decode cX11_ask 25 = .ok (.if_icmp .ge 156, 3) := by decide +kernel
theorem dX11_ask_28 : decode cX11_ask 28 = .ok (.iconst 0, 1) := by decide +kernel
theorem dX11_ask_29 : decode cX11_ask 29 = .ok (.istore 5, 2) := by decide +kernel
theorem dX11_ask_31 : decode cX11_ask 31 = .ok (.iconst 0, 1) := by decide +kernel
theorem dX11_ask_32 : decode cX11_ask 32 = .ok (.istore 6, 2) := by decide +kernel
theorem dX11_ask_34 : decode cX11_ask 34 = .ok (.iload 6, 2) := by decide +kernel
theorem dX11_ask_36 : decode cX11_ask 36 = .ok (.iconst 3, 1) := by decide +kernel
theorem dX11_ask_37 : decode cX11_ask 37 = .ok (.if_icmp .ge 17, 3) := by decide +kernel
theorem dX11_ask_40 : decode cX11_ask 40 = .ok (.aload_n 0, 1) := by decide +kernel
theorem dX11_ask_41 : decode cX11_ask 41 = .ok (.getfield 31, 3) := by decide +kernel
theorem dX11_ask_44 : decode cX11_ask 44 = .ok (.iload 6, 2) := by decide +kernel
theorem dX11_ask_46 : decode cX11_ask 46 = .ok (.iconst 0, 1) := by decide +kernel
theorem dX11_ask_47 : decode cX11_ask 47 = .ok (.iastore, 1) := by decide +kernel
theorem dX11_ask_48 : decode cX11_ask 48 = .ok (.iinc 6 1, 3) := by decide +kernel
theorem dX11_ask_51 : decode cX11_ask 51 = .ok (.goto (-17), 3) := by decide +kernel
theorem dX11_ask_54 : decode cX11_ask 54 = .ok (.iconst 0, 1) := by decide +kernel
theorem dX11_ask_55 : decode cX11_ask 55 = .ok (.istore 6, 2) := by decide +kernel
theorem dX11_ask_57 : decode cX11_ask 57 = .ok (.iload 6, 2) := by decide +kernel
theorem dX11_ask_59 : decode cX11_ask 59 = .ok (.bipush 81, 2) := by decide +kernel
theorem dX11_ask_61 : decode cX11_ask 61 = .ok (.if_icmp .ge 72, 3) := by decide +kernel
theorem dX11_ask_64 : decode cX11_ask 64 = .ok (.aload_n 0, 1) := by decide +kernel
theorem dX11_ask_65 : decode cX11_ask 65 = .ok (.iload 6, 2) := by decide +kernel
theorem dX11_ask_67 : decode cX11_ask 67 = .ok (.invokevirtual 138, 3) := by decide +kernel
theorem dX11_ask_70 : decode cX11_ask 70 = .ok (.ifCond .eq 57, 3) := by decide +kernel
theorem dX11_ask_73 : decode cX11_ask 73 = .ok (.iload 6, 2) := by decide +kernel
theorem dX11_ask_75 : decode cX11_ask 75 = .ok (.iload 4, 2) := by decide +kernel
theorem dX11_ask_77 : decode cX11_ask 77 = .ok (.bipush 10, 2) := by decide +kernel
theorem dX11_ask_79 : decode cX11_ask 79 = .ok (.idiv, 1) := by decide +kernel
theorem dX11_ask_80 : decode cX11_ask 80 = .ok (.iload 4, 2) := by decide +kernel
theorem dX11_ask_82 : decode cX11_ask 82 = .ok (.bipush 10, 2) := by decide +kernel
theorem dX11_ask_84 : decode cX11_ask 84 = .ok (.irem, 1) := by decide +kernel
theorem dX11_ask_85 : decode cX11_ask 85 = .ok (.invokestatic 134, 3) := by decide +kernel
theorem dX11_ask_88 : decode cX11_ask 88 = .ok (.istore 7, 2) := by decide +kernel
theorem dX11_ask_90 : decode cX11_ask 90 = .ok (.aload_n 0, 1) := by decide +kernel
theorem dX11_ask_91 : decode cX11_ask 91 = .ok (.getfield 31, 3) := by decide +kernel
theorem dX11_ask_94 : decode cX11_ask 94 = .ok (.iload 7, 2) := by decide +kernel
theorem dX11_ask_96 : decode cX11_ask 96 = .ok (.dup2, 1) := by decide +kernel
theorem dX11_ask_97 : decode cX11_ask 97 = .ok (.iaload, 1) := by decide +kernel
theorem dX11_ask_98 : decode cX11_ask 98 = .ok (.iconst 1, 1) := by decide +kernel
theorem dX11_ask_99 : decode cX11_ask 99 = .ok (.iadd, 1) := by decide +kernel
theorem dX11_ask_100 : decode cX11_ask 100 = .ok (.iastore, 1) := by decide +kernel
theorem dX11_ask_101 : decode cX11_ask 101 = .ok (.aload_n 0, 1) := by decide +kernel
theorem dX11_ask_102 : decode cX11_ask 102 = .ok (.getfield 31, 3) := by decide +kernel
theorem dX11_ask_105 : decode cX11_ask 105 = .ok (.iload 7, 2) := by decide +kernel
theorem dX11_ask_107 : decode cX11_ask 107 = .ok (.iaload, 1) := by decide +kernel
theorem dX11_ask_108 : decode cX11_ask 108 = .ok (.iload 5, 2) := by decide +kernel
theorem dX11_ask_110 : decode cX11_ask 110 = .ok (.if_icmp .le 13, 3) := by decide +kernel
theorem dX11_ask_113 : decode cX11_ask 113 = .ok (.aload_n 0, 1) := by decide +kernel
theorem dX11_ask_114 : decode cX11_ask 114 = .ok (.getfield 31, 3) := by decide +kernel
theorem dX11_ask_117 : decode cX11_ask 117 = .ok (.iload 7, 2) := by decide +kernel
theorem dX11_ask_119 : decode cX11_ask 119 = .ok (.iaload, 1) := by decide +kernel
theorem dX11_ask_120 : decode cX11_ask 120 = .ok (.goto 5, 3) := by decide +kernel
theorem dX11_ask_123 : decode cX11_ask 123 = .ok (.iload 5, 2) := by decide +kernel
theorem dX11_ask_125 : decode cX11_ask 125 = .ok (.istore 5, 2) := by decide +kernel
theorem dX11_ask_127 : decode cX11_ask 127 = .ok (.iinc 6 1, 3) := by decide +kernel
theorem dX11_ask_130 : decode cX11_ask 130 = .ok (.goto (-73), 3) := by decide +kernel
theorem dX11_ask_133 : decode cX11_ask 133 = .ok (.iload 5, 2) := by decide +kernel
theorem dX11_ask_135 : decode cX11_ask 135 = .ok (.ifCond .le 13, 3) := by decide +kernel
theorem dX11_ask_138 : decode cX11_ask 138 = .ok (.iload 5, 2) := by decide +kernel
theorem dX11_ask_140 : decode cX11_ask 140 = .ok (.iload_n 3, 1) := by decide +kernel
theorem dX11_ask_141 : decode cX11_ask 141 = .ok (.if_icmp .ge 7, 3) := by decide +kernel
theorem dX11_ask_144 : decode cX11_ask 144 = .ok (.iconst 1, 1) := by decide +kernel
theorem dX11_ask_145 : decode cX11_ask 145 = .ok (.goto 4, 3) := by decide +kernel
theorem dX11_ask_148 : decode cX11_ask 148 = .ok (.iconst 0, 1) := by decide +kernel
theorem dX11_ask_149 : decode cX11_ask 149 = .ok (.istore 6, 2) := by decide +kernel
theorem dX11_ask_151 : decode cX11_ask 151 = .ok (.iload 6, 2) := by decide +kernel
theorem dX11_ask_153 : decode cX11_ask 153 = .ok (.ifCond .eq 8, 3) := by decide +kernel
theorem dX11_ask_156 : decode cX11_ask 156 = .ok (.iload 4, 2) := by decide +kernel
theorem dX11_ask_158 : decode cX11_ask 158 = .ok (.goto 4, 3) := by decide +kernel
theorem dX11_ask_161 : decode cX11_ask 161 = .ok (.iload_n 2, 1) := by decide +kernel
theorem dX11_ask_162 : decode cX11_ask 162 = .ok (.istore_n 2, 1) := by decide +kernel
theorem dX11_ask_163 : decode cX11_ask 163 = .ok (.iload 6, 2) := by decide +kernel
theorem dX11_ask_165 : decode cX11_ask 165 = .ok (.ifCond .eq 8, 3) := by decide +kernel
theorem dX11_ask_168 : decode cX11_ask 168 = .ok (.iload 5, 2) := by decide +kernel
theorem dX11_ask_170 : decode cX11_ask 170 = .ok (.goto 4, 3) := by decide +kernel
theorem dX11_ask_173 : decode cX11_ask 173 = .ok (.iload_n 3, 1) := by decide +kernel
theorem dX11_ask_174 : decode cX11_ask 174 = .ok (.istore_n 3, 1) := by decide +kernel
theorem dX11_ask_175 : decode cX11_ask 175 = .ok (.iinc 4 1, 3) := by decide +kernel
theorem dX11_ask_178 : decode cX11_ask 178 = .ok (.goto (-157), 3) := by decide +kernel
theorem dX11_ask_181 : decode cX11_ask 181 = .ok (.iload_n 2, 1) := by decide +kernel
theorem dX11_ask_182 : decode cX11_ask 182 = .ok (.ifCond .lt 7, 3) := by decide +kernel
theorem dX11_ask_185 : decode cX11_ask 185 = .ok (.iload_n 1, 1) := by decide +kernel
theorem dX11_ask_186 : decode cX11_ask 186 = .ok (.ifCond .ne 7, 3) := by decide +kernel
theorem dX11_ask_189 : decode cX11_ask 189 = .ok (.iload_n 2, 1) := by decide +kernel
theorem dX11_ask_190 : decode cX11_ask 190 = .ok (.goto 4, 3) := by decide +kernel
theorem dX11_ask_193 : decode cX11_ask 193 = .ok (.iload_n 3, 1) := by decide +kernel
theorem dX11_ask_194 : decode cX11_ask 194 = .ok (.ireturn, 1) := by decide +kernel
theorem dX11_cakes_0 : decode cX11_cakes 0 = .ok (.iload_n 1, 1) := by decide +kernel
theorem dX11_cakes_1 : decode cX11_cakes 1 = .ok (.iconst 0, 1) := by decide +kernel
theorem dX11_cakes_2 : decode cX11_cakes 2 = .ok (.bipush 99, 2) := by decide +kernel
theorem dX11_cakes_4 : decode cX11_cakes 4 = .ok (.invokestatic 54, 3) := by decide +kernel
theorem dX11_cakes_7 : decode cX11_cakes 7 = .ok (.ifCond .eq 22, 3) := by decide +kernel
theorem dX11_cakes_10 : decode cX11_cakes 10 = .ok (.iload_n 2, 1) := by decide +kernel
theorem dX11_cakes_11 : decode cX11_cakes 11 = .ok (.iconst 0, 1) := by decide +kernel
theorem dX11_cakes_12 : decode cX11_cakes 12 = .ok (.bipush 99, 2) := by decide +kernel
theorem dX11_cakes_14 : decode cX11_cakes 14 = .ok (.invokestatic 54, 3) := by decide +kernel
theorem dX11_cakes_17 : decode cX11_cakes 17 = .ok (.ifCond .eq 12, 3) := by decide +kernel
theorem dX11_cakes_20 : decode cX11_cakes 20 = .ok (.iload_n 3, 1) := by decide +kernel
theorem dX11_cakes_21 : decode cX11_cakes 21 = .ok (.iconst 0, 1) := by decide +kernel
theorem dX11_cakes_22 : decode cX11_cakes 22 = .ok (.iconst 1, 1) := by decide +kernel
theorem dX11_cakes_23 : decode cX11_cakes 23 = .ok (.invokestatic 54, 3) := by decide +kernel
theorem dX11_cakes_26 : decode cX11_cakes 26 = .ok (.ifCond .ne 6, 3) := by decide +kernel
theorem dX11_cakes_29 : decode cX11_cakes 29 = .ok (.bipush (-2), 2) := by decide +kernel
theorem dX11_cakes_31 : decode cX11_cakes 31 = .ok (.ireturn, 1) := by decide +kernel
theorem dX11_cakes_32 : decode cX11_cakes 32 = .ok (.aload_n 0, 1) := by decide +kernel
theorem dX11_cakes_33 : decode cX11_cakes 33 = .ok (.getfield 34, 3) := by decide +kernel
theorem dX11_cakes_36 : decode cX11_cakes 36 = .ok (.iconst 0, 1) := by decide +kernel
theorem dX11_cakes_37 : decode cX11_cakes 37 = .ok (.ldc 122, 2) := by decide +kernel
theorem dX11_cakes_39 : decode cX11_cakes 39 = .ok (.iastore, 1) := by decide +kernel
theorem dX11_cakes_40 : decode cX11_cakes 40 = .ok (.iconst 1, 1) := by decide +kernel
theorem dX11_cakes_41 : decode cX11_cakes 41 = .ok (.istore 4, 2) := by decide +kernel
theorem dX11_cakes_43 : decode cX11_cakes 43 = .ok (.iload 4, 2) := by decide +kernel
theorem dX11_cakes_45 : decode cX11_cakes 45 = .ok (.iload_n 1, 1) := by decide +kernel
theorem dX11_cakes_46 : decode cX11_cakes 46 = .ok (.if_icmp .gt 63, 3) := by decide +kernel
theorem dX11_cakes_49 : decode cX11_cakes 49 = .ok (.aload_n 0, 1) := by decide +kernel
theorem dX11_cakes_50 : decode cX11_cakes 50 = .ok (.getfield 34, 3) := by decide +kernel
theorem dX11_cakes_53 : decode cX11_cakes 53 = .ok (.iload 4, 2) := by decide +kernel
theorem dX11_cakes_55 : decode cX11_cakes 55 = .ok (.iload 4, 2) := by decide +kernel
theorem dX11_cakes_57 : decode cX11_cakes 57 = .ok (.iastore, 1) := by decide +kernel
theorem dX11_cakes_58 : decode cX11_cakes 58 = .ok (.iload 4, 2) := by decide +kernel
theorem dX11_cakes_60 : decode cX11_cakes 60 = .ok (.istore 5, 2) := by decide +kernel
theorem dX11_cakes_62 : decode cX11_cakes 62 = .ok (.iload 5, 2) := by decide +kernel
theorem dX11_cakes_64 : decode cX11_cakes 64 = .ok (.ifCond .le 39, 3) := by decide +kernel
theorem dX11_cakes_67 : decode cX11_cakes 67 = .ok (.aload_n 0, 1) := by decide +kernel
theorem dX11_cakes_68 : decode cX11_cakes 68 = .ok (.getfield 34, 3) := by decide +kernel
theorem dX11_cakes_71 : decode cX11_cakes 71 = .ok (.iload 4, 2) := by decide +kernel
theorem dX11_cakes_73 : decode cX11_cakes 73 = .ok (.aload_n 0, 1) := by decide +kernel
theorem dX11_cakes_74 : decode cX11_cakes 74 = .ok (.iload 4, 2) := by decide +kernel
theorem dX11_cakes_76 : decode cX11_cakes 76 = .ok (.iload 5, 2) := by decide +kernel
theorem dX11_cakes_78 : decode cX11_cakes 78 = .ok (.invokevirtual 142, 3) := by decide +kernel
theorem dX11_cakes_81 : decode cX11_cakes 81 = .ok (.ifCond .eq 8, 3) := by decide +kernel
theorem dX11_cakes_84 : decode cX11_cakes 84 = .ok (.iload 5, 2) := by decide +kernel
theorem dX11_cakes_86 : decode cX11_cakes 86 = .ok (.goto 10, 3) := by decide +kernel
theorem dX11_cakes_89 : decode cX11_cakes 89 = .ok (.aload_n 0, 1) := by decide +kernel
theorem dX11_cakes_90 : decode cX11_cakes 90 = .ok (.getfield 34, 3) := by decide +kernel
theorem dX11_cakes_93 : decode cX11_cakes 93 = .ok (.iload 4, 2) := by decide +kernel
theorem dX11_cakes_95 : decode cX11_cakes 95 = .ok (.iaload, 1) := by decide +kernel
theorem dX11_cakes_96 : decode cX11_cakes 96 = .ok (.iastore, 1) := by decide +kernel
theorem dX11_cakes_97 : decode cX11_cakes 97 = .ok (.iinc 5 (-1), 3) := by decide +kernel
theorem dX11_cakes_100 : decode cX11_cakes 100 = .ok (.goto (-38), 3) := by decide +kernel
theorem dX11_cakes_103 : decode cX11_cakes 103 = .ok (.iinc 4 1, 3) := by decide +kernel
theorem dX11_cakes_106 : decode cX11_cakes 106 = .ok (.goto (-63), 3) := by decide +kernel
theorem dX11_cakes_109 : decode cX11_cakes 109 = .ok (.aload_n 0, 1) := by decide +kernel
theorem dX11_cakes_110 : decode cX11_cakes 110 = .ok (.getfield 34, 3) := by decide +kernel
theorem dX11_cakes_113 : decode cX11_cakes 113 = .ok (.iload_n 1, 1) := by decide +kernel
theorem dX11_cakes_114 : decode cX11_cakes 114 = .ok (.iaload, 1) := by decide +kernel
theorem dX11_cakes_115 : decode cX11_cakes 115 = .ok (.iload_n 2, 1) := by decide +kernel
theorem dX11_cakes_116 : decode cX11_cakes 116 = .ok (.if_icmp .gt 7, 3) := by decide +kernel
theorem dX11_cakes_119 : decode cX11_cakes 119 = .ok (.iconst 1, 1) := by decide +kernel
theorem dX11_cakes_120 : decode cX11_cakes 120 = .ok (.goto 4, 3) := by decide +kernel
theorem dX11_cakes_123 : decode cX11_cakes 123 = .ok (.iconst 0, 1) := by decide +kernel
theorem dX11_cakes_124 : decode cX11_cakes 124 = .ok (.istore 4, 2) := by decide +kernel
theorem dX11_cakes_126 : decode cX11_cakes 126 = .ok (.iload_n 3, 1) := by decide +kernel
theorem dX11_cakes_127 : decode cX11_cakes 127 = .ok (.ifCond .ne 16, 3) := by decide +kernel
theorem dX11_cakes_130 : decode cX11_cakes 130 = .ok (.iload 4, 2) := by decide +kernel
theorem dX11_cakes_132 : decode cX11_cakes 132 = .ok (.ifCond .eq 7, 3) := by decide +kernel
theorem dX11_cakes_135 : decode cX11_cakes 135 = .ok (.iconst 1, 1) := by decide +kernel
theorem dX11_cakes_136 : decode cX11_cakes 136 = .ok (.goto 23, 3) := by decide +kernel
theorem dX11_cakes_139 : decode cX11_cakes 139 = .ok (.iconst 0, 1) := by decide +kernel
theorem dX11_cakes_140 : decode cX11_cakes 140 = .ok (.goto 19, 3) := by decide +kernel
theorem dX11_cakes_143 : decode cX11_cakes 143 = .ok (.iload 4, 2) := by decide +kernel
theorem dX11_cakes_145 : decode cX11_cakes 145 = .ok (.ifCond .eq 12, 3) := by decide +kernel
