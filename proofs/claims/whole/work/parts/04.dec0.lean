theorem dX0_init_0 : decode cX0_init 0 = .ok (.aload_n 0, 1) := by decide +kernel
theorem dX0_init_1 : decode cX0_init 1 = .ok (.invokespecial 3, 3) := by decide +kernel
theorem dX0_init_4 : decode cX0_init 4 = .ok (.aload_n 0, 1) := by decide +kernel
theorem dX0_init_5 : decode cX0_init 5 = .ok (.bipush 13, 2) := by decide +kernel
theorem dX0_init_7 : decode cX0_init 7 = .ok (.newarray .long, 2) := by decide +kernel
theorem dX0_init_9 : decode cX0_init 9 = .ok (.putfield 9, 3) := by decide +kernel
theorem dX0_init_12 : decode cX0_init 12 = .ok (.return_, 1) := by decide +kernel
theorem dX0_waysToRing_0 : decode cX0_waysToRing 0 = .ok (.lconst 0, 1) := by decide +kernel
theorem dX0_waysToRing_1 : decode cX0_waysToRing 1 = .ok (.lstore 4, 2) := by decide +kernel
theorem dX0_waysToRing_3 : decode cX0_waysToRing 3 = .ok (.iconst 0, 1) := by decide +kernel
theorem dX0_waysToRing_4 : decode cX0_waysToRing 4 = .ok (.istore 6, 2) := by decide +kernel
theorem dX0_waysToRing_6 : decode cX0_waysToRing 6 = .ok (.iload 6, 2) := by decide +kernel
theorem dX0_waysToRing_8 : decode cX0_waysToRing 8 = .ok (.iload_n 1, 1) := by decide +kernel
theorem dX0_waysToRing_9 : decode cX0_waysToRing 9 = .ok (.if_icmp .gt 78, 3) := by decide +kernel
theorem dX0_waysToRing_12 : decode cX0_waysToRing 12 = .ok (.iload 6, 2) := by decide +kernel
theorem dX0_waysToRing_14 : decode cX0_waysToRing 14 = .ok (.iload_n 2, 1) := by decide +kernel
theorem dX0_waysToRing_15 : decode cX0_waysToRing 15 = .ok (.imul, 1) := by decide +kernel
theorem dX0_waysToRing_16 : decode cX0_waysToRing 16 = .ok (.iload_n 1, 1) := by decide +kernel
theorem dX0_waysToRing_17 : decode cX0_waysToRing 17 = .ok (.if_icmp .gt 70, 3) := by decide +kernel
theorem dX0_waysToRing_20 : decode cX0_waysToRing 20 = .ok (.aload_n 0, 1) := by decide +kernel
theorem dX0_waysToRing_21 : decode cX0_waysToRing 21 = .ok (.invokevirtual 15, 3) := by decide +kernel
theorem dX0_waysToRing_24 : decode cX0_waysToRing 24 = .ok (.iconst 0, 1) := by decide +kernel
theorem dX0_waysToRing_25 : decode cX0_waysToRing 25 = .ok (.istore 7, 2) := by decide +kernel
theorem dX0_waysToRing_27 : decode cX0_waysToRing 27 = .ok (.iload 7, 2) := by decide +kernel
theorem dX0_waysToRing_29 : decode cX0_waysToRing 29 = .ok (.iload_n 2, 1) := by decide +kernel
theorem dX0_waysToRing_30 : decode cX0_waysToRing 30 = .ok (.if_icmp .ge 31, 3) := by decide +kernel
theorem dX0_waysToRing_33 : decode cX0_waysToRing 33 = .ok (.iload 7, 2) := by decide +kernel
theorem dX0_waysToRing_35 : decode cX0_waysToRing 35 = .ok (.iload_n 3, 1) := by decide +kernel
theorem dX0_waysToRing_36 : decode cX0_waysToRing 36 = .ok (.if_icmp .eq 19, 3) := by decide +kernel
theorem dX0_waysToRing_39 : decode cX0_waysToRing 39 = .ok (.aload_n 0, 1) := by decide +kernel
theorem dX0_waysToRing_40 : decode cX0_waysToRing 40 = .ok (.iload_n 1, 1) := by decide +kernel
theorem dX0_waysToRing_41 : decode cX0_waysToRing 41 = .ok (.iload 6, 2) := by decide +kernel
theorem dX0_waysToRing_43 : decode cX0_waysToRing 43 = .ok (.isub, 1) := by decide +kernel
theorem dX0_waysToRing_44 : decode cX0_waysToRing 44 = .ok (.iload 7, 2) := by decide +kernel
theorem dX0_waysToRing_46 : decode cX0_waysToRing 46 = .ok (.iload_n 3, 1) := by decide +kernel
theorem dX0_waysToRing_47 : decode cX0_waysToRing 47 = .ok (.iload 6, 2) := by decide +kernel
theorem dX0_waysToRing_49 : decode cX0_waysToRing 49 = .ok (.invokestatic 18, 3) := by decide +kernel
theorem dX0_waysToRing_52 : decode cX0_waysToRing 52 = .ok (.invokevirtual 22, 3) := by decide +kernel
theorem dX0_waysToRing_55 : decode cX0_waysToRing 55 = .ok (.iinc 7 1, 3) := by decide +kernel
theorem dX0_waysToRing_58 : decode cX0_waysToRing 58 = .ok (.goto (-31), 3) := by decide +kernel
theorem dX0_waysToRing_61 : decode cX0_waysToRing 61 = .ok (.lload 4, 2) := by decide +kernel
theorem dX0_waysToRing_63 : decode cX0_waysToRing 63 = .ok (.iload_n 1, 1) := by decide +kernel
theorem dX0_waysToRing_64 : decode cX0_waysToRing 64 = .ok (.iload 6, 2) := by decide +kernel
theorem dX0_waysToRing_66 : decode cX0_waysToRing 66 = .ok (.invokestatic 26, 3) := by decide +kernel
theorem dX0_waysToRing_69 : decode cX0_waysToRing 69 = .ok (.aload_n 0, 1) := by decide +kernel
theorem dX0_waysToRing_70 : decode cX0_waysToRing 70 = .ok (.iload_n 1, 1) := by decide +kernel
theorem dX0_waysToRing_71 : decode cX0_waysToRing 71 = .ok (.iload 6, 2) := by decide +kernel
theorem dX0_waysToRing_73 : decode cX0_waysToRing 73 = .ok (.isub, 1) := by decide +kernel
theorem dX0_waysToRing_74 : decode cX0_waysToRing 74 = .ok (.invokevirtual 30, 3) := by decide +kernel
theorem dX0_waysToRing_77 : decode cX0_waysToRing 77 = .ok (.lmul, 1) := by decide +kernel
theorem dX0_waysToRing_78 : decode cX0_waysToRing 78 = .ok (.ladd, 1) := by decide +kernel
theorem dX0_waysToRing_79 : decode cX0_waysToRing 79 = .ok (.lstore 4, 2) := by decide +kernel
theorem dX0_waysToRing_81 : decode cX0_waysToRing 81 = .ok (.iinc 6 1, 3) := by decide +kernel
theorem dX0_waysToRing_84 : decode cX0_waysToRing 84 = .ok (.goto (-78), 3) := by decide +kernel
theorem dX0_waysToRing_87 : decode cX0_waysToRing 87 = .ok (.lload 4, 2) := by decide +kernel
theorem dX0_waysToRing_89 : decode cX0_waysToRing 89 = .ok (.lreturn, 1) := by decide +kernel
theorem dX0_begin_0 : decode cX0_begin 0 = .ok (.aload_n 0, 1) := by decide +kernel
theorem dX0_begin_1 : decode cX0_begin 1 = .ok (.getfield 9, 3) := by decide +kernel
theorem dX0_begin_4 : decode cX0_begin 4 = .ok (.iconst 0, 1) := by decide +kernel
theorem dX0_begin_5 : decode cX0_begin 5 = .ok (.lconst 1, 1) := by decide +kernel
theorem dX0_begin_6 : decode cX0_begin 6 = .ok (.lastore, 1) := by decide +kernel
theorem dX0_begin_7 : decode cX0_begin 7 = .ok (.iconst 1, 1) := by decide +kernel
theorem dX0_begin_8 : decode cX0_begin 8 = .ok (.istore_n 1, 1) := by decide +kernel
theorem dX0_begin_9 : decode cX0_begin 9 = .ok (.iload_n 1, 1) := by decide +kernel
theorem dX0_begin_10 : decode cX0_begin 10 = .ok (.bipush 12, 2) := by decide +kernel
theorem dX0_begin_12 : decode cX0_begin 12 = .ok (.if_icmp .gt 16, 3) := by decide +kernel
theorem dX0_begin_15 : decode cX0_begin 15 = .ok (.aload_n 0, 1) := by decide +kernel
theorem dX0_begin_16 : decode cX0_begin 16 = .ok (.getfield 9, 3) := by decide +kernel
theorem dX0_begin_19 : decode cX0_begin 19 = .ok (.iload_n 1, 1) := by decide +kernel
theorem dX0_begin_20 : decode cX0_begin 20 = .ok (.lconst 0, 1) := by decide +kernel
theorem dX0_begin_21 : decode cX0_begin 21 = .ok (.lastore, 1) := by decide +kernel
theorem dX0_begin_22 : decode cX0_begin 22 = .ok (.iinc 1 1, 3) := by decide +kernel
theorem dX0_begin_25 : decode cX0_begin 25 = .ok (.goto (-16), 3) := by decide +kernel
theorem dX0_begin_28 : decode cX0_begin 28 = .ok (.return_, 1) := by decide +kernel
theorem dX0_addDay_0 : decode cX0_addDay 0 = .ok (.iload_n 1, 1) := by decide +kernel
theorem dX0_addDay_1 : decode cX0_addDay 1 = .ok (.bipush 12, 2) := by decide +kernel
theorem dX0_addDay_3 : decode cX0_addDay 3 = .ok (.invokestatic 34, 3) := by decide +kernel
theorem dX0_addDay_6 : decode cX0_addDay 6 = .ok (.istore_n 3, 1) := by decide +kernel
theorem dX0_addDay_7 : decode cX0_addDay 7 = .ok (.iload_n 3, 1) := by decide +kernel
theorem dX0_addDay_8 : decode cX0_addDay 8 = .ok (.ifCond .lt 77, 3) := by decide +kernel
theorem dX0_addDay_11 : decode cX0_addDay 11 = .ok (.lconst 0, 1) := by decide +kernel
theorem dX0_addDay_12 : decode cX0_addDay 12 = .ok (.lstore 4, 2) := by decide +kernel
theorem dX0_addDay_14 : decode cX0_addDay 14 = .ok (.lconst 1, 1) := by decide +kernel
theorem dX0_addDay_15 : decode cX0_addDay 15 = .ok (.lstore 6, 2) := by decide +kernel
theorem dX0_addDay_17 : decode cX0_addDay 17 = .ok (.iconst 0, 1) := by decide +kernel
theorem dX0_addDay_18 : decode cX0_addDay 18 = .ok (.istore 8, 2) := by decide +kernel
theorem dX0_addDay_20 : decode cX0_addDay 20 = .ok (.iload 8, 2) := by decide +kernel
theorem dX0_addDay_22 : decode cX0_addDay 22 = .ok (.iload_n 3, 1) := by decide +kernel
theorem dX0_addDay_23 : decode cX0_addDay 23 = .ok (.if_icmp .gt 48, 3) := by decide +kernel
theorem dX0_addDay_26 : decode cX0_addDay 26 = .ok (.iload 8, 2) := by decide +kernel
theorem dX0_addDay_28 : decode cX0_addDay 28 = .ok (.iload_n 2, 1) := by decide +kernel
theorem dX0_addDay_29 : decode cX0_addDay 29 = .ok (.if_icmp .lt 20, 3) := by decide +kernel
theorem dX0_addDay_32 : decode cX0_addDay 32 = .ok (.lload 4, 2) := by decide +kernel
theorem dX0_addDay_34 : decode cX0_addDay 34 = .ok (.lload 6, 2) := by decide +kernel
theorem dX0_addDay_36 : decode cX0_addDay 36 = .ok (.aload_n 0, 1) := by decide +kernel
theorem dX0_addDay_37 : decode cX0_addDay 37 = .ok (.getfield 9, 3) := by decide +kernel
theorem dX0_addDay_40 : decode cX0_addDay 40 = .ok (.iload_n 3, 1) := by decide +kernel
theorem dX0_addDay_41 : decode cX0_addDay 41 = .ok (.iload 8, 2) := by decide +kernel
theorem dX0_addDay_43 : decode cX0_addDay 43 = .ok (.isub, 1) := by decide +kernel
theorem dX0_addDay_44 : decode cX0_addDay 44 = .ok (.laload, 1) := by decide +kernel
theorem dX0_addDay_45 : decode cX0_addDay 45 = .ok (.lmul, 1) := by decide +kernel
theorem dX0_addDay_46 : decode cX0_addDay 46 = .ok (.ladd, 1) := by decide +kernel
theorem dX0_addDay_47 : decode cX0_addDay 47 = .ok (.lstore 4, 2) := by decide +kernel
theorem dX0_addDay_49 : decode cX0_addDay 49 = .ok (.lload 6, 2) := by decide +kernel
theorem dX0_addDay_51 : decode cX0_addDay 51 = .ok (.iload_n 3, 1) := by decide +kernel
theorem dX0_addDay_52 : decode cX0_addDay 52 = .ok (.iload 8, 2) := by decide +kernel
theorem dX0_addDay_54 : decode cX0_addDay 54 = .ok (.isub, 1) := by decide +kernel
theorem dX0_addDay_55 : decode cX0_addDay 55 = .ok (.i2l, 1) := by decide +kernel
theorem dX0_addDay_56 : decode cX0_addDay 56 = .ok (.lmul, 1) := by decide +kernel
theorem dX0_addDay_57 : decode cX0_addDay 57 = .ok (.iload 8, 2) := by decide +kernel
theorem dX0_addDay_59 : decode cX0_addDay 59 = .ok (.iconst 1, 1) := by decide +kernel
theorem dX0_addDay_60 : decode cX0_addDay 60 = .ok (.iadd, 1) := by decide +kernel
theorem dX0_addDay_61 : decode cX0_addDay 61 = .ok (.i2l, 1) := by decide +kernel
theorem dX0_addDay_62 : decode cX0_addDay 62 = .ok (.ldiv, 1) := by decide +kernel
theorem dX0_addDay_63 : decode cX0_addDay 63 = .ok (.lstore 6, 2) := by decide +kernel
theorem dX0_addDay_65 : decode cX0_addDay 65 = .ok (.iinc 8 1, 3) := by decide +kernel
theorem dX0_addDay_68 : decode cX0_addDay 68 = .ok (.goto (-48), 3) := by decide +kernel
theorem dX0_addDay_71 : decode cX0_addDay 71 = .ok (.aload_n 0, 1) := by decide +kernel
theorem dX0_addDay_72 : decode cX0_addDay 72 = .ok (.getfield 9, 3) := by decide +kernel
theorem dX0_addDay_75 : decode cX0_addDay 75 = .ok (.iload_n 3, 1) := by decide +kernel
theorem dX0_addDay_76 : decode cX0_addDay 76 = .ok (.lload 4, 2) := by decide +kernel
theorem dX0_addDay_78 : decode cX0_addDay 78 = .ok (.lastore, 1) := by decide +kernel
theorem dX0_addDay_79 : decode cX0_addDay 79 = .ok (.iinc 3 (-1), 3) := by decide +kernel
theorem dX0_addDay_82 : decode cX0_addDay 82 = .ok (.goto (-75), 3) := by decide +kernel
theorem dX0_addDay_85 : decode cX0_addDay 85 = .ok (.return_, 1) := by decide +kernel
theorem dX0_choices_0 : decode cX0_choices 0 = .ok (.lconst 1, 1) := by decide +kernel
theorem dX0_choices_1 : decode cX0_choices 1 = .ok (.lstore_n 2, 1) := by decide +kernel
theorem dX0_choices_2 : decode cX0_choices 2 = .ok (.iconst 0, 1) := by decide +kernel
theorem dX0_choices_3 : decode cX0_choices 3 = .ok (.istore 4, 2) := by decide +kernel
theorem dX0_choices_5 : decode cX0_choices 5 = .ok (.iload 4, 2) := by decide +kernel
theorem dX0_choices_7 : decode cX0_choices 7 = .ok (.iload_n 1, 1) := by decide +kernel
theorem dX0_choices_8 : decode cX0_choices 8 = .ok (.if_icmp .ge 23, 3) := by decide +kernel
theorem dX0_choices_11 : decode cX0_choices 11 = .ok (.lload_n 2, 1) := by decide +kernel
theorem dX0_choices_12 : decode cX0_choices 12 = .ok (.iload_n 0, 1) := by decide +kernel
theorem dX0_choices_13 : decode cX0_choices 13 = .ok (.iload 4, 2) := by decide +kernel
theorem dX0_choices_15 : decode cX0_choices 15 = .ok (.isub, 1) := by decide +kernel
theorem dX0_choices_16 : decode cX0_choices 16 = .ok (.i2l, 1) := by decide +kernel
theorem dX0_choices_17 : decode cX0_choices 17 = .ok (.lmul, 1) := by decide +kernel
theorem dX0_choices_18 : decode cX0_choices 18 = .ok (.iload 4, 2) := by decide +kernel
theorem dX0_choices_20 : decode cX0_choices 20 = .ok (.iconst 1, 1) := by decide +kernel
theorem dX0_choices_21 : decode cX0_choices 21 = .ok (.iadd, 1) := by decide +kernel
theorem dX0_choices_22 : decode cX0_choices 22 = .ok (.i2l, 1) := by decide +kernel
theorem dX0_choices_23 : decode cX0_choices 23 = .ok (.ldiv, 1) := by decide +kernel
theorem dX0_choices_24 : decode cX0_choices 24 = .ok (.lstore_n 2, 1) := by decide +kernel
theorem dX0_choices_25 : decode cX0_choices 25 = .ok (.iinc 4 1, 3) := by decide +kernel
theorem dX0_choices_28 : decode cX0_choices 28 = .ok (.goto (-23), 3) := by decide +kernel
theorem dX0_choices_31 : decode cX0_choices 31 = .ok (.lload_n 2, 1) := by decide +kernel
theorem dX0_choices_32 : decode cX0_choices 32 = .ok (.lreturn, 1) := by decide +kernel
theorem dX0_waysOf_0 : decode cX0_waysOf 0 = .ok (.iload_n 1, 1) := by decide +kernel
theorem dX0_waysOf_1 : decode cX0_waysOf 1 = .ok (.iconst 0, 1) := by decide +kernel
theorem dX0_waysOf_2 : decode cX0_waysOf 2 = .ok (.bipush 12, 2) := by decide +kernel
theorem dX0_waysOf_4 : decode cX0_waysOf 4 = .ok (.invokestatic 40, 3) := by decide +kernel
theorem dX0_waysOf_7 : decode cX0_waysOf 7 = .ok (.ifCond .eq 12, 3) := by decide +kernel
theorem dX0_waysOf_10 : decode cX0_waysOf 10 = .ok (.aload_n 0, 1) := by decide +kernel
theorem dX0_waysOf_11 : decode cX0_waysOf 11 = .ok (.getfield 9, 3) := by decide +kernel
theorem dX0_waysOf_14 : decode cX0_waysOf 14 = .ok (.iload_n 1, 1) := by decide +kernel
theorem dX0_waysOf_15 : decode cX0_waysOf 15 = .ok (.laload, 1) := by decide +kernel
theorem dX0_waysOf_16 : decode cX0_waysOf 16 = .ok (.goto 4, 3) := by decide +kernel
theorem dX0_waysOf_19 : decode cX0_waysOf 19 = .ok (.lconst 0, 1) := by decide +kernel
theorem dX0_waysOf_20 : decode cX0_waysOf 20 = .ok (.lreturn, 1) := by decide +kernel
theorem dX1_init_0 : decode cX1_init 0 = .ok (.aload_n 0, 1) := by decide +kernel
theorem dX1_init_1 : decode cX1_init 1 = .ok (.invokespecial 3, 3) := by decide +kernel
theorem dX1_init_4 : decode cX1_init 4 = .ok (.aload_n 0, 1) := by decide +kernel
theorem dX1_init_5 : decode cX1_init 5 = .ok (.bipush 8, 2) := by decide +kernel
theorem dX1_init_7 : decode cX1_init 7 = .ok (.newarray .int, 2) := by decide +kernel
theorem dX1_init_9 : decode cX1_init 9 = .ok (.putfield 9, 3) := by decide +kernel
theorem dX1_init_12 : decode cX1_init 12 = .ok (.aload_n 0, 1) := by decide +kernel
theorem dX1_init_13 : decode cX1_init 13 = .ok (.bipush 8, 2) := by decide +kernel
theorem dX1_init_15 : decode cX1_init 15 = .ok (.newarray .int, 2) := by decide +kernel
theorem dX1_init_17 : decode cX1_init 17 = .ok (.putfield 15, 3) := by decide +kernel
theorem dX1_init_20 : decode cX1_init 20 = .ok (.aload_n 0, 1) := by decide +kernel
theorem dX1_init_21 : decode cX1_init 21 = .ok (.bipush 8, 2) := by decide +kernel
theorem dX1_init_23 : decode cX1_init 23 = .ok (.newarray .int, 2) := by decide +kernel
theorem dX1_init_25 : decode cX1_init 25 = .ok (.putfield 18, 3) := by decide +kernel
theorem dX1_init_28 : decode cX1_init 28 = .ok (.aload_n 0, 1) := by decide +kernel
theorem dX1_init_29 : decode cX1_init 29 = .ok (.iconst 4, 1) := by decide +kernel
theorem dX1_init_30 : decode cX1_init 30 = .ok (.newarray .int, 2) := by decide +kernel
theorem dX1_init_32 : decode cX1_init 32 = .ok (.putfield 21, 3) := by decide +kernel
theorem dX1_init_35 : decode cX1_init 35 = .ok (.aload_n 0, 1) := by decide +kernel
theorem dX1_init_36 : decode cX1_init 36 = .ok (.bipush 7, 2) := by decide +kernel
theorem dX1_init_38 : decode cX1_init 38 = .ok (.newarray .int, 2) := by decide +kernel
theorem dX1_init_40 : decode cX1_init 40 = .ok (.putfield 24, 3) := by decide +kernel
theorem dX1_init_43 : decode cX1_init 43 = .ok (.iconst 0, 1) := by decide +kernel
theorem dX1_init_44 : decode cX1_init 44 = .ok (.istore_n 1, 1) := by decide +kernel
theorem dX1_init_45 : decode cX1_init 45 = .ok (.iload_n 1, 1) := by decide +kernel
theorem dX1_init_46 : decode cX1_init 46 = .ok (.bipush 8, 2) := by decide +kernel
theorem dX1_init_48 : decode cX1_init 48 = .ok (.if_icmp .ge 31, 3) := by decide +kernel
theorem dX1_init_51 : decode cX1_init 51 = .ok (.aload_n 0, 1) := by decide +kernel
theorem dX1_init_52 : decode cX1_init 52 = .ok (.getfield 9, 3) := by decide +kernel
theorem dX1_init_55 : decode cX1_init 55 = .ok (.iload_n 1, 1) := by decide +kernel
theorem dX1_init_56 : decode cX1_init 56 = .ok (.iconst (-1), 1) := by decide +kernel
theorem dX1_init_57 : decode cX1_init 57 = .ok (.iastore, 1) := by decide +kernel
theorem dX1_init_58 : decode cX1_init 58 = .ok (.aload_n 0, 1) := by decide +kernel
theorem dX1_init_59 : decode cX1_init 59 = .ok (.getfield 15, 3) := by decide +kernel
theorem dX1_init_62 : decode cX1_init 62 = .ok (.iload_n 1, 1) := by decide +kernel
theorem dX1_init_63 : decode cX1_init 63 = .ok (.iconst 5, 1) := by decide +kernel
theorem dX1_init_64 : decode cX1_init 64 = .ok (.iastore, 1) := by decide +kernel
theorem dX1_init_65 : decode cX1_init 65 = .ok (.aload_n 0, 1) := by decide +kernel
theorem dX1_init_66 : decode cX1_init 66 = .ok (.getfield 18, 3) := by decide +kernel
theorem dX1_init_69 : decode cX1_init 69 = .ok (.iload_n 1, 1) := by decide +kernel
theorem dX1_init_70 : decode cX1_init 70 = .ok (.bipush 10, 2) := by decide +kernel
theorem dX1_init_72 : decode cX1_init 72 = .ok (.iastore, 1) := by decide +kernel
theorem dX1_init_73 : decode cX1_init 73 = .ok (.iinc 1 1, 3) := by decide +kernel
theorem dX1_init_76 : decode cX1_init 76 = .ok (.goto (-31), 3) := by decide +kernel
theorem dX1_init_79 : decode cX1_init 79 = .ok (.iconst 0, 1) := by decide +kernel
theorem dX1_init_80 : decode cX1_init 80 = .ok (.istore_n 1, 1) := by decide +kernel
theorem dX1_init_81 : decode cX1_init 81 = .ok (.iload_n 1, 1) := by decide +kernel
theorem dX1_init_82 : decode cX1_init 82 = .ok (.iconst 4, 1) := by decide +kernel
theorem dX1_init_83 : decode cX1_init 83 = .ok (.if_icmp .ge 16, 3) := by decide +kernel
theorem dX1_init_86 : decode cX1_init 86 = .ok (.aload_n 0, 1) := by decide +kernel
theorem dX1_init_87 : decode cX1_init 87 = .ok (.getfield 21, 3) := by decide +kernel
theorem dX1_init_90 : decode cX1_init 90 = .ok (.iload_n 1, 1) := by decide +kernel
theorem dX1_init_91 : decode cX1_init 91 = .ok (.iconst 3, 1) := by decide +kernel
theorem dX1_init_92 : decode cX1_init 92 = .ok (.iastore, 1) := by decide +kernel
theorem dX1_init_93 : decode cX1_init 93 = .ok (.iinc 1 1, 3) := by decide +kernel
theorem dX1_init_96 : decode cX1_init 96 = .ok (.goto (-15), 3) := by decide +kernel
theorem dX1_init_99 : decode cX1_init 99 = .ok (.return_, 1) := by decide +kernel
theorem dX1_copyFrom_0 : decode cX1_copyFrom 0 = .ok (.iconst 0, 1) := by decide +kernel
theorem dX1_copyFrom_1 : decode cX1_copyFrom 1 = .ok (.istore_n 2, 1) := by decide +kernel
theorem dX1_copyFrom_2 : decode cX1_copyFrom 2 = .ok (.iload_n 2, 1) := by decide +kernel
theorem dX1_copyFrom_3 : decode cX1_copyFrom 3 = .ok (.bipush 8, 2) := by decide +kernel
theorem dX1_copyFrom_5 : decode cX1_copyFrom 5 = .ok (.if_icmp .ge 45, 3) := by decide +kernel
theorem dX1_copyFrom_8 : decode cX1_copyFrom 8 = .ok (.aload_n 0, 1) := by decide +kernel
theorem dX1_copyFrom_9 : decode cX1_copyFrom 9 = .ok (.getfield 9, 3) := by decide +kernel
theorem dX1_copyFrom_12 : decode cX1_copyFrom 12 = .ok (.iload_n 2, 1) := by decide +kernel
theorem dX1_copyFrom_13 : decode cX1_copyFrom 13 = .ok (.aload_n 1, 1) := by decide +kernel
theorem dX1_copyFrom_14 : decode cX1_copyFrom 14 = .ok (.getfield 9, 3) := by decide +kernel
theorem dX1_copyFrom_17 : decode cX1_copyFrom 17 = .ok (.iload_n 2, 1) := by decide +kernel
theorem dX1_copyFrom_18 : decode cX1_copyFrom 18 = .ok (.iaload, 1) := by decide +kernel
theorem dX1_copyFrom_19 : decode cX1_copyFrom 19 = .ok (.iastore, 1) := by decide +kernel
theorem dX1_copyFrom_20 : decode cX1_copyFrom 20 = .ok (.aload_n 0, 1) := by decide +kernel
theorem dX1_copyFrom_21 : decode cX1_copyFrom 21 = .ok (.getfield 15, 3) := by decide +kernel
theorem dX1_copyFrom_24 : decode cX1_copyFrom 24 = .ok (.iload_n 2, 1) := by decide +kernel
theorem dX1_copyFrom_25 : decode cX1_copyFrom 25 = .ok (.aload_n 1, 1) := by decide +kernel
theorem dX1_copyFrom_26 : decode cX1_copyFrom 26 = .ok (.getfield 15, 3) := by decide +kernel
theorem dX1_copyFrom_29 : decode cX1_copyFrom 29 = .ok (.iload_n 2, 1) := by decide +kernel
theorem dX1_copyFrom_30 : decode cX1_copyFrom 30 = .ok (.iaload, 1) := by decide +kernel
theorem dX1_copyFrom_31 : decode cX1_copyFrom 31 = .ok (.iastore, 1) := by decide +kernel
theorem dX1_copyFrom_32 : decode cX1_copyFrom 32 = .ok (.aload_n 0, 1) := by decide +kernel
theorem dX1_copyFrom_33 : decode cX1_copyFrom 33 = .ok (.getfield 18, 3) := by decide +kernel
theorem dX1_copyFrom_36 : decode cX1_copyFrom 36 = .ok (.iload_n 2, 1) := by decide +kernel
theorem dX1_copyFrom_37 : decode cX1_copyFrom 37 = .ok (.aload_n 1, 1) := by decide +kernel
theorem dX1_copyFrom_38 : decode cX1_copyFrom 38 = .ok (.getfield 18, 3) := by decide +kernel
theorem dX1_copyFrom_41 : decode cX1_copyFrom 41 = .ok (.iload_n 2, 1) := by decide +kernel
theorem dX1_copyFrom_42 : decode cX1_copyFrom 42 = .ok (.iaload, 1) := by decide +kernel
theorem dX1_copyFrom_43 : decode cX1_copyFrom 43 = .ok (.iastore, 1) := by decide +kernel
theorem dX1_copyFrom_44 : decode cX1_copyFrom 44 = .ok (.iinc 2 1, 3) := by decide +kernel
theorem dX1_copyFrom_47 : decode cX1_copyFrom 47 = .ok (.goto (-45), 3) := by decide +kernel
theorem dX1_copyFrom_50 : decode cX1_copyFrom 50 = .ok (.iconst 0, 1) := by decide +kernel
theorem dX1_copyFrom_51 : decode cX1_copyFrom 51 = .ok (.istore_n 2, 1) := by decide +kernel
theorem dX1_copyFrom_52 : decode cX1_copyFrom 52 = .ok (.iload_n 2, 1) := by decide +kernel
theorem dX1_copyFrom_53 : decode cX1_copyFrom 53 = .ok (.iconst 4, 1) := by decide +kernel
theorem dX1_copyFrom_54 : decode cX1_copyFrom 54 = .ok (.if_icmp .ge 21, 3) := by decide +kernel
theorem dX1_copyFrom_57 : decode cX1_copyFrom 57 = .ok (.aload_n 0, 1) := by decide +kernel
theorem dX1_copyFrom_58 : decode cX1_copyFrom 58 = .ok (.getfield 21, 3) := by decide +kernel
theorem dX1_copyFrom_61 : decode cX1_copyFrom 61 = .ok (.iload_n 2, 1) := by decide +kernel
theorem dX1_copyFrom_62 : decode cX1_copyFrom 62 = .ok (.aload_n 1, 1) := by decide +kernel
theorem dX1_copyFrom_63 : decode cX1_copyFrom 63 = .ok (.getfield 21, 3) := by decide +kernel
theorem dX1_copyFrom_66 : decode cX1_copyFrom 66 = .ok (.iload_n 2, 1) := by decide +kernel
theorem dX1_copyFrom_67 : decode cX1_copyFrom 67 = .ok (.iaload, 1) := by decide +kernel
theorem dX1_copyFrom_68 : decode cX1_copyFrom 68 = .ok (.iastore, 1) := by decide +kernel
theorem dX1_copyFrom_69 : decode cX1_copyFrom 69 = .ok (.iinc 2 1, 3) := by decide +kernel
theorem dX1_copyFrom_72 : decode cX1_copyFrom 72 = .ok (.goto (-20), 3) := by decide +kernel
theorem dX1_copyFrom_75 : decode cX1_copyFrom 75 = .ok (.aload_n 0, 1) := by decide +kernel
theorem dX1_copyFrom_76 : decode cX1_copyFrom 76 = .ok (.aload_n 1, 1) := by decide +kernel
theorem dX1_copyFrom_77 : decode cX1_copyFrom 77 = .ok (.getfield 27, 3) := by decide +kernel
theorem dX1_copyFrom_80 : decode cX1_copyFrom 80 = .ok (.putfield 27, 3) := by decide +kernel
theorem dX1_copyFrom_83 : decode cX1_copyFrom 83 = .ok (.aload_n 0, 1) := by decide +kernel
theorem dX1_copyFrom_84 : decode cX1_copyFrom 84 = .ok (.aload_n 1, 1) := by decide +kernel
theorem dX1_copyFrom_85 : decode cX1_copyFrom 85 = .ok (.getfield 31, 3) := by decide +kernel
theorem dX1_copyFrom_88 : decode cX1_copyFrom 88 = .ok (.putfield 31, 3) := by decide +kernel
theorem dX1_copyFrom_91 : decode cX1_copyFrom 91 = .ok (.aload_n 0, 1) := by decide +kernel
theorem dX1_copyFrom_92 : decode cX1_copyFrom 92 = .ok (.aload_n 1, 1) := by decide +kernel
theorem dX1_copyFrom_93 : decode cX1_copyFrom 93 = .ok (.getfield 34, 3) := by decide +kernel
theorem dX1_copyFrom_96 : decode cX1_copyFrom 96 = .ok (.putfield 34, 3) := by decide +kernel
theorem dX1_copyFrom_99 : decode cX1_copyFrom 99 = .ok (.aload_n 0, 1) := by decide +kernel
theorem dX1_copyFrom_100 : decode cX1_copyFrom 100 = .ok (.aload_n 1, 1) := by decide +kernel
theorem dX1_copyFrom_101 : decode cX1_copyFrom 101 = .ok (.getfield 37, 3) := by decide +kernel
theorem dX1_copyFrom_104 : decode cX1_copyFrom 104 = .ok (.putfield 37, 3) := by decide +kernel
theorem dX1_copyFrom_107 : decode cX1_copyFrom 107 = .ok (.return_, 1) := by decide +kernel
theorem dX1_chalkOf_0 : decode cX1_chalkOf 0 = .ok (.aload_n 0, 1) := by decide +kernel
theorem dX1_chalkOf_1 : decode cX1_chalkOf 1 = .ok (.invokevirtual 40, 3) := by decide +kernel
theorem dX1_chalkOf_4 : decode cX1_chalkOf 4 = .ok (.iload_n 1, 1) := by decide +kernel
theorem dX1_chalkOf_5 : decode cX1_chalkOf 5 = .ok (.invokestatic 43, 3) := by decide +kernel
theorem dX1_chalkOf_8 : decode cX1_chalkOf 8 = .ok (.ifCond .eq 12, 3) := by decide +kernel
theorem dX1_chalkOf_11 : decode cX1_chalkOf 11 = .ok (.aload_n 0, 1) := by decide +kernel
theorem dX1_chalkOf_12 : decode cX1_chalkOf 12 = .ok (.getfield 24, 3) := by decide +kernel
theorem dX1_chalkOf_15 : decode cX1_chalkOf 15 = .ok (.iload_n 1, 1) := by decide +kernel
theorem dX1_chalkOf_16 : decode cX1_chalkOf 16 = .ok (.iaload, 1) := by decide +kernel
theorem dX1_chalkOf_17 : decode cX1_chalkOf 17 = .ok (.goto 4, 3) := by decide +kernel
theorem dX1_chalkOf_20 : decode cX1_chalkOf 20 = .ok (.iconst 0, 1) := by decide +kernel
theorem dX1_chalkOf_21 : decode cX1_chalkOf 21 = .ok (.ireturn, 1) := by decide +kernel
theorem dX1_leastDay_0 : decode cX1_leastDay 0 = .ok (.aload_n 0, 1) := by decide +kernel
theorem dX1_leastDay_1 : decode cX1_leastDay 1 = .ok (.invokevirtual 40, 3) := by decide +kernel
theorem dX1_leastDay_4 : decode cX1_leastDay 4 = .ok (.iconst 0, 1) := by decide +kernel
theorem dX1_leastDay_5 : decode cX1_leastDay 5 = .ok (.istore_n 1, 1) := by decide +kernel
theorem dX1_leastDay_6 : decode cX1_leastDay 6 = .ok (.iconst 1, 1) := by decide +kernel
theorem dX1_leastDay_7 : decode cX1_leastDay 7 = .ok (.istore_n 2, 1) := by decide +kernel
theorem dX1_leastDay_8 : decode cX1_leastDay 8 = .ok (.iload_n 2, 1) := by decide +kernel
theorem dX1_leastDay_9 : decode cX1_leastDay 9 = .ok (.bipush 7, 2) := by decide +kernel
theorem dX1_leastDay_11 : decode cX1_leastDay 11 = .ok (.if_icmp .ge 26, 3) := by decide +kernel
theorem dX1_leastDay_14 : decode cX1_leastDay 14 = .ok (.aload_n 0, 1) := by decide +kernel
theorem dX1_leastDay_15 : decode cX1_leastDay 15 = .ok (.getfield 24, 3) := by decide +kernel
theorem dX1_leastDay_18 : decode cX1_leastDay 18 = .ok (.iload_n 2, 1) := by decide +kernel
theorem dX1_leastDay_19 : decode cX1_leastDay 19 = .ok (.iaload, 1) := by decide +kernel
theorem dX1_leastDay_20 : decode cX1_leastDay 20 = .ok (.aload_n 0, 1) := by decide +kernel
theorem dX1_leastDay_21 : decode cX1_leastDay 21 = .ok (.getfield 24, 3) := by decide +kernel
theorem dX1_leastDay_24 : decode cX1_leastDay 24 = .ok (.iload_n 1, 1) := by decide +kernel
theorem dX1_leastDay_25 : decode cX1_leastDay 25 = .ok (.iaload, 1) := by decide +kernel
theorem dX1_leastDay_26 : decode cX1_leastDay 26 = .ok (.if_icmp .ge 5, 3) := by decide +kernel
theorem dX1_leastDay_29 : decode cX1_leastDay 29 = .ok (.iload_n 2, 1) := by decide +kernel
theorem dX1_leastDay_30 : decode cX1_leastDay 30 = .ok (.istore_n 1, 1) := by decide +kernel
theorem dX1_leastDay_31 : decode cX1_leastDay 31 = .ok (.iinc 2 1, 3) := by decide +kernel
theorem dX1_leastDay_34 : decode cX1_leastDay 34 = .ok (.goto (-26), 3) := by decide +kernel
theorem dX1_leastDay_37 : decode cX1_leastDay 37 = .ok (.iload_n 1, 1) := by decide +kernel
theorem dX1_leastDay_38 : decode cX1_leastDay 38 = .ok (.ireturn, 1) := by decide +kernel
theorem dX1_countChalk_0 : decode cX1_countChalk 0 = .ok (.iconst 0, 1) := by decide +kernel
theorem dX1_countChalk_1 : decode cX1_countChalk 1 = .ok (.istore_n 1, 1) := by decide +kernel
theorem dX1_countChalk_2 : decode cX1_countChalk 2 = .ok (.iload_n 1, 1) := by decide +kernel
theorem dX1_countChalk_3 : decode cX1_countChalk 3 = .ok (.bipush 7, 2) := by decide +kernel
theorem dX1_countChalk_5 : decode cX1_countChalk 5 = .ok (.if_icmp .ge 16, 3) := by decide +kernel
theorem dX1_countChalk_8 : decode cX1_countChalk 8 = .ok (.aload_n 0, 1) := by decide +kernel
theorem dX1_countChalk_9 : decode cX1_countChalk 9 = .ok (.getfield 24, 3) := by decide +kernel
theorem dX1_countChalk_12 : decode cX1_countChalk 12 = .ok (.iload_n 1, 1) := by decide +kernel
theorem dX1_countChalk_13 : decode cX1_countChalk 13 = .ok (.iconst 0, 1) := by decide +kernel
theorem dX1_countChalk_14 : decode cX1_countChalk 14 = .ok (.iastore, 1) := by decide +kernel
theorem dX1_countChalk_15 : decode cX1_countChalk 15 = .ok (.iinc 1 1, 3) := by decide +kernel
theorem dX1_countChalk_18 : decode cX1_countChalk 18 = .ok (.goto (-16), 3) := by decide +kernel
theorem dX1_countChalk_21 : decode cX1_countChalk 21 = .ok (.iconst 0, 1) := by decide +kernel
theorem dX1_countChalk_22 : decode cX1_countChalk 22 = .ok (.istore_n 1, 1) := by decide +kernel
theorem dX1_countChalk_23 : decode cX1_countChalk 23 = .ok (.iload_n 1, 1) := by decide +kernel
theorem dX1_countChalk_24 : decode cX1_countChalk 24 = .ok (.bipush 8, 2) := by decide +kernel
theorem dX1_countChalk_26 : decode cX1_countChalk 26 = .ok (.if_icmp .ge 36, 3) := by decide +kernel
theorem dX1_countChalk_29 : decode cX1_countChalk 29 = .ok (.aload_n 0, 1) := by decide +kernel
theorem dX1_countChalk_30 : decode cX1_countChalk 30 = .ok (.getfield 9, 3) := by decide +kernel
theorem dX1_countChalk_33 : decode cX1_countChalk 33 = .ok (.iload_n 1, 1) := by decide +kernel
theorem dX1_countChalk_34 : decode cX1_countChalk 34 = .ok (.iaload, 1) := by decide +kernel
theorem dX1_countChalk_35 : decode cX1_countChalk 35 = .ok (.istore_n 2, 1) := by decide +kernel
theorem dX1_countChalk_36 : decode cX1_countChalk 36 = .ok (.iload_n 2, 1) := by decide +kernel
theorem dX1_countChalk_37 : decode cX1_countChalk 37 = .ok (.ifCond .lt 19, 3) := by decide +kernel
theorem dX1_countChalk_40 : decode cX1_countChalk 40 = .ok (.iload_n 2, 1) := by decide +kernel
theorem dX1_countChalk_41 : decode cX1_countChalk 41 = .ok (.bipush 7, 2) := by decide +kernel
theorem dX1_countChalk_43 : decode cX1_countChalk 43 = .ok (.if_icmp .ge 13, 3) := by decide +kernel
theorem dX1_countChalk_46 : decode cX1_countChalk 46 = .ok (.aload_n 0, 1) := by decide +kernel
theorem dX1_countChalk_47 : decode cX1_countChalk 47 = .ok (.getfield 24, 3) := by decide +kernel
theorem dX1_countChalk_50 : decode cX1_countChalk 50 = .ok (.iload_n 2, 1) := by decide +kernel
theorem dX1_countChalk_51 : decode cX1_countChalk 51 = .ok (.dup2, 1) := by decide +kernel
theorem dX1_countChalk_52 : decode cX1_countChalk 52 = .ok (.iaload, 1) := by decide +kernel
theorem dX1_countChalk_53 : decode cX1_countChalk 53 = .ok (.iconst 1, 1) := by decide +kernel
theorem dX1_countChalk_54 : decode cX1_countChalk 54 = .ok (.iadd, 1) := by decide +kernel
theorem dX1_countChalk_55 : decode cX1_countChalk 55 = .ok (.iastore, 1) := by decide +kernel
theorem dX1_countChalk_56 : decode cX1_countChalk 56 = .ok (.iinc 1 1, 3) := by decide +kernel
theorem dX1_countChalk_59 : decode cX1_countChalk 59 = .ok (.goto (-36), 3) := by decide +kernel
theorem dX1_countChalk_62 : decode cX1_countChalk 62 = .ok (.return_, 1) := by decide +kernel
theorem dX1_fewestToSway_0 : decode cX1_fewestToSway 0 = .ok (.aload_n 0, 1) := by decide +kernel
theorem dX1_fewestToSway_1 : decode cX1_fewestToSway 1 = .ok (.iload_n 1, 1) := by decide +kernel
theorem dX1_fewestToSway_2 : decode cX1_fewestToSway 2 = .ok (.invokevirtual 47, 3) := by decide +kernel
theorem dX1_fewestToSway_5 : decode cX1_fewestToSway 5 = .ok (.istore_n 2, 1) := by decide +kernel
theorem dX1_fewestToSway_6 : decode cX1_fewestToSway 6 = .ok (.bipush 8, 2) := by decide +kernel
theorem dX1_fewestToSway_8 : decode cX1_fewestToSway 8 = .ok (.istore_n 3, 1) := by decide +kernel
theorem dX1_fewestToSway_9 : decode cX1_fewestToSway 9 = .ok (.iconst 0, 1) := by decide +kernel
theorem dX1_fewestToSway_10 : decode cX1_fewestToSway 10 = .ok (.istore 4, 2) := by decide +kernel
theorem dX1_fewestToSway_12 : decode cX1_fewestToSway 12 = .ok (.iload 4, 2) := by decide +kernel
theorem dX1_fewestToSway_14 : decode cX1_fewestToSway 14 = .ok (.iload_n 2, 1) := by decide +kernel
theorem dX1_fewestToSway_15 : decode cX1_fewestToSway 15 = .ok (.if_icmp .gt 21, 3) := by decide +kernel
theorem dX1_fewestToSway_18 : decode cX1_fewestToSway 18 = .ok (.iload_n 3, 1) := by decide +kernel
theorem dX1_fewestToSway_19 : decode cX1_fewestToSway 19 = .ok (.aload_n 0, 1) := by decide +kernel
theorem dX1_fewestToSway_20 : decode cX1_fewestToSway 20 = .ok (.iload_n 1, 1) := by decide +kernel
theorem dX1_fewestToSway_21 : decode cX1_fewestToSway 21 = .ok (.iload 4, 2) := by decide +kernel
theorem dX1_fewestToSway_23 : decode cX1_fewestToSway 23 = .ok (.invokevirtual 51, 3) := by decide +kernel
theorem dX1_fewestToSway_26 : decode cX1_fewestToSway 26 = .ok (.invokestatic 55, 3) := by decide +kernel
theorem dX1_fewestToSway_29 : decode cX1_fewestToSway 29 = .ok (.istore_n 3, 1) := by decide +kernel
theorem dX1_fewestToSway_30 : decode cX1_fewestToSway 30 = .ok (.iinc 4 1, 3) := by decide +kernel
theorem dX1_fewestToSway_33 : decode cX1_fewestToSway 33 = .ok (.goto (-21), 3) := by decide +kernel
theorem dX1_fewestToSway_36 : decode cX1_fewestToSway 36 = .ok (.iload_n 3, 1) := by decide +kernel
theorem dX1_fewestToSway_37 : decode cX1_fewestToSway 37 = .ok (.ireturn, 1) := by decide +kernel
theorem dX1_movesToLeave_0 : decode cX1_movesToLeave 0 = .ok (.iconst 0, 1) := by decide +kernel
theorem dX1_movesToLeave_1 : decode cX1_movesToLeave 1 = .ok (.istore_n 3, 1) := by decide +kernel
theorem dX1_movesToLeave_2 : decode cX1_movesToLeave 2 = .ok (.iload_n 2, 1) := by decide +kernel
theorem dX1_movesToLeave_3 : decode cX1_movesToLeave 3 = .ok (.istore 4, 2) := by decide +kernel
theorem dX1_movesToLeave_5 : decode cX1_movesToLeave 5 = .ok (.iconst 0, 1) := by decide +kernel
theorem dX1_movesToLeave_6 : decode cX1_movesToLeave 6 = .ok (.istore 5, 2) := by decide +kernel
theorem dX1_movesToLeave_8 : decode cX1_movesToLeave 8 = .ok (.iload 5, 2) := by decide +kernel
theorem dX1_movesToLeave_10 : decode cX1_movesToLeave 10 = .ok (.bipush 7, 2) := by decide +kernel
theorem dX1_movesToLeave_12 : decode cX1_movesToLeave 12 = .ok (.if_icmp .ge 48, 3) := by decide +kernel
theorem dX1_movesToLeave_15 : decode cX1_movesToLeave 15 = .ok (.iload 5, 2) := by decide +kernel
theorem dX1_movesToLeave_17 : decode cX1_movesToLeave 17 = .ok (.iload_n 1, 1) := by decide +kernel
theorem dX1_movesToLeave_18 : decode cX1_movesToLeave 18 = .ok (.if_icmp .eq 36, 3) := by decide +kernel
theorem dX1_movesToLeave_21 : decode cX1_movesToLeave 21 = .ok (.iload 5, 2) := by decide +kernel
theorem dX1_movesToLeave_23 : decode cX1_movesToLeave 23 = .ok (.iload_n 1, 1) := by decide +kernel
theorem dX1_movesToLeave_24 : decode cX1_movesToLeave 24 = .ok (.iload_n 2, 1) := by decide +kernel
theorem dX1_movesToLeave_25 : decode cX1_movesToLeave 25 = .ok (.invokestatic 60, 3) := by decide +kernel
theorem dX1_movesToLeave_28 : decode cX1_movesToLeave 28 = .ok (.istore 6, 2) := by decide +kernel
theorem dX1_movesToLeave_30 : decode cX1_movesToLeave 30 = .ok (.iload 4, 2) := by decide +kernel
theorem dX1_movesToLeave_32 : decode cX1_movesToLeave 32 = .ok (.iload 6, 2) := by decide +kernel
theorem dX1_movesToLeave_34 : decode cX1_movesToLeave 34 = .ok (.iadd, 1) := by decide +kernel
theorem dX1_movesToLeave_35 : decode cX1_movesToLeave 35 = .ok (.istore 4, 2) := by decide +kernel
theorem dX1_movesToLeave_37 : decode cX1_movesToLeave 37 = .ok (.iload_n 3, 1) := by decide +kernel
theorem dX1_movesToLeave_38 : decode cX1_movesToLeave 38 = .ok (.iconst 0, 1) := by decide +kernel
theorem dX1_movesToLeave_39 : decode cX1_movesToLeave 39 = .ok (.iload 6, 2) := by decide +kernel
theorem dX1_movesToLeave_41 : decode cX1_movesToLeave 41 = .ok (.aload_n 0, 1) := by decide +kernel
theorem dX1_movesToLeave_42 : decode cX1_movesToLeave 42 = .ok (.getfield 24, 3) := by decide +kernel
theorem dX1_movesToLeave_45 : decode cX1_movesToLeave 45 = .ok (.iload 5, 2) := by decide +kernel
theorem dX1_movesToLeave_47 : decode cX1_movesToLeave 47 = .ok (.iaload, 1) := by decide +kernel
theorem dX1_movesToLeave_48 : decode cX1_movesToLeave 48 = .ok (.isub, 1) := by decide +kernel
theorem dX1_movesToLeave_49 : decode cX1_movesToLeave 49 = .ok (.invokestatic 64, 3) := by decide +kernel
theorem dX1_movesToLeave_52 : decode cX1_movesToLeave 52 = .ok (.iadd, 1) := by decide +kernel
theorem dX1_movesToLeave_53 : decode cX1_movesToLeave 53 = .ok (.istore_n 3, 1) := by decide +kernel
theorem dX1_movesToLeave_54 : decode cX1_movesToLeave 54 = .ok (.iinc 5 1, 3) := by decide +kernel
theorem dX1_movesToLeave_57 : decode cX1_movesToLeave 57 = .ok (.goto (-49), 3) := by decide +kernel
theorem dX1_movesToLeave_60 : decode cX1_movesToLeave 60 = .ok (.iload_n 1, 1) := by decide +kernel
theorem dX1_movesToLeave_61 : decode cX1_movesToLeave 61 = .ok (.invokestatic 43, 3) := by decide +kernel
theorem dX1_movesToLeave_64 : decode cX1_movesToLeave 64 = .ok (.ifCond .eq 14, 3) := by decide +kernel
theorem dX1_movesToLeave_67 : decode cX1_movesToLeave 67 = .ok (.aload_n 0, 1) := by decide +kernel
theorem dX1_movesToLeave_68 : decode cX1_movesToLeave 68 = .ok (.getfield 24, 3) := by decide +kernel
theorem dX1_movesToLeave_71 : decode cX1_movesToLeave 71 = .ok (.iload_n 1, 1) := by decide +kernel
theorem dX1_movesToLeave_72 : decode cX1_movesToLeave 72 = .ok (.iaload, 1) := by decide +kernel
theorem dX1_movesToLeave_73 : decode cX1_movesToLeave 73 = .ok (.iload_n 2, 1) := by decide +kernel
theorem dX1_movesToLeave_74 : decode cX1_movesToLeave 74 = .ok (.isub, 1) := by decide +kernel
theorem dX1_movesToLeave_75 : decode cX1_movesToLeave 75 = .ok (.goto 4, 3) := by decide +kernel
theorem dX1_movesToLeave_78 : decode cX1_movesToLeave 78 = .ok (.iconst 0, 1) := by decide +kernel
theorem dX1_movesToLeave_79 : decode cX1_movesToLeave 79 = .ok (.istore 5, 2) := by decide +kernel
theorem dX1_movesToLeave_81 : decode cX1_movesToLeave 81 = .ok (.iload 4, 2) := by decide +kernel
theorem dX1_movesToLeave_83 : decode cX1_movesToLeave 83 = .ok (.bipush 8, 2) := by decide +kernel
theorem dX1_movesToLeave_85 : decode cX1_movesToLeave 85 = .ok (.if_icmp .le 8, 3) := by decide +kernel
theorem dX1_movesToLeave_88 : decode cX1_movesToLeave 88 = .ok (.bipush 8, 2) := by decide +kernel
theorem dX1_movesToLeave_90 : decode cX1_movesToLeave 90 = .ok (.goto 9, 3) := by decide +kernel
theorem dX1_movesToLeave_93 : decode cX1_movesToLeave 93 = .ok (.iload 5, 2) := by decide +kernel
theorem dX1_movesToLeave_95 : decode cX1_movesToLeave 95 = .ok (.iload_n 3, 1) := by decide +kernel
theorem dX1_movesToLeave_96 : decode cX1_movesToLeave 96 = .ok (.invokestatic 64, 3) := by decide +kernel
theorem dX1_movesToLeave_99 : decode cX1_movesToLeave 99 = .ok (.ireturn, 1) := by decide +kernel
theorem dX1_attempt_0 : decode cX1_attempt 0 = .ok (.iload_n 1, 1) := by decide +kernel
theorem dX1_attempt_1 : decode cX1_attempt 1 = .ok (.tableswitch 68 0 4 #[35, 42, 48, 55, 62], 35) := by decide +kernel
theorem dX1_attempt_36 : decode cX1_attempt 36 = .ok (.aload_n 0, 1) := by decide +kernel
theorem dX1_attempt_37 : decode cX1_attempt 37 = .ok (.iload_n 2, 1) := by decide +kernel
theorem dX1_attempt_38 : decode cX1_attempt 38 = .ok (.iload_n 3, 1) := by decide +kernel
theorem dX1_attempt_39 : decode cX1_attempt 39 = .ok (.invokevirtual 67, 3) := by decide +kernel
theorem dX1_attempt_42 : decode cX1_attempt 42 = .ok (.ireturn, 1) := by decide +kernel
theorem dX1_attempt_43 : decode cX1_attempt 43 = .ok (.aload_n 0, 1) := by decide +kernel
theorem dX1_attempt_44 : decode cX1_attempt 44 = .ok (.iload_n 2, 1) := by decide +kernel
theorem dX1_attempt_45 : decode cX1_attempt 45 = .ok (.invokevirtual 70, 3) := by decide +kernel
theorem dX1_attempt_48 : decode cX1_attempt 48 = .ok (.ireturn, 1) := by decide +kernel
theorem dX1_attempt_49 : decode cX1_attempt 49 = .ok (.aload_n 0, 1) := by decide +kernel
theorem dX1_attempt_50 : decode cX1_attempt 50 = .ok (.iload_n 2, 1) := by decide +kernel
theorem dX1_attempt_51 : decode cX1_attempt 51 = .ok (.iload_n 3, 1) := by decide +kernel
theorem dX1_attempt_52 : decode cX1_attempt 52 = .ok (.invokevirtual 73, 3) := by decide +kernel
theorem dX1_attempt_55 : decode cX1_attempt 55 = .ok (.ireturn, 1) := by decide +kernel
theorem dX1_attempt_56 : decode cX1_attempt 56 = .ok (.aload_n 0, 1) := by decide +kernel
theorem dX1_attempt_57 : decode cX1_attempt 57 = .ok (.iload_n 2, 1) := by decide +kernel
theorem dX1_attempt_58 : decode cX1_attempt 58 = .ok (.iload_n 3, 1) := by decide +kernel
theorem dX1_attempt_59 : decode cX1_attempt 59 = .ok (.invokevirtual 76, 3) := by decide +kernel
theorem dX1_attempt_62 : decode cX1_attempt 62 = .ok (.ireturn, 1) := by decide +kernel
theorem dX1_attempt_63 : decode cX1_attempt 63 = .ok (.aload_n 0, 1) := by decide +kernel
theorem dX1_attempt_64 : decode cX1_attempt 64 = .ok (.iload_n 3, 1) := by decide +kernel
theorem dX1_attempt_65 : decode cX1_attempt 65 = .ok (.invokevirtual 79, 3) := by decide +kernel
theorem dX1_attempt_68 : decode cX1_attempt 68 = .ok (.ireturn, 1) := by decide +kernel
theorem dX1_attempt_69 : decode cX1_attempt 69 = .ok (.aload_n 0, 1) := by decide +kernel
theorem dX1_attempt_70 : decode cX1_attempt 70 = .ok (.invokevirtual 82, 3) := by decide +kernel
theorem dX1_attempt_73 : decode cX1_attempt 73 = .ok (.ireturn, 1) := by decide +kernel
theorem dX1_think_0 : decode cX1_think 0 = .ok (.iload_n 1, 1) := by decide +kernel
theorem dX1_think_1 : decode cX1_think 1 = .ok (.invokestatic 86, 3) := by decide +kernel
theorem dX1_think_4 : decode cX1_think 4 = .ok (.ifCond .eq 13, 3) := by decide +kernel
theorem dX1_think_7 : decode cX1_think 7 = .ok (.aload_n 0, 1) := by decide +kernel
theorem dX1_think_8 : decode cX1_think 8 = .ok (.getfield 9, 3) := by decide +kernel
theorem dX1_think_11 : decode cX1_think 11 = .ok (.iload_n 1, 1) := by decide +kernel
theorem dX1_think_12 : decode cX1_think 12 = .ok (.iaload, 1) := by decide +kernel
theorem dX1_think_13 : decode cX1_think 13 = .ok (.iload_n 2, 1) := by decide +kernel
theorem dX1_think_14 : decode cX1_think 14 = .ok (.if_icmp .ne 5, 3) := by decide +kernel
theorem dX1_think_17 : decode cX1_think 17 = .ok (.iconst 1, 1) := by decide +kernel
theorem dX1_think_18 : decode cX1_think 18 = .ok (.ireturn, 1) := by decide +kernel
theorem dX1_think_19 : decode cX1_think 19 = .ok (.aload_n 0, 1) := by decide +kernel
theorem dX1_think_20 : decode cX1_think 20 = .ok (.getfield 9, 3) := by decide +kernel
theorem dX1_think_23 : decode cX1_think 23 = .ok (.iload_n 1, 1) := by decide +kernel
theorem dX1_think_24 : decode cX1_think 24 = .ok (.iload_n 2, 1) := by decide +kernel
theorem dX1_think_25 : decode cX1_think 25 = .ok (.iastore, 1) := by decide +kernel
theorem dX1_think_26 : decode cX1_think 26 = .ok (.iconst 0, 1) := by decide +kernel
theorem dX1_think_27 : decode cX1_think 27 = .ok (.ireturn, 1) := by decide +kernel
theorem dX1_beSurer_0 : decode cX1_beSurer 0 = .ok (.iload_n 1, 1) := by decide +kernel
theorem dX1_beSurer_1 : decode cX1_beSurer 1 = .ok (.invokestatic 86, 3) := by decide +kernel
theorem dX1_beSurer_4 : decode cX1_beSurer 4 = .ok (.ifCond .eq 14, 3) := by decide +kernel
theorem dX1_beSurer_7 : decode cX1_beSurer 7 = .ok (.aload_n 0, 1) := by decide +kernel
theorem dX1_beSurer_8 : decode cX1_beSurer 8 = .ok (.getfield 15, 3) := by decide +kernel
theorem dX1_beSurer_11 : decode cX1_beSurer 11 = .ok (.iload_n 1, 1) := by decide +kernel
theorem dX1_beSurer_12 : decode cX1_beSurer 12 = .ok (.iaload, 1) := by decide +kernel
theorem dX1_beSurer_13 : decode cX1_beSurer 13 = .ok (.bipush 9, 2) := by decide +kernel
theorem dX1_beSurer_15 : decode cX1_beSurer 15 = .ok (.if_icmp .lt 5, 3) := by decide +kernel
theorem dX1_beSurer_18 : decode cX1_beSurer 18 = .ok (.iconst 2, 1) := by decide +kernel
theorem dX1_beSurer_19 : decode cX1_beSurer 19 = .ok (.ireturn, 1) := by decide +kernel
theorem dX1_beSurer_20 : decode cX1_beSurer 20 = .ok (.aload_n 0, 1) := by decide +kernel
theorem dX1_beSurer_21 : decode cX1_beSurer 21 = .ok (.getfield 15, 3) := by decide +kernel
theorem dX1_beSurer_24 : decode cX1_beSurer 24 = .ok (.iload_n 1, 1) := by decide +kernel
theorem dX1_beSurer_25 : decode cX1_beSurer 25 = .ok (.dup2, 1) := by decide +kernel
theorem dX1_beSurer_26 : decode cX1_beSurer 26 = .ok (.iaload, 1) := by decide +kernel
theorem dX1_beSurer_27 : decode cX1_beSurer 27 = .ok (.iconst 1, 1) := by decide +kernel
theorem dX1_beSurer_28 : decode cX1_beSurer 28 = .ok (.iadd, 1) := by decide +kernel
theorem dX1_beSurer_29 : decode cX1_beSurer 29 = .ok (.iastore, 1) := by decide +kernel
theorem dX1_beSurer_30 : decode cX1_beSurer 30 = .ok (.iconst 0, 1) := by decide +kernel
theorem dX1_beSurer_31 : decode cX1_beSurer 31 = .ok (.ireturn, 1) := by decide +kernel
theorem dX1_talk_0 : decode cX1_talk 0 = .ok (.iload_n 1, 1) := by decide +kernel
theorem dX1_talk_1 : decode cX1_talk 1 = .ok (.invokestatic 86, 3) := by decide +kernel
theorem dX1_talk_4 : decode cX1_talk 4 = .ok (.ifCond .eq 15, 3) := by decide +kernel
theorem dX1_talk_7 : decode cX1_talk 7 = .ok (.iload_n 2, 1) := by decide +kernel
theorem dX1_talk_8 : decode cX1_talk 8 = .ok (.invokestatic 86, 3) := by decide +kernel
theorem dX1_talk_11 : decode cX1_talk 11 = .ok (.ifCond .eq 8, 3) := by decide +kernel
theorem dX1_talk_14 : decode cX1_talk 14 = .ok (.iload_n 1, 1) := by decide +kernel
theorem dX1_talk_15 : decode cX1_talk 15 = .ok (.iload_n 2, 1) := by decide +kernel
theorem dX1_talk_16 : decode cX1_talk 16 = .ok (.if_icmp .ne 5, 3) := by decide +kernel
theorem dX1_talk_19 : decode cX1_talk 19 = .ok (.iconst 3, 1) := by decide +kernel
theorem dX1_talk_20 : decode cX1_talk 20 = .ok (.ireturn, 1) := by decide +kernel
theorem dX1_talk_21 : decode cX1_talk 21 = .ok (.aload_n 0, 1) := by decide +kernel
theorem dX1_talk_22 : decode cX1_talk 22 = .ok (.getfield 9, 3) := by decide +kernel
theorem dX1_talk_25 : decode cX1_talk 25 = .ok (.iload_n 1, 1) := by decide +kernel
theorem dX1_talk_26 : decode cX1_talk 26 = .ok (.iaload, 1) := by decide +kernel
theorem dX1_talk_27 : decode cX1_talk 27 = .ok (.iconst (-1), 1) := by decide +kernel
theorem dX1_talk_28 : decode cX1_talk 28 = .ok (.if_icmp .ne 5, 3) := by decide +kernel
theorem dX1_talk_31 : decode cX1_talk 31 = .ok (.iconst 4, 1) := by decide +kernel
theorem dX1_talk_32 : decode cX1_talk 32 = .ok (.ireturn, 1) := by decide +kernel
theorem dX1_talk_33 : decode cX1_talk 33 = .ok (.aload_n 0, 1) := by decide +kernel
theorem dX1_talk_34 : decode cX1_talk 34 = .ok (.getfield 15, 3) := by decide +kernel
theorem dX1_talk_37 : decode cX1_talk 37 = .ok (.iload_n 2, 1) := by decide +kernel
theorem dX1_talk_38 : decode cX1_talk 38 = .ok (.iaload, 1) := by decide +kernel
theorem dX1_talk_39 : decode cX1_talk 39 = .ok (.aload_n 0, 1) := by decide +kernel
theorem dX1_talk_40 : decode cX1_talk 40 = .ok (.getfield 15, 3) := by decide +kernel
theorem dX1_talk_43 : decode cX1_talk 43 = .ok (.iload_n 1, 1) := by decide +kernel
theorem dX1_talk_44 : decode cX1_talk 44 = .ok (.iaload, 1) := by decide +kernel
theorem dX1_talk_45 : decode cX1_talk 45 = .ok (.if_icmp .lt 5, 3) := by decide +kernel
theorem dX1_talk_48 : decode cX1_talk 48 = .ok (.iconst 5, 1) := by decide +kernel
theorem dX1_talk_49 : decode cX1_talk 49 = .ok (.ireturn, 1) := by decide +kernel
theorem dX1_talk_50 : decode cX1_talk 50 = .ok (.aload_n 0, 1) := by decide +kernel
theorem dX1_talk_51 : decode cX1_talk 51 = .ok (.getfield 9, 3) := by decide +kernel
theorem dX1_talk_54 : decode cX1_talk 54 = .ok (.iload_n 2, 1) := by decide +kernel
theorem dX1_talk_55 : decode cX1_talk 55 = .ok (.aload_n 0, 1) := by decide +kernel
theorem dX1_talk_56 : decode cX1_talk 56 = .ok (.getfield 9, 3) := by decide +kernel
theorem dX1_talk_59 : decode cX1_talk 59 = .ok (.iload_n 1, 1) := by decide +kernel
theorem dX1_talk_60 : decode cX1_talk 60 = .ok (.iaload, 1) := by decide +kernel
theorem dX1_talk_61 : decode cX1_talk 61 = .ok (.iastore, 1) := by decide +kernel
theorem dX1_talk_62 : decode cX1_talk 62 = .ok (.aload_n 0, 1) := by decide +kernel
theorem dX1_talk_63 : decode cX1_talk 63 = .ok (.getfield 15, 3) := by decide +kernel
theorem dX1_talk_66 : decode cX1_talk 66 = .ok (.iload_n 2, 1) := by decide +kernel
theorem dX1_talk_67 : decode cX1_talk 67 = .ok (.iconst 0, 1) := by decide +kernel
theorem dX1_talk_68 : decode cX1_talk 68 = .ok (.aload_n 0, 1) := by decide +kernel
theorem dX1_talk_69 : decode cX1_talk 69 = .ok (.getfield 15, 3) := by decide +kernel
theorem dX1_talk_72 : decode cX1_talk 72 = .ok (.iload_n 2, 1) := by decide +kernel
theorem dX1_talk_73 : decode cX1_talk 73 = .ok (.iaload, 1) := by decide +kernel
theorem dX1_talk_74 : decode cX1_talk 74 = .ok (.iconst 1, 1) := by decide +kernel
theorem dX1_talk_75 : decode cX1_talk 75 = .ok (.isub, 1) := by decide +kernel
theorem dX1_talk_76 : decode cX1_talk 76 = .ok (.invokestatic 64, 3) := by decide +kernel
theorem dX1_talk_79 : decode cX1_talk 79 = .ok (.iastore, 1) := by decide +kernel
theorem dX1_talk_80 : decode cX1_talk 80 = .ok (.iconst 0, 1) := by decide +kernel
theorem dX1_talk_81 : decode cX1_talk 81 = .ok (.ireturn, 1) := by decide +kernel
theorem dX1_pay_0 : decode cX1_pay 0 = .ok (.iload_n 1, 1) := by decide +kernel
theorem dX1_pay_1 : decode cX1_pay 1 = .ok (.invokestatic 86, 3) := by decide +kernel
theorem dX1_pay_4 : decode cX1_pay 4 = .ok (.ifCond .eq 15, 3) := by decide +kernel
theorem dX1_pay_7 : decode cX1_pay 7 = .ok (.iload_n 2, 1) := by decide +kernel
theorem dX1_pay_8 : decode cX1_pay 8 = .ok (.invokestatic 86, 3) := by decide +kernel
theorem dX1_pay_11 : decode cX1_pay 11 = .ok (.ifCond .eq 8, 3) := by decide +kernel
theorem dX1_pay_14 : decode cX1_pay 14 = .ok (.iload_n 1, 1) := by decide +kernel
theorem dX1_pay_15 : decode cX1_pay 15 = .ok (.iload_n 2, 1) := by decide +kernel
theorem dX1_pay_16 : decode cX1_pay 16 = .ok (.if_icmp .ne 5, 3) := by decide +kernel
theorem dX1_pay_19 : decode cX1_pay 19 = .ok (.iconst 3, 1) := by decide +kernel
theorem dX1_pay_20 : decode cX1_pay 20 = .ok (.ireturn, 1) := by decide +kernel
theorem dX1_pay_21 : decode cX1_pay 21 = .ok (.aload_n 0, 1) := by decide +kernel
theorem dX1_pay_22 : decode cX1_pay 22 = .ok (.getfield 18, 3) := by decide +kernel
theorem dX1_pay_25 : decode cX1_pay 25 = .ok (.iload_n 1, 1) := by decide +kernel
theorem dX1_pay_26 : decode cX1_pay 26 = .ok (.iaload, 1) := by decide +kernel
theorem dX1_pay_27 : decode cX1_pay 27 = .ok (.iconst 3, 1) := by decide +kernel
theorem dX1_pay_28 : decode cX1_pay 28 = .ok (.if_icmp .ge 6, 3) := by decide +kernel
theorem dX1_pay_31 : decode cX1_pay 31 = .ok (.bipush 6, 2) := by decide +kernel
theorem dX1_pay_33 : decode cX1_pay 33 = .ok (.ireturn, 1) := by decide +kernel
theorem dX1_pay_34 : decode cX1_pay 34 = .ok (.aload_n 0, 1) := by decide +kernel
theorem dX1_pay_35 : decode cX1_pay 35 = .ok (.getfield 18, 3) := by decide +kernel
theorem dX1_pay_38 : decode cX1_pay 38 = .ok (.iload_n 1, 1) := by decide +kernel
theorem dX1_pay_39 : decode cX1_pay 39 = .ok (.dup2, 1) := by decide +kernel
theorem dX1_pay_40 : decode cX1_pay 40 = .ok (.iaload, 1) := by decide +kernel
theorem dX1_pay_41 : decode cX1_pay 41 = .ok (.iconst 3, 1) := by decide +kernel
theorem dX1_pay_42 : decode cX1_pay 42 = .ok (.isub, 1) := by decide +kernel
theorem dX1_pay_43 : decode cX1_pay 43 = .ok (.iastore, 1) := by decide +kernel
theorem dX1_pay_44 : decode cX1_pay 44 = .ok (.aload_n 0, 1) := by decide +kernel
theorem dX1_pay_45 : decode cX1_pay 45 = .ok (.getfield 18, 3) := by decide +kernel
theorem dX1_pay_48 : decode cX1_pay 48 = .ok (.iload_n 2, 1) := by decide +kernel
theorem dX1_pay_49 : decode cX1_pay 49 = .ok (.dup2, 1) := by decide +kernel
theorem dX1_pay_50 : decode cX1_pay 50 = .ok (.iaload, 1) := by decide +kernel
theorem dX1_pay_51 : decode cX1_pay 51 = .ok (.iconst 3, 1) := by decide +kernel
theorem dX1_pay_52 : decode cX1_pay 52 = .ok (.iadd, 1) := by decide +kernel
theorem dX1_pay_53 : decode cX1_pay 53 = .ok (.iastore, 1) := by decide +kernel
theorem dX1_pay_54 : decode cX1_pay 54 = .ok (.aload_n 0, 1) := by decide +kernel
theorem dX1_pay_55 : decode cX1_pay 55 = .ok (.getfield 15, 3) := by decide +kernel
theorem dX1_pay_58 : decode cX1_pay 58 = .ok (.iload_n 2, 1) := by decide +kernel
theorem dX1_pay_59 : decode cX1_pay 59 = .ok (.bipush 9, 2) := by decide +kernel
theorem dX1_pay_61 : decode cX1_pay 61 = .ok (.iastore, 1) := by decide +kernel
theorem dX1_pay_62 : decode cX1_pay 62 = .ok (.iconst 0, 1) := by decide +kernel
theorem dX1_pay_63 : decode cX1_pay 63 = .ok (.ireturn, 1) := by decide +kernel
theorem dX1_come_0 : decode cX1_come 0 = .ok (.iload_n 1, 1) := by decide +kernel
theorem dX1_come_1 : decode cX1_come 1 = .ok (.invokestatic 89, 3) := by decide +kernel
theorem dX1_come_4 : decode cX1_come 4 = .ok (.ifCond .eq 12, 3) := by decide +kernel
theorem dX1_come_7 : decode cX1_come 7 = .ok (.aload_n 0, 1) := by decide +kernel
theorem dX1_come_8 : decode cX1_come 8 = .ok (.getfield 21, 3) := by decide +kernel
theorem dX1_come_11 : decode cX1_come 11 = .ok (.iload_n 1, 1) := by decide +kernel
theorem dX1_come_12 : decode cX1_come 12 = .ok (.iaload, 1) := by decide +kernel
theorem dX1_come_13 : decode cX1_come 13 = .ok (.ifCond .ne 6, 3) := by decide +kernel
theorem dX1_come_16 : decode cX1_come 16 = .ok (.bipush 7, 2) := by decide +kernel
theorem dX1_come_18 : decode cX1_come 18 = .ok (.ireturn, 1) := by decide +kernel
theorem dX1_come_19 : decode cX1_come 19 = .ok (.aload_n 0, 1) := by decide +kernel
theorem dX1_come_20 : decode cX1_come 20 = .ok (.getfield 21, 3) := by decide +kernel
theorem dX1_come_23 : decode cX1_come 23 = .ok (.iload_n 1, 1) := by decide +kernel
theorem dX1_come_24 : decode cX1_come 24 = .ok (.dup2, 1) := by decide +kernel
theorem dX1_come_25 : decode cX1_come 25 = .ok (.iaload, 1) := by decide +kernel
theorem dX1_come_26 : decode cX1_come 26 = .ok (.iconst 1, 1) := by decide +kernel
theorem dX1_come_27 : decode cX1_come 27 = .ok (.isub, 1) := by decide +kernel
theorem dX1_come_28 : decode cX1_come 28 = .ok (.iastore, 1) := by decide +kernel
theorem dX1_come_29 : decode cX1_come 29 = .ok (.iconst 0, 1) := by decide +kernel
theorem dX1_come_30 : decode cX1_come 30 = .ok (.ireturn, 1) := by decide +kernel
theorem dX1_wake_0 : decode cX1_wake 0 = .ok (.aload_n 0, 1) := by decide +kernel
theorem dX1_wake_1 : decode cX1_wake 1 = .ok (.getfield 31, 3) := by decide +kernel
theorem dX1_wake_4 : decode cX1_wake 4 = .ok (.bipush 99, 2) := by decide +kernel
theorem dX1_wake_6 : decode cX1_wake 6 = .ok (.if_icmp .lt 6, 3) := by decide +kernel
theorem dX1_wake_9 : decode cX1_wake 9 = .ok (.bipush 8, 2) := by decide +kernel
theorem dX1_wake_11 : decode cX1_wake 11 = .ok (.ireturn, 1) := by decide +kernel
theorem dX1_wake_12 : decode cX1_wake 12 = .ok (.aload_n 0, 1) := by decide +kernel
theorem dX1_wake_13 : decode cX1_wake 13 = .ok (.dup, 1) := by decide +kernel
theorem dX1_wake_14 : decode cX1_wake 14 = .ok (.getfield 31, 3) := by decide +kernel
theorem dX1_wake_17 : decode cX1_wake 17 = .ok (.iconst 1, 1) := by decide +kernel
theorem dX1_wake_18 : decode cX1_wake 18 = .ok (.iadd, 1) := by decide +kernel
theorem dX1_wake_19 : decode cX1_wake 19 = .ok (.putfield 31, 3) := by decide +kernel
theorem dX1_wake_22 : decode cX1_wake 22 = .ok (.aload_n 0, 1) := by decide +kernel
theorem dX1_wake_23 : decode cX1_wake 23 = .ok (.aload_n 0, 1) := by decide +kernel
theorem dX1_wake_24 : decode cX1_wake 24 = .ok (.getfield 27, 3) := by decide +kernel
theorem dX1_wake_27 : decode cX1_wake 27 = .ok (.iconst 1, 1) := by decide +kernel
theorem dX1_wake_28 : decode cX1_wake 28 = .ok (.iadd, 1) := by decide +kernel
theorem dX1_wake_29 : decode cX1_wake 29 = .ok (.bipush 7, 2) := by decide +kernel
theorem dX1_wake_31 : decode cX1_wake 31 = .ok (.irem, 1) := by decide +kernel
theorem dX1_wake_32 : decode cX1_wake 32 = .ok (.putfield 27, 3) := by decide +kernel
theorem dX1_wake_35 : decode cX1_wake 35 = .ok (.aload_n 0, 1) := by decide +kernel
theorem dX1_wake_36 : decode cX1_wake 36 = .ok (.getfield 27, 3) := by decide +kernel
theorem dX1_wake_39 : decode cX1_wake 39 = .ok (.aload_n 0, 1) := by decide +kernel
theorem dX1_wake_40 : decode cX1_wake 40 = .ok (.invokevirtual 92, 3) := by decide +kernel
theorem dX1_wake_43 : decode cX1_wake 43 = .ok (.if_icmp .ne 10, 3) := by decide +kernel
theorem dX1_wake_46 : decode cX1_wake 46 = .ok (.aload_n 0, 1) := by decide +kernel
theorem dX1_wake_47 : decode cX1_wake 47 = .ok (.invokevirtual 95, 3) := by decide +kernel
theorem dX1_wake_50 : decode cX1_wake 50 = .ok (.goto 7, 3) := by decide +kernel
theorem dX1_wake_53 : decode cX1_wake 53 = .ok (.aload_n 0, 1) := by decide +kernel
theorem dX1_wake_54 : decode cX1_wake 54 = .ok (.invokevirtual 98, 3) := by decide +kernel
theorem dX1_wake_57 : decode cX1_wake 57 = .ok (.iconst 0, 1) := by decide +kernel
theorem dX1_wake_58 : decode cX1_wake 58 = .ok (.ireturn, 1) := by decide +kernel
theorem dX1_holdMarket_0 : decode cX1_holdMarket 0 = .ok (.aload_n 0, 1) := by decide +kernel
theorem dX1_holdMarket_1 : decode cX1_holdMarket 1 = .ok (.dup, 1) := by decide +kernel
theorem dX1_holdMarket_2 : decode cX1_holdMarket 2 = .ok (.getfield 37, 3) := by decide +kernel
theorem dX1_holdMarket_5 : decode cX1_holdMarket 5 = .ok (.iconst 1, 1) := by decide +kernel
theorem dX1_holdMarket_6 : decode cX1_holdMarket 6 = .ok (.iadd, 1) := by decide +kernel
theorem dX1_holdMarket_7 : decode cX1_holdMarket 7 = .ok (.putfield 37, 3) := by decide +kernel
theorem dX1_holdMarket_10 : decode cX1_holdMarket 10 = .ok (.iconst 0, 1) := by decide +kernel
theorem dX1_holdMarket_11 : decode cX1_holdMarket 11 = .ok (.istore_n 1, 1) := by decide +kernel
theorem dX1_holdMarket_12 : decode cX1_holdMarket 12 = .ok (.iload_n 1, 1) := by decide +kernel
theorem dX1_holdMarket_13 : decode cX1_holdMarket 13 = .ok (.iconst 4, 1) := by decide +kernel
theorem dX1_holdMarket_14 : decode cX1_holdMarket 14 = .ok (.if_icmp .ge 36, 3) := by decide +kernel
theorem dX1_holdMarket_17 : decode cX1_holdMarket 17 = .ok (.aload_n 0, 1) := by decide +kernel
theorem dX1_holdMarket_18 : decode cX1_holdMarket 18 = .ok (.getfield 21, 3) := by decide +kernel
theorem dX1_holdMarket_21 : decode cX1_holdMarket 21 = .ok (.iload_n 1, 1) := by decide +kernel
theorem dX1_holdMarket_22 : decode cX1_holdMarket 22 = .ok (.iaload, 1) := by decide +kernel
theorem dX1_holdMarket_23 : decode cX1_holdMarket 23 = .ok (.ifCond .ne 21, 3) := by decide +kernel
theorem dX1_holdMarket_26 : decode cX1_holdMarket 26 = .ok (.aload_n 0, 1) := by decide +kernel
theorem dX1_holdMarket_27 : decode cX1_holdMarket 27 = .ok (.dup, 1) := by decide +kernel
theorem dX1_holdMarket_28 : decode cX1_holdMarket 28 = .ok (.getfield 34, 3) := by decide +kernel
theorem dX1_holdMarket_31 : decode cX1_holdMarket 31 = .ok (.iconst 1, 1) := by decide +kernel
theorem dX1_holdMarket_32 : decode cX1_holdMarket 32 = .ok (.iadd, 1) := by decide +kernel
theorem dX1_holdMarket_33 : decode cX1_holdMarket 33 = .ok (.putfield 34, 3) := by decide +kernel
theorem dX1_holdMarket_36 : decode cX1_holdMarket 36 = .ok (.aload_n 0, 1) := by decide +kernel
theorem dX1_holdMarket_37 : decode cX1_holdMarket 37 = .ok (.getfield 21, 3) := by decide +kernel
theorem dX1_holdMarket_40 : decode cX1_holdMarket 40 = .ok (.iload_n 1, 1) := by decide +kernel
theorem dX1_holdMarket_41 : decode cX1_holdMarket 41 = .ok (.bipush 9, 2) := by decide +kernel
theorem dX1_holdMarket_43 : decode cX1_holdMarket 43 = .ok (.iastore, 1) := by decide +kernel
theorem dX1_holdMarket_44 : decode cX1_holdMarket 44 = .ok (.iinc 1 1, 3) := by decide +kernel
theorem dX1_holdMarket_47 : decode cX1_holdMarket 47 = .ok (.goto (-35), 3) := by decide +kernel
theorem dX1_holdMarket_50 : decode cX1_holdMarket 50 = .ok (.iconst 0, 1) := by decide +kernel
theorem dX1_holdMarket_51 : decode cX1_holdMarket 51 = .ok (.istore_n 1, 1) := by decide +kernel
theorem dX1_holdMarket_52 : decode cX1_holdMarket 52 = .ok (.iload_n 1, 1) := by decide +kernel
theorem dX1_holdMarket_53 : decode cX1_holdMarket 53 = .ok (.bipush 8, 2) := by decide +kernel
theorem dX1_holdMarket_55 : decode cX1_holdMarket 55 = .ok (.if_icmp .ge 45, 3) := by decide +kernel
theorem dX1_holdMarket_58 : decode cX1_holdMarket 58 = .ok (.aload_n 0, 1) := by decide +kernel
theorem dX1_holdMarket_59 : decode cX1_holdMarket 59 = .ok (.getfield 15, 3) := by decide +kernel
theorem dX1_holdMarket_62 : decode cX1_holdMarket 62 = .ok (.iload_n 1, 1) := by decide +kernel
theorem dX1_holdMarket_63 : decode cX1_holdMarket 63 = .ok (.aload_n 0, 1) := by decide +kernel
theorem dX1_holdMarket_64 : decode cX1_holdMarket 64 = .ok (.getfield 9, 3) := by decide +kernel
theorem dX1_holdMarket_67 : decode cX1_holdMarket 67 = .ok (.iload_n 1, 1) := by decide +kernel
theorem dX1_holdMarket_68 : decode cX1_holdMarket 68 = .ok (.iaload, 1) := by decide +kernel
theorem dX1_holdMarket_69 : decode cX1_holdMarket 69 = .ok (.aload_n 0, 1) := by decide +kernel
theorem dX1_holdMarket_70 : decode cX1_holdMarket 70 = .ok (.getfield 27, 3) := by decide +kernel
theorem dX1_holdMarket_73 : decode cX1_holdMarket 73 = .ok (.if_icmp .ne 7, 3) := by decide +kernel
theorem dX1_holdMarket_76 : decode cX1_holdMarket 76 = .ok (.iconst 0, 1) := by decide +kernel
theorem dX1_holdMarket_77 : decode cX1_holdMarket 77 = .ok (.goto 16, 3) := by decide +kernel
theorem dX1_holdMarket_80 : decode cX1_holdMarket 80 = .ok (.bipush 9, 2) := by decide +kernel
theorem dX1_holdMarket_82 : decode cX1_holdMarket 82 = .ok (.aload_n 0, 1) := by decide +kernel
theorem dX1_holdMarket_83 : decode cX1_holdMarket 83 = .ok (.getfield 15, 3) := by decide +kernel
theorem dX1_holdMarket_86 : decode cX1_holdMarket 86 = .ok (.iload_n 1, 1) := by decide +kernel
theorem dX1_holdMarket_87 : decode cX1_holdMarket 87 = .ok (.iaload, 1) := by decide +kernel
theorem dX1_holdMarket_88 : decode cX1_holdMarket 88 = .ok (.iconst 1, 1) := by decide +kernel
theorem dX1_holdMarket_89 : decode cX1_holdMarket 89 = .ok (.iadd, 1) := by decide +kernel
theorem dX1_holdMarket_90 : decode cX1_holdMarket 90 = .ok (.invokestatic 55, 3) := by decide +kernel
theorem dX1_holdMarket_93 : decode cX1_holdMarket 93 = .ok (.iastore, 1) := by decide +kernel
theorem dX1_holdMarket_94 : decode cX1_holdMarket 94 = .ok (.iinc 1 1, 3) := by decide +kernel
theorem dX1_holdMarket_97 : decode cX1_holdMarket 97 = .ok (.goto (-45), 3) := by decide +kernel
theorem dX1_holdMarket_100 : decode cX1_holdMarket 100 = .ok (.return_, 1) := by decide +kernel
theorem dX1_bringCartsNearer_0 : decode cX1_bringCartsNearer 0 = .ok (.iconst 0, 1) := by decide +kernel
theorem dX1_bringCartsNearer_1 : decode cX1_bringCartsNearer 1 = .ok (.istore_n 1, 1) := by decide +kernel
theorem dX1_bringCartsNearer_2 : decode cX1_bringCartsNearer 2 = .ok (.iload_n 1, 1) := by decide +kernel
theorem dX1_bringCartsNearer_3 : decode cX1_bringCartsNearer 3 = .ok (.iconst 4, 1) := by decide +kernel
theorem dX1_bringCartsNearer_4 : decode cX1_bringCartsNearer 4 = .ok (.if_icmp .ge 28, 3) := by decide +kernel
theorem dX1_bringCartsNearer_7 : decode cX1_bringCartsNearer 7 = .ok (.aload_n 0, 1) := by decide +kernel
theorem dX1_bringCartsNearer_8 : decode cX1_bringCartsNearer 8 = .ok (.getfield 21, 3) := by decide +kernel
theorem dX1_bringCartsNearer_11 : decode cX1_bringCartsNearer 11 = .ok (.iload_n 1, 1) := by decide +kernel
theorem dX1_bringCartsNearer_12 : decode cX1_bringCartsNearer 12 = .ok (.iaload, 1) := by decide +kernel
theorem dX1_bringCartsNearer_13 : decode cX1_bringCartsNearer 13 = .ok (.ifCond .le 13, 3) := by decide +kernel
theorem dX1_bringCartsNearer_16 : decode cX1_bringCartsNearer 16 = .ok (.aload_n 0, 1) := by decide +kernel
theorem dX1_bringCartsNearer_17 : decode cX1_bringCartsNearer 17 = .ok (.getfield 21, 3) := by decide +kernel
theorem dX1_bringCartsNearer_20 : decode cX1_bringCartsNearer 20 = .ok (.iload_n 1, 1) := by decide +kernel
theorem dX1_bringCartsNearer_21 : decode cX1_bringCartsNearer 21 = .ok (.dup2, 1) := by decide +kernel
theorem dX1_bringCartsNearer_22 : decode cX1_bringCartsNearer 22 = .ok (.iaload, 1) := by decide +kernel
theorem dX1_bringCartsNearer_23 : decode cX1_bringCartsNearer 23 = .ok (.iconst 1, 1) := by decide +kernel
theorem dX1_bringCartsNearer_24 : decode cX1_bringCartsNearer 24 = .ok (.isub, 1) := by decide +kernel
theorem dX1_bringCartsNearer_25 : decode cX1_bringCartsNearer 25 = .ok (.iastore, 1) := by decide +kernel
theorem dX1_bringCartsNearer_26 : decode cX1_bringCartsNearer 26 = .ok (.iinc 1 1, 3) := by decide +kernel
theorem dX1_bringCartsNearer_29 : decode cX1_bringCartsNearer 29 = .ok (.goto (-27), 3) := by decide +kernel
theorem dX1_bringCartsNearer_32 : decode cX1_bringCartsNearer 32 = .ok (.return_, 1) := by decide +kernel
theorem dX1_liveByDraws_0 : decode cX1_liveByDraws 0 = .ok (.iload_n 1, 1) := by decide +kernel
theorem dX1_liveByDraws_1 : decode cX1_liveByDraws 1 = .ok (.istore_n 3, 1) := by decide +kernel
theorem dX1_liveByDraws_2 : decode cX1_liveByDraws 2 = .ok (.iconst 0, 1) := by decide +kernel
theorem dX1_liveByDraws_3 : decode cX1_liveByDraws 3 = .ok (.istore 4, 2) := by decide +kernel
theorem dX1_liveByDraws_5 : decode cX1_liveByDraws 5 = .ok (.iload 4, 2) := by decide +kernel
theorem dX1_liveByDraws_7 : decode cX1_liveByDraws 7 = .ok (.iload_n 2, 1) := by decide +kernel
theorem dX1_liveByDraws_8 : decode cX1_liveByDraws 8 = .ok (.if_icmp .ge 39, 3) := by decide +kernel
theorem dX1_liveByDraws_11 : decode cX1_liveByDraws 11 = .ok (.bipush 75, 2) := by decide +kernel
theorem dX1_liveByDraws_13 : decode cX1_liveByDraws 13 = .ok (.iload_n 3, 1) := by decide +kernel
theorem dX1_liveByDraws_14 : decode cX1_liveByDraws 14 = .ok (.imul, 1) := by decide +kernel
theorem dX1_liveByDraws_15 : decode cX1_liveByDraws 15 = .ok (.bipush 74, 2) := by decide +kernel
theorem dX1_liveByDraws_17 : decode cX1_liveByDraws 17 = .ok (.iadd, 1) := by decide +kernel
theorem dX1_liveByDraws_18 : decode cX1_liveByDraws 18 = .ok (.ldc 101, 2) := by decide +kernel
theorem dX1_liveByDraws_20 : decode cX1_liveByDraws 20 = .ok (.irem, 1) := by decide +kernel
theorem dX1_liveByDraws_21 : decode cX1_liveByDraws 21 = .ok (.istore_n 3, 1) := by decide +kernel
theorem dX1_liveByDraws_22 : decode cX1_liveByDraws 22 = .ok (.aload_n 0, 1) := by decide +kernel
theorem dX1_liveByDraws_23 : decode cX1_liveByDraws 23 = .ok (.iload_n 3, 1) := by decide +kernel
theorem dX1_liveByDraws_24 : decode cX1_liveByDraws 24 = .ok (.bipush 8, 2) := by decide +kernel
theorem dX1_liveByDraws_26 : decode cX1_liveByDraws 26 = .ok (.irem, 1) := by decide +kernel
theorem dX1_liveByDraws_27 : decode cX1_liveByDraws 27 = .ok (.iload_n 3, 1) := by decide +kernel
theorem dX1_liveByDraws_28 : decode cX1_liveByDraws 28 = .ok (.bipush 8, 2) := by decide +kernel
theorem dX1_liveByDraws_30 : decode cX1_liveByDraws 30 = .ok (.idiv, 1) := by decide +kernel
theorem dX1_liveByDraws_31 : decode cX1_liveByDraws 31 = .ok (.bipush 8, 2) := by decide +kernel
theorem dX1_liveByDraws_33 : decode cX1_liveByDraws 33 = .ok (.irem, 1) := by decide +kernel
theorem dX1_liveByDraws_34 : decode cX1_liveByDraws 34 = .ok (.iload_n 3, 1) := by decide +kernel
theorem dX1_liveByDraws_35 : decode cX1_liveByDraws 35 = .ok (.bipush 64, 2) := by decide +kernel
theorem dX1_liveByDraws_37 : decode cX1_liveByDraws 37 = .ok (.idiv, 1) := by decide +kernel
theorem dX1_liveByDraws_38 : decode cX1_liveByDraws 38 = .ok (.invokevirtual 102, 3) := by decide +kernel
theorem dX1_liveByDraws_41 : decode cX1_liveByDraws 41 = .ok (.iinc 4 1, 3) := by decide +kernel
theorem dX1_liveByDraws_44 : decode cX1_liveByDraws 44 = .ok (.goto (-39), 3) := by decide +kernel
theorem dX1_liveByDraws_47 : decode cX1_liveByDraws 47 = .ok (.return_, 1) := by decide +kernel
theorem dX1_actByDraw_0 : decode cX1_actByDraw 0 = .ok (.iload_n 2, 1) := by decide +kernel
theorem dX1_actByDraw_1 : decode cX1_actByDraw 1 = .ok (.tableswitch 115 0 5 #[39, 39, 53, 64, 78, 92], 39) := by decide +kernel
theorem dX1_actByDraw_40 : decode cX1_actByDraw 40 = .ok (.aload_n 0, 1) := by decide +kernel
theorem dX1_actByDraw_41 : decode cX1_actByDraw 41 = .ok (.iconst 0, 1) := by decide +kernel
theorem dX1_actByDraw_42 : decode cX1_actByDraw 42 = .ok (.iload_n 1, 1) := by decide +kernel
theorem dX1_actByDraw_43 : decode cX1_actByDraw 43 = .ok (.iload_n 3, 1) := by decide +kernel
theorem dX1_actByDraw_44 : decode cX1_actByDraw 44 = .ok (.bipush 7, 2) := by decide +kernel
theorem dX1_actByDraw_46 : decode cX1_actByDraw 46 = .ok (.irem, 1) := by decide +kernel
theorem dX1_actByDraw_47 : decode cX1_actByDraw 47 = .ok (.invokevirtual 106, 3) := by decide +kernel
theorem dX1_actByDraw_50 : decode cX1_actByDraw 50 = .ok (.pop, 1) := by decide +kernel
theorem dX1_actByDraw_51 : decode cX1_actByDraw 51 = .ok (.goto 73, 3) := by decide +kernel
theorem dX1_actByDraw_54 : decode cX1_actByDraw 54 = .ok (.aload_n 0, 1) := by decide +kernel
theorem dX1_actByDraw_55 : decode cX1_actByDraw 55 = .ok (.iconst 0, 1) := by decide +kernel
theorem dX1_actByDraw_56 : decode cX1_actByDraw 56 = .ok (.iload_n 1, 1) := by decide +kernel
theorem dX1_actByDraw_57 : decode cX1_actByDraw 57 = .ok (.iconst (-1), 1) := by decide +kernel
theorem dX1_actByDraw_58 : decode cX1_actByDraw 58 = .ok (.invokevirtual 106, 3) := by decide +kernel
theorem dX1_actByDraw_61 : decode cX1_actByDraw 61 = .ok (.pop, 1) := by decide +kernel
theorem dX1_actByDraw_62 : decode cX1_actByDraw 62 = .ok (.goto 62, 3) := by decide +kernel
theorem dX1_actByDraw_65 : decode cX1_actByDraw 65 = .ok (.aload_n 0, 1) := by decide +kernel
theorem dX1_actByDraw_66 : decode cX1_actByDraw 66 = .ok (.iconst 2, 1) := by decide +kernel
theorem dX1_actByDraw_67 : decode cX1_actByDraw 67 = .ok (.iload_n 1, 1) := by decide +kernel
theorem dX1_actByDraw_68 : decode cX1_actByDraw 68 = .ok (.iload_n 3, 1) := by decide +kernel
theorem dX1_actByDraw_69 : decode cX1_actByDraw 69 = .ok (.bipush 8, 2) := by decide +kernel
theorem dX1_actByDraw_71 : decode cX1_actByDraw 71 = .ok (.irem, 1) := by decide +kernel
theorem dX1_actByDraw_72 : decode cX1_actByDraw 72 = .ok (.invokevirtual 106, 3) := by decide +kernel
theorem dX1_actByDraw_75 : decode cX1_actByDraw 75 = .ok (.pop, 1) := by decide +kernel
theorem dX1_actByDraw_76 : decode cX1_actByDraw 76 = .ok (.goto 48, 3) := by decide +kernel
theorem dX1_actByDraw_79 : decode cX1_actByDraw 79 = .ok (.aload_n 0, 1) := by decide +kernel
theorem dX1_actByDraw_80 : decode cX1_actByDraw 80 = .ok (.iconst 3, 1) := by decide +kernel
theorem dX1_actByDraw_81 : decode cX1_actByDraw 81 = .ok (.iload_n 1, 1) := by decide +kernel
theorem dX1_actByDraw_82 : decode cX1_actByDraw 82 = .ok (.iload_n 3, 1) := by decide +kernel
theorem dX1_actByDraw_83 : decode cX1_actByDraw 83 = .ok (.bipush 8, 2) := by decide +kernel
theorem dX1_actByDraw_85 : decode cX1_actByDraw 85 = .ok (.irem, 1) := by decide +kernel
theorem dX1_actByDraw_86 : decode cX1_actByDraw 86 = .ok (.invokevirtual 106, 3) := by decide +kernel
theorem dX1_actByDraw_89 : decode cX1_actByDraw 89 = .ok (.pop, 1) := by decide +kernel
theorem dX1_actByDraw_90 : decode cX1_actByDraw 90 = .ok (.goto 34, 3) := by decide +kernel
theorem dX1_actByDraw_93 : decode cX1_actByDraw 93 = .ok (.aload_n 0, 1) := by decide +kernel
theorem dX1_actByDraw_94 : decode cX1_actByDraw 94 = .ok (.iload_n 3, 1) := by decide +kernel
theorem dX1_actByDraw_95 : decode cX1_actByDraw 95 = .ok (.iconst 2, 1) := by decide +kernel
theorem dX1_actByDraw_96 : decode cX1_actByDraw 96 = .ok (.irem, 1) := by decide +kernel
theorem dX1_actByDraw_97 : decode cX1_actByDraw 97 = .ok (.ifCond .ne 7, 3) := by decide +kernel
theorem dX1_actByDraw_100 : decode cX1_actByDraw 100 = .ok (.iconst 1, 1) := by decide +kernel
theorem dX1_actByDraw_101 : decode cX1_actByDraw 101 = .ok (.goto 4, 3) := by decide +kernel
theorem dX1_actByDraw_104 : decode cX1_actByDraw 104 = .ok (.iconst 4, 1) := by decide +kernel
theorem dX1_actByDraw_105 : decode cX1_actByDraw 105 = .ok (.iload_n 1, 1) := by decide +kernel
theorem dX1_actByDraw_106 : decode cX1_actByDraw 106 = .ok (.iload_n 3, 1) := by decide +kernel
theorem dX1_actByDraw_107 : decode cX1_actByDraw 107 = .ok (.iconst 4, 1) := by decide +kernel
theorem dX1_actByDraw_108 : decode cX1_actByDraw 108 = .ok (.irem, 1) := by decide +kernel
theorem dX1_actByDraw_109 : decode cX1_actByDraw 109 = .ok (.invokevirtual 106, 3) := by decide +kernel
theorem dX1_actByDraw_112 : decode cX1_actByDraw 112 = .ok (.pop, 1) := by decide +kernel
theorem dX1_actByDraw_113 : decode cX1_actByDraw 113 = .ok (.goto 11, 3) := by decide +kernel
theorem dX1_actByDraw_116 : decode cX1_actByDraw 116 = .ok (.aload_n 0, 1) := by decide +kernel
theorem dX1_actByDraw_117 : decode cX1_actByDraw 117 = .ok (.iconst 5, 1) := by decide +kernel
theorem dX1_actByDraw_118 : decode cX1_actByDraw 118 = .ok (.iload_n 1, 1) := by decide +kernel
theorem dX1_actByDraw_119 : decode cX1_actByDraw 119 = .ok (.iconst 0, 1) := by decide +kernel
theorem dX1_actByDraw_120 : decode cX1_actByDraw 120 = .ok (.invokevirtual 106, 3) := by decide +kernel
theorem dX1_actByDraw_123 : decode cX1_actByDraw 123 = .ok (.pop, 1) := by decide +kernel
theorem dX1_actByDraw_124 : decode cX1_actByDraw 124 = .ok (.return_, 1) := by decide +kernel
theorem dX2_init_0 : decode cX2_init 0 = .ok (.aload_n 0, 1) := by decide +kernel
theorem dX2_init_1 : decode cX2_init 1 = .ok (.invokespecial 1, 3) := by decide +kernel
theorem dX2_init_4 : decode cX2_init 4 = .ok (.aload_n 0, 1) := by decide +kernel
theorem dX2_init_5 : decode cX2_init 5 = .ok (.new 7, 3) := by decide +kernel
theorem dX2_init_8 : decode cX2_init 8 = .ok (.dup, 1) := by decide +kernel
theorem dX2_init_9 : decode cX2_init 9 = .ok (.invokespecial 9, 3) := by decide +kernel
theorem dX2_init_12 : decode cX2_init 12 = .ok (.putfield 10, 3) := by decide +kernel
theorem dX2_init_15 : decode cX2_init 15 = .ok (.aload_n 0, 1) := by decide +kernel
theorem dX2_init_16 : decode cX2_init 16 = .ok (.new 16, 3) := by decide +kernel
theorem dX2_init_19 : decode cX2_init 19 = .ok (.dup, 1) := by decide +kernel
theorem dX2_init_20 : decode cX2_init 20 = .ok (.invokespecial 18, 3) := by decide +kernel
theorem dX2_init_23 : decode cX2_init 23 = .ok (.putfield 19, 3) := by decide +kernel
theorem dX2_init_26 : decode cX2_init 26 = .ok (.return_, 1) := by decide +kernel
theorem dX2_keep_0 : decode cX2_keep 0 = .ok (.aload_n 0, 1) := by decide +kernel
theorem dX2_keep_1 : decode cX2_keep 1 = .ok (.getfield 10, 3) := by decide +kernel
theorem dX2_keep_4 : decode cX2_keep 4 = .ok (.aload_n 1, 1) := by decide +kernel
theorem dX2_keep_5 : decode cX2_keep 5 = .ok (.invokevirtual 23, 3) := by decide +kernel
theorem dX2_keep_8 : decode cX2_keep 8 = .ok (.aload_n 0, 1) := by decide +kernel
theorem dX2_keep_9 : decode cX2_keep 9 = .ok (.getfield 19, 3) := by decide +kernel
theorem dX2_keep_12 : decode cX2_keep 12 = .ok (.aload_n 2, 1) := by decide +kernel
theorem dX2_keep_13 : decode cX2_keep 13 = .ok (.invokevirtual 27, 3) := by decide +kernel
theorem dX2_keep_16 : decode cX2_keep 16 = .ok (.aload_n 0, 1) := by decide +kernel
theorem dX2_keep_17 : decode cX2_keep 17 = .ok (.iconst 1, 1) := by decide +kernel
theorem dX2_keep_18 : decode cX2_keep 18 = .ok (.putfield 30, 3) := by decide +kernel
theorem dX2_keep_21 : decode cX2_keep 21 = .ok (.return_, 1) := by decide +kernel
theorem dX2_giveBack_0 : decode cX2_giveBack 0 = .ok (.aload_n 0, 1) := by decide +kernel
theorem dX2_giveBack_1 : decode cX2_giveBack 1 = .ok (.getfield 30, 3) := by decide +kernel
theorem dX2_giveBack_4 : decode cX2_giveBack 4 = .ok (.ifCond .ne 5, 3) := by decide +kernel
theorem dX2_giveBack_7 : decode cX2_giveBack 7 = .ok (.iconst 0, 1) := by decide +kernel
theorem dX2_giveBack_8 : decode cX2_giveBack 8 = .ok (.ireturn, 1) := by decide +kernel
theorem dX2_giveBack_9 : decode cX2_giveBack 9 = .ok (.aload_n 1, 1) := by decide +kernel
theorem dX2_giveBack_10 : decode cX2_giveBack 10 = .ok (.aload_n 0, 1) := by decide +kernel
theorem dX2_giveBack_11 : decode cX2_giveBack 11 = .ok (.getfield 10, 3) := by decide +kernel
theorem dX2_giveBack_14 : decode cX2_giveBack 14 = .ok (.invokevirtual 23, 3) := by decide +kernel
theorem dX2_giveBack_17 : decode cX2_giveBack 17 = .ok (.aload_n 2, 1) := by decide +kernel
theorem dX2_giveBack_18 : decode cX2_giveBack 18 = .ok (.aload_n 0, 1) := by decide +kernel
theorem dX2_giveBack_19 : decode cX2_giveBack 19 = .ok (.getfield 19, 3) := by decide +kernel
theorem dX2_giveBack_22 : decode cX2_giveBack 22 = .ok (.invokevirtual 27, 3) := by decide +kernel
theorem dX2_giveBack_25 : decode cX2_giveBack 25 = .ok (.iconst 1, 1) := by decide +kernel
theorem dX2_giveBack_26 : decode cX2_giveBack 26 = .ok (.ireturn, 1) := by decide +kernel
theorem dX3_init_0 : decode cX3_init 0 = .ok (.aload_n 0, 1) := by decide +kernel
theorem dX3_init_1 : decode cX3_init 1 = .ok (.invokespecial 3, 3) := by decide +kernel
theorem dX3_init_4 : decode cX3_init 4 = .ok (.aload_n 0, 1) := by decide +kernel
theorem dX3_init_5 : decode cX3_init 5 = .ok (.bipush 60, 2) := by decide +kernel
theorem dX3_init_7 : decode cX3_init 7 = .ok (.newarray .int, 2) := by decide +kernel
theorem dX3_init_9 : decode cX3_init 9 = .ok (.putfield 9, 3) := by decide +kernel
theorem dX3_init_12 : decode cX3_init 12 = .ok (.aload_n 0, 1) := by decide +kernel
theorem dX3_init_13 : decode cX3_init 13 = .ok (.new 15, 3) := by decide +kernel
theorem dX3_init_16 : decode cX3_init 16 = .ok (.dup, 1) := by decide +kernel
theorem dX3_init_17 : decode cX3_init 17 = .ok (.invokespecial 17, 3) := by decide +kernel
theorem dX3_init_20 : decode cX3_init 20 = .ok (.putfield 18, 3) := by decide +kernel
theorem dX3_init_23 : decode cX3_init 23 = .ok (.return_, 1) := by decide +kernel
theorem dX3_add_0 : decode cX3_add 0 = .ok (.aload_n 0, 1) := by decide +kernel
theorem dX3_add_1 : decode cX3_add 1 = .ok (.getfield 22, 3) := by decide +kernel
theorem dX3_add_4 : decode cX3_add 4 = .ok (.bipush 60, 2) := by decide +kernel
theorem dX3_add_6 : decode cX3_add 6 = .ok (.if_icmp .lt 5, 3) := by decide +kernel
theorem dX3_add_9 : decode cX3_add 9 = .ok (.iconst 0, 1) := by decide +kernel
theorem dX3_add_10 : decode cX3_add 10 = .ok (.ireturn, 1) := by decide +kernel
theorem dX3_add_11 : decode cX3_add 11 = .ok (.aload_n 0, 1) := by decide +kernel
theorem dX3_add_12 : decode cX3_add 12 = .ok (.getfield 9, 3) := by decide +kernel
theorem dX3_add_15 : decode cX3_add 15 = .ok (.aload_n 0, 1) := by decide +kernel
theorem dX3_add_16 : decode cX3_add 16 = .ok (.getfield 22, 3) := by decide +kernel
theorem dX3_add_19 : decode cX3_add 19 = .ok (.iload_n 1, 1) := by decide +kernel
theorem dX3_add_20 : decode cX3_add 20 = .ok (.iastore, 1) := by decide +kernel
theorem dX3_add_21 : decode cX3_add 21 = .ok (.aload_n 0, 1) := by decide +kernel
theorem dX3_add_22 : decode cX3_add 22 = .ok (.dup, 1) := by decide +kernel
theorem dX3_add_23 : decode cX3_add 23 = .ok (.getfield 22, 3) := by decide +kernel
theorem dX3_add_26 : decode cX3_add 26 = .ok (.iconst 1, 1) := by decide +kernel
theorem dX3_add_27 : decode cX3_add 27 = .ok (.iadd, 1) := by decide +kernel
theorem dX3_add_28 : decode cX3_add 28 = .ok (.putfield 22, 3) := by decide +kernel
theorem dX3_add_31 : decode cX3_add 31 = .ok (.iconst 1, 1) := by decide +kernel
theorem dX3_add_32 : decode cX3_add 32 = .ok (.ireturn, 1) := by decide +kernel
theorem dX3_clear_0 : decode cX3_clear 0 = .ok (.aload_n 0, 1) := by decide +kernel
theorem dX3_clear_1 : decode cX3_clear 1 = .ok (.getfield 22, 3) := by decide +kernel
theorem dX3_clear_4 : decode cX3_clear 4 = .ok (.istore_n 1, 1) := by decide +kernel
theorem dX3_clear_5 : decode cX3_clear 5 = .ok (.aload_n 0, 1) := by decide +kernel
theorem dX3_clear_6 : decode cX3_clear 6 = .ok (.iconst 0, 1) := by decide +kernel
theorem dX3_clear_7 : decode cX3_clear 7 = .ok (.putfield 22, 3) := by decide +kernel
theorem dX3_clear_10 : decode cX3_clear 10 = .ok (.iload_n 1, 1) := by decide +kernel
theorem dX3_clear_11 : decode cX3_clear 11 = .ok (.ireturn, 1) := by decide +kernel
theorem dX3_signAt_0 : decode cX3_signAt 0 = .ok (.iload_n 1, 1) := by decide +kernel
theorem dX3_signAt_1 : decode cX3_signAt 1 = .ok (.ifCond .lt 18, 3) := by decide +kernel
theorem dX3_signAt_4 : decode cX3_signAt 4 = .ok (.iload_n 1, 1) := by decide +kernel
theorem dX3_signAt_5 : decode cX3_signAt 5 = .ok (.bipush 60, 2) := by decide +kernel
theorem dX3_signAt_7 : decode cX3_signAt 7 = .ok (.if_icmp .ge 12, 3) := by decide +kernel
theorem dX3_signAt_10 : decode cX3_signAt 10 = .ok (.aload_n 0, 1) := by decide +kernel
theorem dX3_signAt_11 : decode cX3_signAt 11 = .ok (.getfield 9, 3) := by decide +kernel
theorem dX3_signAt_14 : decode cX3_signAt 14 = .ok (.iload_n 1, 1) := by decide +kernel
theorem dX3_signAt_15 : decode cX3_signAt 15 = .ok (.iaload, 1) := by decide +kernel
theorem dX3_signAt_16 : decode cX3_signAt 16 = .ok (.goto 4, 3) := by decide +kernel
theorem dX3_signAt_19 : decode cX3_signAt 19 = .ok (.iconst 0, 1) := by decide +kernel
theorem dX3_signAt_20 : decode cX3_signAt 20 = .ok (.ireturn, 1) := by decide +kernel
theorem dX3_firstFault_0 : decode cX3_firstFault 0 = .ok (.aload_n 0, 1) := by decide +kernel
theorem dX3_firstFault_1 : decode cX3_firstFault 1 = .ok (.getfield 18, 3) := by decide +kernel
theorem dX3_firstFault_4 : decode cX3_firstFault 4 = .ok (.invokevirtual 26, 3) := by decide +kernel
theorem dX3_firstFault_7 : decode cX3_firstFault 7 = .ok (.iconst 0, 1) := by decide +kernel
theorem dX3_firstFault_8 : decode cX3_firstFault 8 = .ok (.istore_n 1, 1) := by decide +kernel
theorem dX3_firstFault_9 : decode cX3_firstFault 9 = .ok (.iload_n 1, 1) := by decide +kernel
theorem dX3_firstFault_10 : decode cX3_firstFault 10 = .ok (.aload_n 0, 1) := by decide +kernel
theorem dX3_firstFault_11 : decode cX3_firstFault 11 = .ok (.getfield 22, 3) := by decide +kernel
theorem dX3_firstFault_14 : decode cX3_firstFault 14 = .ok (.if_icmp .ge 26, 3) := by decide +kernel
theorem dX3_firstFault_17 : decode cX3_firstFault 17 = .ok (.aload_n 0, 1) := by decide +kernel
theorem dX3_firstFault_18 : decode cX3_firstFault 18 = .ok (.getfield 18, 3) := by decide +kernel
theorem dX3_firstFault_21 : decode cX3_firstFault 21 = .ok (.aload_n 0, 1) := by decide +kernel
theorem dX3_firstFault_22 : decode cX3_firstFault 22 = .ok (.iload_n 1, 1) := by decide +kernel
theorem dX3_firstFault_23 : decode cX3_firstFault 23 = .ok (.invokevirtual 29, 3) := by decide +kernel
theorem dX3_firstFault_26 : decode cX3_firstFault 26 = .ok (.invokevirtual 33, 3) := by decide +kernel
theorem dX3_firstFault_29 : decode cX3_firstFault 29 = .ok (.ifCond .ne 5, 3) := by decide +kernel
theorem dX3_firstFault_32 : decode cX3_firstFault 32 = .ok (.iload_n 1, 1) := by decide +kernel
theorem dX3_firstFault_33 : decode cX3_firstFault 33 = .ok (.ireturn, 1) := by decide +kernel
theorem dX3_firstFault_34 : decode cX3_firstFault 34 = .ok (.iinc 1 1, 3) := by decide +kernel
theorem dX3_firstFault_37 : decode cX3_firstFault 37 = .ok (.goto (-28), 3) := by decide +kernel
theorem dX3_firstFault_40 : decode cX3_firstFault 40 = .ok (.aload_n 0, 1) := by decide +kernel
theorem dX3_firstFault_41 : decode cX3_firstFault 41 = .ok (.getfield 18, 3) := by decide +kernel
theorem dX3_firstFault_44 : decode cX3_firstFault 44 = .ok (.invokevirtual 37, 3) := by decide +kernel
theorem dX3_firstFault_47 : decode cX3_firstFault 47 = .ok (.ifCond .eq 8, 3) := by decide +kernel
theorem dX3_firstFault_50 : decode cX3_firstFault 50 = .ok (.bipush (-6), 2) := by decide +kernel
theorem dX3_firstFault_52 : decode cX3_firstFault 52 = .ok (.goto 7, 3) := by decide +kernel
theorem dX3_firstFault_55 : decode cX3_firstFault 55 = .ok (.aload_n 0, 1) := by decide +kernel
theorem dX3_firstFault_56 : decode cX3_firstFault 56 = .ok (.getfield 22, 3) := by decide +kernel
theorem dX3_firstFault_59 : decode cX3_firstFault 59 = .ok (.ireturn, 1) := by decide +kernel
theorem dX4_init_0 : decode cX4_init 0 = .ok (.aload_n 0, 1) := by decide +kernel
theorem dX4_init_1 : decode cX4_init 1 = .ok (.invokespecial 3, 3) := by decide +kernel
theorem dX4_init_4 : decode cX4_init 4 = .ok (.return_, 1) := by decide +kernel
theorem dX4_begin_0 : decode cX4_begin 0 = .ok (.aload_n 0, 1) := by decide +kernel
theorem dX4_begin_1 : decode cX4_begin 1 = .ok (.iconst 0, 1) := by decide +kernel
theorem dX4_begin_2 : decode cX4_begin 2 = .ok (.putfield 11, 3) := by decide +kernel
theorem dX4_begin_5 : decode cX4_begin 5 = .ok (.return_, 1) := by decide +kernel
theorem dX4_isBetweenActs_0 : decode cX4_isBetweenActs 0 = .ok (.aload_n 0, 1) := by decide +kernel
theorem dX4_isBetweenActs_1 : decode cX4_isBetweenActs 1 = .ok (.getfield 11, 3) := by decide +kernel
theorem dX4_isBetweenActs_4 : decode cX4_isBetweenActs 4 = .ok (.ifCond .ne 7, 3) := by decide +kernel
theorem dX4_isBetweenActs_7 : decode cX4_isBetweenActs 7 = .ok (.iconst 1, 1) := by decide +kernel
theorem dX4_isBetweenActs_8 : decode cX4_isBetweenActs 8 = .ok (.goto 4, 3) := by decide +kernel
theorem dX4_isBetweenActs_11 : decode cX4_isBetweenActs 11 = .ok (.iconst 0, 1) := by decide +kernel
theorem dX4_isBetweenActs_12 : decode cX4_isBetweenActs 12 = .ok (.ireturn, 1) := by decide +kernel
theorem dX4_take_0 : decode cX4_take 0 = .ok (.aload_n 0, 1) := by decide +kernel
theorem dX4_take_1 : decode cX4_take 1 = .ok (.getfield 11, 3) := by decide +kernel
theorem dX4_take_4 : decode cX4_take 4 = .ok (.tableswitch 60 0 2 #[28, 34, 40], 28) := by decide +kernel
theorem dX4_take_32 : decode cX4_take 32 = .ok (.aload_n 0, 1) := by decide +kernel
theorem dX4_take_33 : decode cX4_take 33 = .ok (.iload_n 1, 1) := by decide +kernel
theorem dX4_take_34 : decode cX4_take 34 = .ok (.invokevirtual 15, 3) := by decide +kernel
theorem dX4_take_37 : decode cX4_take 37 = .ok (.ireturn, 1) := by decide +kernel
theorem dX4_take_38 : decode cX4_take 38 = .ok (.aload_n 0, 1) := by decide +kernel
theorem dX4_take_39 : decode cX4_take 39 = .ok (.iload_n 1, 1) := by decide +kernel
theorem dX4_take_40 : decode cX4_take 40 = .ok (.invokevirtual 19, 3) := by decide +kernel
theorem dX4_take_43 : decode cX4_take 43 = .ok (.ireturn, 1) := by decide +kernel
theorem dX4_take_44 : decode cX4_take 44 = .ok (.aload_n 0, 1) := by decide +kernel
theorem dX4_take_45 : decode cX4_take 45 = .ok (.aload_n 0, 1) := by decide +kernel
theorem dX4_take_46 : decode cX4_take 46 = .ok (.getfield 22, 3) := by decide +kernel
theorem dX4_take_49 : decode cX4_take 49 = .ok (.iload_n 1, 1) := by decide +kernel
theorem dX4_take_50 : decode cX4_take 50 = .ok (.bipush 65, 2) := by decide +kernel
theorem dX4_take_52 : decode cX4_take 52 = .ok (.isub, 1) := by decide +kernel
theorem dX4_take_53 : decode cX4_take 53 = .ok (.iload_n 1, 1) := by decide +kernel
theorem dX4_take_54 : decode cX4_take 54 = .ok (.bipush 65, 2) := by decide +kernel
theorem dX4_take_56 : decode cX4_take 56 = .ok (.isub, 1) := by decide +kernel
theorem dX4_take_57 : decode cX4_take 57 = .ok (.invokestatic 25, 3) := by decide +kernel
theorem dX4_take_60 : decode cX4_take 60 = .ok (.invokevirtual 28, 3) := by decide +kernel
theorem dX4_take_63 : decode cX4_take 63 = .ok (.ireturn, 1) := by decide +kernel
theorem dX4_take_64 : decode cX4_take 64 = .ok (.aload_n 0, 1) := by decide +kernel
theorem dX4_take_65 : decode cX4_take 65 = .ok (.iconst 4, 1) := by decide +kernel
theorem dX4_take_66 : decode cX4_take 66 = .ok (.iload_n 1, 1) := by decide +kernel
theorem dX4_take_67 : decode cX4_take 67 = .ok (.bipush 48, 2) := by decide +kernel
theorem dX4_take_69 : decode cX4_take 69 = .ok (.isub, 1) := by decide +kernel
theorem dX4_take_70 : decode cX4_take 70 = .ok (.iload_n 1, 1) := by decide +kernel
theorem dX4_take_71 : decode cX4_take 71 = .ok (.bipush 48, 2) := by decide +kernel
theorem dX4_take_73 : decode cX4_take 73 = .ok (.isub, 1) := by decide +kernel
theorem dX4_take_74 : decode cX4_take 74 = .ok (.invokestatic 32, 3) := by decide +kernel
theorem dX4_take_77 : decode cX4_take 77 = .ok (.invokevirtual 28, 3) := by decide +kernel
theorem dX4_take_80 : decode cX4_take 80 = .ok (.ireturn, 1) := by decide +kernel
theorem dX4_takeFirst_0 : decode cX4_takeFirst 0 = .ok (.iload_n 1, 1) := by decide +kernel
theorem dX4_takeFirst_1 : decode cX4_takeFirst 1 = .ok (.bipush 46, 2) := by decide +kernel
theorem dX4_takeFirst_3 : decode cX4_takeFirst 3 = .ok (.if_icmp .ne 11, 3) := by decide +kernel
theorem dX4_takeFirst_6 : decode cX4_takeFirst 6 = .ok (.aload_n 0, 1) := by decide +kernel
theorem dX4_takeFirst_7 : decode cX4_takeFirst 7 = .ok (.iconst 5, 1) := by decide +kernel
theorem dX4_takeFirst_8 : decode cX4_takeFirst 8 = .ok (.iconst 0, 1) := by decide +kernel
theorem dX4_takeFirst_9 : decode cX4_takeFirst 9 = .ok (.iconst 1, 1) := by decide +kernel
theorem dX4_takeFirst_10 : decode cX4_takeFirst 10 = .ok (.invokevirtual 28, 3) := by decide +kernel
theorem dX4_takeFirst_13 : decode cX4_takeFirst 13 = .ok (.ireturn, 1) := by decide +kernel
theorem dX4_takeFirst_14 : decode cX4_takeFirst 14 = .ok (.iload_n 1, 1) := by decide +kernel
theorem dX4_takeFirst_15 : decode cX4_takeFirst 15 = .ok (.bipush 99, 2) := by decide +kernel
theorem dX4_takeFirst_17 : decode cX4_takeFirst 17 = .ok (.if_icmp .ne 10, 3) := by decide +kernel
theorem dX4_takeFirst_20 : decode cX4_takeFirst 20 = .ok (.aload_n 0, 1) := by decide +kernel
theorem dX4_takeFirst_21 : decode cX4_takeFirst 21 = .ok (.iconst 3, 1) := by decide +kernel
theorem dX4_takeFirst_22 : decode cX4_takeFirst 22 = .ok (.putfield 11, 3) := by decide +kernel
theorem dX4_takeFirst_25 : decode cX4_takeFirst 25 = .ok (.iconst 1, 1) := by decide +kernel
theorem dX4_takeFirst_26 : decode cX4_takeFirst 26 = .ok (.ireturn, 1) := by decide +kernel
theorem dX4_takeFirst_27 : decode cX4_takeFirst 27 = .ok (.aload_n 0, 1) := by decide +kernel
theorem dX4_takeFirst_28 : decode cX4_takeFirst 28 = .ok (.iload_n 1, 1) := by decide +kernel
theorem dX4_takeFirst_29 : decode cX4_takeFirst 29 = .ok (.bipush 65, 2) := by decide +kernel
theorem dX4_takeFirst_31 : decode cX4_takeFirst 31 = .ok (.isub, 1) := by decide +kernel
theorem dX4_takeFirst_32 : decode cX4_takeFirst 32 = .ok (.putfield 35, 3) := by decide +kernel
theorem dX4_takeFirst_35 : decode cX4_takeFirst 35 = .ok (.aload_n 0, 1) := by decide +kernel
theorem dX4_takeFirst_36 : decode cX4_takeFirst 36 = .ok (.iconst 1, 1) := by decide +kernel
theorem dX4_takeFirst_37 : decode cX4_takeFirst 37 = .ok (.putfield 11, 3) := by decide +kernel
theorem dX4_takeFirst_40 : decode cX4_takeFirst 40 = .ok (.aload_n 0, 1) := by decide +kernel
theorem dX4_takeFirst_41 : decode cX4_takeFirst 41 = .ok (.getfield 35, 3) := by decide +kernel
theorem dX4_takeFirst_44 : decode cX4_takeFirst 44 = .ok (.invokestatic 25, 3) := by decide +kernel
theorem dX4_takeFirst_47 : decode cX4_takeFirst 47 = .ok (.ireturn, 1) := by decide +kernel
theorem dX4_takeDeed_0 : decode cX4_takeDeed 0 = .ok (.iload_n 1, 1) := by decide +kernel
theorem dX4_takeDeed_1 : decode cX4_takeDeed 1 = .ok (.lookupswitch 71 #[(36, 65), (43, 51), (45, 43), (62, 59)], 43) := by decide +kernel
theorem dX4_takeDeed_44 : decode cX4_takeDeed 44 = .ok (.aload_n 0, 1) := by decide +kernel
theorem dX4_takeDeed_45 : decode cX4_takeDeed 45 = .ok (.iconst 0, 1) := by decide +kernel
theorem dX4_takeDeed_46 : decode cX4_takeDeed 46 = .ok (.iconst (-1), 1) := by decide +kernel
theorem dX4_takeDeed_47 : decode cX4_takeDeed 47 = .ok (.iconst 1, 1) := by decide +kernel
theorem dX4_takeDeed_48 : decode cX4_takeDeed 48 = .ok (.invokevirtual 28, 3) := by decide +kernel
theorem dX4_takeDeed_51 : decode cX4_takeDeed 51 = .ok (.ireturn, 1) := by decide +kernel
theorem dX4_takeDeed_52 : decode cX4_takeDeed 52 = .ok (.aload_n 0, 1) := by decide +kernel
theorem dX4_takeDeed_53 : decode cX4_takeDeed 53 = .ok (.iconst 1, 1) := by decide +kernel
theorem dX4_takeDeed_54 : decode cX4_takeDeed 54 = .ok (.iconst 0, 1) := by decide +kernel
theorem dX4_takeDeed_55 : decode cX4_takeDeed 55 = .ok (.iconst 1, 1) := by decide +kernel
theorem dX4_takeDeed_56 : decode cX4_takeDeed 56 = .ok (.invokevirtual 28, 3) := by decide +kernel
theorem dX4_takeDeed_59 : decode cX4_takeDeed 59 = .ok (.ireturn, 1) := by decide +kernel
theorem dX4_takeDeed_60 : decode cX4_takeDeed 60 = .ok (.aload_n 0, 1) := by decide +kernel
theorem dX4_takeDeed_61 : decode cX4_takeDeed 61 = .ok (.iconst 2, 1) := by decide +kernel
theorem dX4_takeDeed_62 : decode cX4_takeDeed 62 = .ok (.invokevirtual 38, 3) := by decide +kernel
theorem dX4_takeDeed_65 : decode cX4_takeDeed 65 = .ok (.ireturn, 1) := by decide +kernel
theorem dX4_takeDeed_66 : decode cX4_takeDeed 66 = .ok (.aload_n 0, 1) := by decide +kernel
theorem dX4_takeDeed_67 : decode cX4_takeDeed 67 = .ok (.iconst 3, 1) := by decide +kernel
theorem dX4_takeDeed_68 : decode cX4_takeDeed 68 = .ok (.invokevirtual 38, 3) := by decide +kernel
theorem dX4_takeDeed_71 : decode cX4_takeDeed 71 = .ok (.ireturn, 1) := by decide +kernel
theorem dX4_takeDeed_72 : decode cX4_takeDeed 72 = .ok (.aload_n 0, 1) := by decide +kernel
theorem dX4_takeDeed_73 : decode cX4_takeDeed 73 = .ok (.iconst 0, 1) := by decide +kernel
theorem dX4_takeDeed_74 : decode cX4_takeDeed 74 = .ok (.iload_n 1, 1) := by decide +kernel
theorem dX4_takeDeed_75 : decode cX4_takeDeed 75 = .ok (.bipush 48, 2) := by decide +kernel
theorem dX4_takeDeed_77 : decode cX4_takeDeed 77 = .ok (.isub, 1) := by decide +kernel
theorem dX4_takeDeed_78 : decode cX4_takeDeed 78 = .ok (.iload_n 1, 1) := by decide +kernel
theorem dX4_takeDeed_79 : decode cX4_takeDeed 79 = .ok (.bipush 48, 2) := by decide +kernel
theorem dX4_takeDeed_81 : decode cX4_takeDeed 81 = .ok (.isub, 1) := by decide +kernel
theorem dX4_takeDeed_82 : decode cX4_takeDeed 82 = .ok (.invokestatic 41, 3) := by decide +kernel
theorem dX4_takeDeed_85 : decode cX4_takeDeed 85 = .ok (.invokevirtual 28, 3) := by decide +kernel
theorem dX4_takeDeed_88 : decode cX4_takeDeed 88 = .ok (.ireturn, 1) := by decide +kernel
theorem dX4_awaitOther_0 : decode cX4_awaitOther 0 = .ok (.aload_n 0, 1) := by decide +kernel
theorem dX4_awaitOther_1 : decode cX4_awaitOther 1 = .ok (.iload_n 1, 1) := by decide +kernel
theorem dX4_awaitOther_2 : decode cX4_awaitOther 2 = .ok (.putfield 22, 3) := by decide +kernel
theorem dX4_awaitOther_5 : decode cX4_awaitOther 5 = .ok (.aload_n 0, 1) := by decide +kernel
theorem dX4_awaitOther_6 : decode cX4_awaitOther 6 = .ok (.iconst 2, 1) := by decide +kernel
theorem dX4_awaitOther_7 : decode cX4_awaitOther 7 = .ok (.putfield 11, 3) := by decide +kernel
theorem dX4_awaitOther_10 : decode cX4_awaitOther 10 = .ok (.iconst 1, 1) := by decide +kernel
theorem dX4_awaitOther_11 : decode cX4_awaitOther 11 = .ok (.ireturn, 1) := by decide +kernel
theorem dX4_end_0 : decode cX4_end 0 = .ok (.aload_n 0, 1) := by decide +kernel
theorem dX4_end_1 : decode cX4_end 1 = .ok (.iload_n 1, 1) := by decide +kernel
theorem dX4_end_2 : decode cX4_end 2 = .ok (.putfield 22, 3) := by decide +kernel
theorem dX4_end_5 : decode cX4_end 5 = .ok (.aload_n 0, 1) := by decide +kernel
theorem dX4_end_6 : decode cX4_end 6 = .ok (.iload_n 2, 1) := by decide +kernel
theorem dX4_end_7 : decode cX4_end 7 = .ok (.putfield 44, 3) := by decide +kernel
theorem dX4_end_10 : decode cX4_end 10 = .ok (.aload_n 0, 1) := by decide +kernel
theorem dX4_end_11 : decode cX4_end 11 = .ok (.iconst 0, 1) := by decide +kernel
theorem dX4_end_12 : decode cX4_end 12 = .ok (.putfield 11, 3) := by decide +kernel
theorem dX4_end_15 : decode cX4_end 15 = .ok (.iload_n 3, 1) := by decide +kernel
theorem dX4_end_16 : decode cX4_end 16 = .ok (.ireturn, 1) := by decide +kernel
theorem dX5_init_0 : decode cX5_init 0 = .ok (.aload_n 0, 1) := by decide +kernel
theorem dX5_init_1 : decode cX5_init 1 = .ok (.invokespecial 3, 3) := by decide +kernel
theorem dX5_init_4 : decode cX5_init 4 = .ok (.aload_n 0, 1) := by decide +kernel
theorem dX5_init_5 : decode cX5_init 5 = .ok (.bipush 9, 2) := by decide +kernel
theorem dX5_init_7 : decode cX5_init 7 = .ok (.newarray .int, 2) := by decide +kernel
theorem dX5_init_9 : decode cX5_init 9 = .ok (.putfield 9, 3) := by decide +kernel
theorem dX5_init_12 : decode cX5_init 12 = .ok (.return_, 1) := by decide +kernel
theorem dX5_read_0 : decode cX5_read 0 = .ok (.iload_n 1, 1) := by decide +kernel
theorem dX5_read_1 : decode cX5_read 1 = .ok (.ifCond .lt 13, 3) := by decide +kernel
theorem dX5_read_4 : decode cX5_read 4 = .ok (.iload_n 2, 1) := by decide +kernel
theorem dX5_read_5 : decode cX5_read 5 = .ok (.iconst 1, 1) := by decide +kernel
theorem dX5_read_6 : decode cX5_read 6 = .ok (.bipush 9, 2) := by decide +kernel
theorem dX5_read_8 : decode cX5_read 8 = .ok (.invokestatic 15, 3) := by decide +kernel
theorem dX5_read_11 : decode cX5_read 11 = .ok (.ifCond .ne 5, 3) := by decide +kernel
theorem dX5_read_14 : decode cX5_read 14 = .ok (.iconst 0, 1) := by decide +kernel
theorem dX5_read_15 : decode cX5_read 15 = .ok (.ireturn, 1) := by decide +kernel
theorem dX5_read_16 : decode cX5_read 16 = .ok (.aload_n 0, 1) := by decide +kernel
theorem dX5_read_17 : decode cX5_read 17 = .ok (.iload_n 2, 1) := by decide +kernel
theorem dX5_read_18 : decode cX5_read 18 = .ok (.putfield 19, 3) := by decide +kernel
theorem dX5_read_21 : decode cX5_read 21 = .ok (.iload_n 1, 1) := by decide +kernel
theorem dX5_read_22 : decode cX5_read 22 = .ok (.istore_n 3, 1) := by decide +kernel
theorem dX5_read_23 : decode cX5_read 23 = .ok (.iload_n 2, 1) := by decide +kernel
theorem dX5_read_24 : decode cX5_read 24 = .ok (.iconst 1, 1) := by decide +kernel
theorem dX5_read_25 : decode cX5_read 25 = .ok (.isub, 1) := by decide +kernel
theorem dX5_read_26 : decode cX5_read 26 = .ok (.istore 4, 2) := by decide +kernel
theorem dX5_read_28 : decode cX5_read 28 = .ok (.iload 4, 2) := by decide +kernel
theorem dX5_read_30 : decode cX5_read 30 = .ok (.ifCond .lt 25, 3) := by decide +kernel
theorem dX5_read_33 : decode cX5_read 33 = .ok (.aload_n 0, 1) := by decide +kernel
theorem dX5_read_34 : decode cX5_read 34 = .ok (.getfield 9, 3) := by decide +kernel
theorem dX5_read_37 : decode cX5_read 37 = .ok (.iload 4, 2) := by decide +kernel
theorem dX5_read_39 : decode cX5_read 39 = .ok (.iload_n 3, 1) := by decide +kernel
theorem dX5_read_40 : decode cX5_read 40 = .ok (.bipush 10, 2) := by decide +kernel
theorem dX5_read_42 : decode cX5_read 42 = .ok (.irem, 1) := by decide +kernel
theorem dX5_read_43 : decode cX5_read 43 = .ok (.iastore, 1) := by decide +kernel
theorem dX5_read_44 : decode cX5_read 44 = .ok (.iload_n 3, 1) := by decide +kernel
theorem dX5_read_45 : decode cX5_read 45 = .ok (.bipush 10, 2) := by decide +kernel
theorem dX5_read_47 : decode cX5_read 47 = .ok (.idiv, 1) := by decide +kernel
theorem dX5_read_48 : decode cX5_read 48 = .ok (.istore_n 3, 1) := by decide +kernel
theorem dX5_read_49 : decode cX5_read 49 = .ok (.iinc 4 (-1), 3) := by decide +kernel
theorem dX5_read_52 : decode cX5_read 52 = .ok (.goto (-24), 3) := by decide +kernel
theorem dX5_read_55 : decode cX5_read 55 = .ok (.iload_n 3, 1) := by decide +kernel
theorem dX5_read_56 : decode cX5_read 56 = .ok (.ifCond .ne 7, 3) := by decide +kernel
theorem dX5_read_59 : decode cX5_read 59 = .ok (.iconst 1, 1) := by decide +kernel
theorem dX5_read_60 : decode cX5_read 60 = .ok (.goto 4, 3) := by decide +kernel
theorem dX5_read_63 : decode cX5_read 63 = .ok (.iconst 0, 1) := by decide +kernel
theorem dX5_read_64 : decode cX5_read 64 = .ok (.ireturn, 1) := by decide +kernel
theorem dX5_digit_0 : decode cX5_digit 0 = .ok (.iload_n 1, 1) := by decide +kernel
theorem dX5_digit_1 : decode cX5_digit 1 = .ok (.iconst 0, 1) := by decide +kernel
theorem dX5_digit_2 : decode cX5_digit 2 = .ok (.bipush 8, 2) := by decide +kernel
theorem dX5_digit_4 : decode cX5_digit 4 = .ok (.invokestatic 15, 3) := by decide +kernel
theorem dX5_digit_7 : decode cX5_digit 7 = .ok (.ifCond .eq 12, 3) := by decide +kernel
theorem dX5_digit_10 : decode cX5_digit 10 = .ok (.aload_n 0, 1) := by decide +kernel
theorem dX5_digit_11 : decode cX5_digit 11 = .ok (.getfield 9, 3) := by decide +kernel
theorem dX5_digit_14 : decode cX5_digit 14 = .ok (.iload_n 1, 1) := by decide +kernel
theorem dX5_digit_15 : decode cX5_digit 15 = .ok (.iaload, 1) := by decide +kernel
theorem dX5_digit_16 : decode cX5_digit 16 = .ok (.goto 4, 3) := by decide +kernel
theorem dX5_digit_19 : decode cX5_digit 19 = .ok (.iconst 0, 1) := by decide +kernel
theorem dX5_digit_20 : decode cX5_digit 20 = .ok (.ireturn, 1) := by decide +kernel
theorem dX6_init_0 : decode cX6_init 0 = .ok (.aload_n 0, 1) := by decide +kernel
theorem dX6_init_1 : decode cX6_init 1 = .ok (.invokespecial 3, 3) := by decide +kernel
theorem dX6_init_4 : decode cX6_init 4 = .ok (.aload_n 0, 1) := by decide +kernel
theorem dX6_init_5 : decode cX6_init 5 = .ok (.bipush 8, 2) := by decide +kernel
theorem dX6_init_7 : decode cX6_init 7 = .ok (.newarray .int, 2) := by decide +kernel
theorem dX6_init_9 : decode cX6_init 9 = .ok (.putfield 9, 3) := by decide +kernel
theorem dX6_init_12 : decode cX6_init 12 = .ok (.aload_n 0, 1) := by decide +kernel
theorem dX6_init_13 : decode cX6_init 13 = .ok (.bipush 8, 2) := by decide +kernel
theorem dX6_init_15 : decode cX6_init 15 = .ok (.newarray .int, 2) := by decide +kernel
theorem dX6_init_17 : decode cX6_init 17 = .ok (.putfield 15, 3) := by decide +kernel
theorem dX6_init_20 : decode cX6_init 20 = .ok (.aload_n 0, 1) := by decide +kernel
theorem dX6_init_21 : decode cX6_init 21 = .ok (.bipush 17, 2) := by decide +kernel
theorem dX6_init_23 : decode cX6_init 23 = .ok (.newarray .int, 2) := by decide +kernel
theorem dX6_init_25 : decode cX6_init 25 = .ok (.putfield 18, 3) := by decide +kernel
theorem dX6_init_28 : decode cX6_init 28 = .ok (.return_, 1) := by decide +kernel
theorem dX6_add_0 : decode cX6_add 0 = .ok (.aload_n 0, 1) := by decide +kernel
theorem dX6_add_1 : decode cX6_add 1 = .ok (.getfield 21, 3) := by decide +kernel
theorem dX6_add_4 : decode cX6_add 4 = .ok (.bipush 8, 2) := by decide +kernel
theorem dX6_add_6 : decode cX6_add 6 = .ok (.if_icmp .lt 5, 3) := by decide +kernel
theorem dX6_add_9 : decode cX6_add 9 = .ok (.iconst 0, 1) := by decide +kernel
theorem dX6_add_10 : decode cX6_add 10 = .ok (.ireturn, 1) := by decide +kernel
theorem dX6_add_11 : decode cX6_add 11 = .ok (.aload_n 0, 1) := by decide +kernel
theorem dX6_add_12 : decode cX6_add 12 = .ok (.getfield 9, 3) := by decide +kernel
theorem dX6_add_15 : decode cX6_add 15 = .ok (.aload_n 0, 1) := by decide +kernel
theorem dX6_add_16 : decode cX6_add 16 = .ok (.getfield 21, 3) := by decide +kernel
theorem dX6_add_19 : decode cX6_add 19 = .ok (.iload_n 1, 1) := by decide +kernel
theorem dX6_add_20 : decode cX6_add 20 = .ok (.iastore, 1) := by decide +kernel
theorem dX6_add_21 : decode cX6_add 21 = .ok (.aload_n 0, 1) := by decide +kernel
theorem dX6_add_22 : decode cX6_add 22 = .ok (.getfield 15, 3) := by decide +kernel
theorem dX6_add_25 : decode cX6_add 25 = .ok (.aload_n 0, 1) := by decide +kernel
theorem dX6_add_26 : decode cX6_add 26 = .ok (.getfield 21, 3) := by decide +kernel
theorem dX6_add_29 : decode cX6_add 29 = .ok (.iload_n 2, 1) := by decide +kernel
theorem dX6_add_30 : decode cX6_add 30 = .ok (.iastore, 1) := by decide +kernel
theorem dX6_add_31 : decode cX6_add 31 = .ok (.aload_n 0, 1) := by decide +kernel
theorem dX6_add_32 : decode cX6_add 32 = .ok (.dup, 1) := by decide +kernel
theorem dX6_add_33 : decode cX6_add 33 = .ok (.getfield 21, 3) := by decide +kernel
theorem dX6_add_36 : decode cX6_add 36 = .ok (.iconst 1, 1) := by decide +kernel
theorem dX6_add_37 : decode cX6_add 37 = .ok (.iadd, 1) := by decide +kernel
theorem dX6_add_38 : decode cX6_add 38 = .ok (.putfield 21, 3) := by decide +kernel
theorem dX6_add_41 : decode cX6_add 41 = .ok (.iconst 1, 1) := by decide +kernel
theorem dX6_add_42 : decode cX6_add 42 = .ok (.ireturn, 1) := by decide +kernel
theorem dX6_clear_0 : decode cX6_clear 0 = .ok (.aload_n 0, 1) := by decide +kernel
theorem dX6_clear_1 : decode cX6_clear 1 = .ok (.getfield 21, 3) := by decide +kernel
theorem dX6_clear_4 : decode cX6_clear 4 = .ok (.istore_n 1, 1) := by decide +kernel
theorem dX6_clear_5 : decode cX6_clear 5 = .ok (.aload_n 0, 1) := by decide +kernel
theorem dX6_clear_6 : decode cX6_clear 6 = .ok (.iconst 0, 1) := by decide +kernel
theorem dX6_clear_7 : decode cX6_clear 7 = .ok (.putfield 21, 3) := by decide +kernel
theorem dX6_clear_10 : decode cX6_clear 10 = .ok (.iload_n 1, 1) := by decide +kernel
theorem dX6_clear_11 : decode cX6_clear 11 = .ok (.ireturn, 1) := by decide +kernel
theorem dX6_copyFrom_0 : decode cX6_copyFrom 0 = .ok (.iconst 0, 1) := by decide +kernel
theorem dX6_copyFrom_1 : decode cX6_copyFrom 1 = .ok (.istore_n 2, 1) := by decide +kernel
theorem dX6_copyFrom_2 : decode cX6_copyFrom 2 = .ok (.iload_n 2, 1) := by decide +kernel
theorem dX6_copyFrom_3 : decode cX6_copyFrom 3 = .ok (.bipush 8, 2) := by decide +kernel
theorem dX6_copyFrom_5 : decode cX6_copyFrom 5 = .ok (.if_icmp .ge 33, 3) := by decide +kernel
theorem dX6_copyFrom_8 : decode cX6_copyFrom 8 = .ok (.aload_n 0, 1) := by decide +kernel
theorem dX6_copyFrom_9 : decode cX6_copyFrom 9 = .ok (.getfield 9, 3) := by decide +kernel
theorem dX6_copyFrom_12 : decode cX6_copyFrom 12 = .ok (.iload_n 2, 1) := by decide +kernel
theorem dX6_copyFrom_13 : decode cX6_copyFrom 13 = .ok (.aload_n 1, 1) := by decide +kernel
theorem dX6_copyFrom_14 : decode cX6_copyFrom 14 = .ok (.getfield 9, 3) := by decide +kernel
theorem dX6_copyFrom_17 : decode cX6_copyFrom 17 = .ok (.iload_n 2, 1) := by decide +kernel
theorem dX6_copyFrom_18 : decode cX6_copyFrom 18 = .ok (.iaload, 1) := by decide +kernel
theorem dX6_copyFrom_19 : decode cX6_copyFrom 19 = .ok (.iastore, 1) := by decide +kernel
theorem dX6_copyFrom_20 : decode cX6_copyFrom 20 = .ok (.aload_n 0, 1) := by decide +kernel
theorem dX6_copyFrom_21 : decode cX6_copyFrom 21 = .ok (.getfield 15, 3) := by decide +kernel
theorem dX6_copyFrom_24 : decode cX6_copyFrom 24 = .ok (.iload_n 2, 1) := by decide +kernel
theorem dX6_copyFrom_25 : decode cX6_copyFrom 25 = .ok (.aload_n 1, 1) := by decide +kernel
theorem dX6_copyFrom_26 : decode cX6_copyFrom 26 = .ok (.getfield 15, 3) := by decide +kernel
theorem dX6_copyFrom_29 : decode cX6_copyFrom 29 = .ok (.iload_n 2, 1) := by decide +kernel
theorem dX6_copyFrom_30 : decode cX6_copyFrom 30 = .ok (.iaload, 1) := by decide +kernel
theorem dX6_copyFrom_31 : decode cX6_copyFrom 31 = .ok (.iastore, 1) := by decide +kernel
theorem dX6_copyFrom_32 : decode cX6_copyFrom 32 = .ok (.iinc 2 1, 3) := by decide +kernel
theorem dX6_copyFrom_35 : decode cX6_copyFrom 35 = .ok (.goto (-33), 3) := by decide +kernel
theorem dX6_copyFrom_38 : decode cX6_copyFrom 38 = .ok (.aload_n 0, 1) := by decide +kernel
theorem dX6_copyFrom_39 : decode cX6_copyFrom 39 = .ok (.aload_n 1, 1) := by decide +kernel
theorem dX6_copyFrom_40 : decode cX6_copyFrom 40 = .ok (.getfield 21, 3) := by decide +kernel
theorem dX6_copyFrom_43 : decode cX6_copyFrom 43 = .ok (.putfield 21, 3) := by decide +kernel
theorem dX6_copyFrom_46 : decode cX6_copyFrom 46 = .ok (.return_, 1) := by decide +kernel
theorem dX6_answerFor_0 : decode cX6_answerFor 0 = .ok (.iload_n 0, 1) := by decide +kernel
theorem dX6_answerFor_1 : decode cX6_answerFor 1 = .ok (.ifCond .ne 5, 3) := by decide +kernel
theorem dX6_answerFor_4 : decode cX6_answerFor 4 = .ok (.iconst 2, 1) := by decide +kernel
theorem dX6_answerFor_5 : decode cX6_answerFor 5 = .ok (.ireturn, 1) := by decide +kernel
theorem dX6_answerFor_6 : decode cX6_answerFor 6 = .ok (.iload_n 0, 1) := by decide +kernel
theorem dX6_answerFor_7 : decode cX6_answerFor 7 = .ok (.ifCond .le 7, 3) := by decide +kernel
theorem dX6_answerFor_10 : decode cX6_answerFor 10 = .ok (.iconst 0, 1) := by decide +kernel
theorem dX6_answerFor_11 : decode cX6_answerFor 11 = .ok (.goto 4, 3) := by decide +kernel
theorem dX6_answerFor_14 : decode cX6_answerFor 14 = .ok (.iconst 1, 1) := by decide +kernel
theorem dX6_answerFor_15 : decode cX6_answerFor 15 = .ok (.ireturn, 1) := by decide +kernel
theorem dX6_fits_0 : decode cX6_fits 0 = .ok (.iconst 0, 1) := by decide +kernel
theorem dX6_fits_1 : decode cX6_fits 1 = .ok (.istore_n 2, 1) := by decide +kernel
theorem dX6_fits_2 : decode cX6_fits 2 = .ok (.iload_n 2, 1) := by decide +kernel
theorem dX6_fits_3 : decode cX6_fits 3 = .ok (.aload_n 0, 1) := by decide +kernel
theorem dX6_fits_4 : decode cX6_fits 4 = .ok (.getfield 21, 3) := by decide +kernel
theorem dX6_fits_7 : decode cX6_fits 7 = .ok (.if_icmp .ge 37, 3) := by decide +kernel
theorem dX6_fits_10 : decode cX6_fits 10 = .ok (.iload_n 2, 1) := by decide +kernel
theorem dX6_fits_11 : decode cX6_fits 11 = .ok (.bipush 8, 2) := by decide +kernel
theorem dX6_fits_13 : decode cX6_fits 13 = .ok (.if_icmp .ge 31, 3) := by decide +kernel
theorem dX6_fits_16 : decode cX6_fits 16 = .ok (.iload_n 1, 1) := by decide +kernel
theorem dX6_fits_17 : decode cX6_fits 17 = .ok (.aload_n 0, 1) := by decide +kernel
theorem dX6_fits_18 : decode cX6_fits 18 = .ok (.getfield 9, 3) := by decide +kernel
theorem dX6_fits_21 : decode cX6_fits 21 = .ok (.iload_n 2, 1) := by decide +kernel
theorem dX6_fits_22 : decode cX6_fits 22 = .ok (.iaload, 1) := by decide +kernel
theorem dX6_fits_23 : decode cX6_fits 23 = .ok (.iadd, 1) := by decide +kernel
theorem dX6_fits_24 : decode cX6_fits 24 = .ok (.invokestatic 25, 3) := by decide +kernel
theorem dX6_fits_27 : decode cX6_fits 27 = .ok (.aload_n 0, 1) := by decide +kernel
theorem dX6_fits_28 : decode cX6_fits 28 = .ok (.getfield 15, 3) := by decide +kernel
theorem dX6_fits_31 : decode cX6_fits 31 = .ok (.iload_n 2, 1) := by decide +kernel
theorem dX6_fits_32 : decode cX6_fits 32 = .ok (.iaload, 1) := by decide +kernel
theorem dX6_fits_33 : decode cX6_fits 33 = .ok (.if_icmp .eq 5, 3) := by decide +kernel
theorem dX6_fits_36 : decode cX6_fits 36 = .ok (.iconst 0, 1) := by decide +kernel
theorem dX6_fits_37 : decode cX6_fits 37 = .ok (.ireturn, 1) := by decide +kernel
theorem dX6_fits_38 : decode cX6_fits 38 = .ok (.iinc 2 1, 3) := by decide +kernel
theorem dX6_fits_41 : decode cX6_fits 41 = .ok (.goto (-39), 3) := by decide +kernel
theorem dX6_fits_44 : decode cX6_fits 44 = .ok (.iconst 1, 1) := by decide +kernel
theorem dX6_fits_45 : decode cX6_fits 45 = .ok (.ireturn, 1) := by decide +kernel
theorem dX6_countSlates_0 : decode cX6_countSlates 0 = .ok (.iconst 0, 1) := by decide +kernel
theorem dX6_countSlates_1 : decode cX6_countSlates 1 = .ok (.istore_n 1, 1) := by decide +kernel
theorem dX6_countSlates_2 : decode cX6_countSlates 2 = .ok (.iconst 0, 1) := by decide +kernel
theorem dX6_countSlates_3 : decode cX6_countSlates 3 = .ok (.istore_n 2, 1) := by decide +kernel
theorem dX6_countSlates_4 : decode cX6_countSlates 4 = .ok (.iload_n 2, 1) := by decide +kernel
theorem dX6_countSlates_5 : decode cX6_countSlates 5 = .ok (.bipush 8, 2) := by decide +kernel
theorem dX6_countSlates_7 : decode cX6_countSlates 7 = .ok (.if_icmp .gt 43, 3) := by decide +kernel
theorem dX6_countSlates_10 : decode cX6_countSlates 10 = .ok (.iconst 0, 1) := by decide +kernel
theorem dX6_countSlates_11 : decode cX6_countSlates 11 = .ok (.istore_n 3, 1) := by decide +kernel
theorem dX6_countSlates_12 : decode cX6_countSlates 12 = .ok (.iload_n 2, 1) := by decide +kernel
theorem dX6_countSlates_13 : decode cX6_countSlates 13 = .ok (.iload_n 3, 1) := by decide +kernel
theorem dX6_countSlates_14 : decode cX6_countSlates 14 = .ok (.iadd, 1) := by decide +kernel
theorem dX6_countSlates_15 : decode cX6_countSlates 15 = .ok (.bipush 8, 2) := by decide +kernel
theorem dX6_countSlates_17 : decode cX6_countSlates 17 = .ok (.if_icmp .gt 27, 3) := by decide +kernel
theorem dX6_countSlates_20 : decode cX6_countSlates 20 = .ok (.iload_n 1, 1) := by decide +kernel
theorem dX6_countSlates_21 : decode cX6_countSlates 21 = .ok (.aload_n 0, 1) := by decide +kernel
theorem dX6_countSlates_22 : decode cX6_countSlates 22 = .ok (.iload_n 2, 1) := by decide +kernel
theorem dX6_countSlates_23 : decode cX6_countSlates 23 = .ok (.iload_n 3, 1) := by decide +kernel
theorem dX6_countSlates_24 : decode cX6_countSlates 24 = .ok (.isub, 1) := by decide +kernel
theorem dX6_countSlates_25 : decode cX6_countSlates 25 = .ok (.invokevirtual 29, 3) := by decide +kernel
theorem dX6_countSlates_28 : decode cX6_countSlates 28 = .ok (.ifCond .eq 7, 3) := by decide +kernel
theorem dX6_countSlates_31 : decode cX6_countSlates 31 = .ok (.iconst 1, 1) := by decide +kernel
theorem dX6_countSlates_32 : decode cX6_countSlates 32 = .ok (.goto 4, 3) := by decide +kernel
theorem dX6_countSlates_35 : decode cX6_countSlates 35 = .ok (.iconst 0, 1) := by decide +kernel
theorem dX6_countSlates_36 : decode cX6_countSlates 36 = .ok (.iadd, 1) := by decide +kernel
theorem dX6_countSlates_37 : decode cX6_countSlates 37 = .ok (.istore_n 1, 1) := by decide +kernel
theorem dX6_countSlates_38 : decode cX6_countSlates 38 = .ok (.iinc 3 1, 3) := by decide +kernel
theorem dX6_countSlates_41 : decode cX6_countSlates 41 = .ok (.goto (-29), 3) := by decide +kernel
theorem dX6_countSlates_44 : decode cX6_countSlates 44 = .ok (.iinc 2 1, 3) := by decide +kernel
theorem dX6_countSlates_47 : decode cX6_countSlates 47 = .ok (.goto (-43), 3) := by decide +kernel
theorem dX6_countSlates_50 : decode cX6_countSlates 50 = .ok (.iload_n 1, 1) := by decide +kernel
theorem dX6_countSlates_51 : decode cX6_countSlates 51 = .ok (.ireturn, 1) := by decide +kernel
theorem dX6_slate_0 : decode cX6_slate 0 = .ok (.iconst 0, 1) := by decide +kernel
theorem dX6_slate_1 : decode cX6_slate 1 = .ok (.istore_n 2, 1) := by decide +kernel
theorem dX6_slate_2 : decode cX6_slate 2 = .ok (.iconst 0, 1) := by decide +kernel
theorem dX6_slate_3 : decode cX6_slate 3 = .ok (.istore_n 3, 1) := by decide +kernel
theorem dX6_slate_4 : decode cX6_slate 4 = .ok (.iload_n 3, 1) := by decide +kernel
theorem dX6_slate_5 : decode cX6_slate 5 = .ok (.bipush 8, 2) := by decide +kernel
theorem dX6_slate_7 : decode cX6_slate 7 = .ok (.if_icmp .gt 54, 3) := by decide +kernel
theorem dX6_slate_10 : decode cX6_slate 10 = .ok (.iconst 0, 1) := by decide +kernel
theorem dX6_slate_11 : decode cX6_slate 11 = .ok (.istore 4, 2) := by decide +kernel
theorem dX6_slate_13 : decode cX6_slate 13 = .ok (.iload_n 3, 1) := by decide +kernel
theorem dX6_slate_14 : decode cX6_slate 14 = .ok (.iload 4, 2) := by decide +kernel
theorem dX6_slate_16 : decode cX6_slate 16 = .ok (.iadd, 1) := by decide +kernel
theorem dX6_slate_17 : decode cX6_slate 17 = .ok (.bipush 8, 2) := by decide +kernel
theorem dX6_slate_19 : decode cX6_slate 19 = .ok (.if_icmp .gt 36, 3) := by decide +kernel
theorem dX6_slate_22 : decode cX6_slate 22 = .ok (.aload_n 0, 1) := by decide +kernel
theorem dX6_slate_23 : decode cX6_slate 23 = .ok (.iload_n 3, 1) := by decide +kernel
theorem dX6_slate_24 : decode cX6_slate 24 = .ok (.iload 4, 2) := by decide +kernel
theorem dX6_slate_26 : decode cX6_slate 26 = .ok (.isub, 1) := by decide +kernel
theorem dX6_slate_27 : decode cX6_slate 27 = .ok (.invokevirtual 29, 3) := by decide +kernel
theorem dX6_slate_30 : decode cX6_slate 30 = .ok (.ifCond .eq 19, 3) := by decide +kernel
theorem dX6_slate_33 : decode cX6_slate 33 = .ok (.iload_n 2, 1) := by decide +kernel
theorem dX6_slate_34 : decode cX6_slate 34 = .ok (.iload_n 1, 1) := by decide +kernel
theorem dX6_slate_35 : decode cX6_slate 35 = .ok (.if_icmp .ne 11, 3) := by decide +kernel
theorem dX6_slate_38 : decode cX6_slate 38 = .ok (.bipush 10, 2) := by decide +kernel
theorem dX6_slate_40 : decode cX6_slate 40 = .ok (.iload_n 3, 1) := by decide +kernel
theorem dX6_slate_41 : decode cX6_slate 41 = .ok (.imul, 1) := by decide +kernel
theorem dX6_slate_42 : decode cX6_slate 42 = .ok (.iload 4, 2) := by decide +kernel
theorem dX6_slate_44 : decode cX6_slate 44 = .ok (.iadd, 1) := by decide +kernel
theorem dX6_slate_45 : decode cX6_slate 45 = .ok (.ireturn, 1) := by decide +kernel
theorem dX6_slate_46 : decode cX6_slate 46 = .ok (.iinc 2 1, 3) := by decide +kernel
theorem dX6_slate_49 : decode cX6_slate 49 = .ok (.iinc 4 1, 3) := by decide +kernel
theorem dX6_slate_52 : decode cX6_slate 52 = .ok (.goto (-39), 3) := by decide +kernel
theorem dX6_slate_55 : decode cX6_slate 55 = .ok (.iinc 3 1, 3) := by decide +kernel
theorem dX6_slate_58 : decode cX6_slate 58 = .ok (.goto (-54), 3) := by decide +kernel
theorem dX6_slate_61 : decode cX6_slate 61 = .ok (.bipush (-6), 2) := by decide +kernel
theorem dX6_slate_63 : decode cX6_slate 63 = .ok (.ireturn, 1) := by decide +kernel
theorem dX6_bestQuestion_0 : decode cX6_bestQuestion 0 = .ok (.aload_n 0, 1) := by decide +kernel
theorem dX6_bestQuestion_1 : decode cX6_bestQuestion 1 = .ok (.invokevirtual 33, 3) := by decide +kernel
theorem dX6_bestQuestion_4 : decode cX6_bestQuestion 4 = .ok (.ifCond .ne 6, 3) := by decide +kernel
theorem dX6_bestQuestion_7 : decode cX6_bestQuestion 7 = .ok (.bipush (-6), 2) := by decide +kernel
theorem dX6_bestQuestion_9 : decode cX6_bestQuestion 9 = .ok (.ireturn, 1) := by decide +kernel
theorem dX6_bestQuestion_10 : decode cX6_bestQuestion 10 = .ok (.iconst 0, 1) := by decide +kernel
theorem dX6_bestQuestion_11 : decode cX6_bestQuestion 11 = .ok (.istore_n 2, 1) := by decide +kernel
theorem dX6_bestQuestion_12 : decode cX6_bestQuestion 12 = .ok (.aload_n 0, 1) := by decide +kernel
theorem dX6_bestQuestion_13 : decode cX6_bestQuestion 13 = .ok (.iconst 0, 1) := by decide +kernel
theorem dX6_bestQuestion_14 : decode cX6_bestQuestion 14 = .ok (.invokevirtual 37, 3) := by decide +kernel
theorem dX6_bestQuestion_17 : decode cX6_bestQuestion 17 = .ok (.istore_n 3, 1) := by decide +kernel
theorem dX6_bestQuestion_18 : decode cX6_bestQuestion 18 = .ok (.iconst 1, 1) := by decide +kernel
theorem dX6_bestQuestion_19 : decode cX6_bestQuestion 19 = .ok (.istore 4, 2) := by decide +kernel
theorem dX6_bestQuestion_21 : decode cX6_bestQuestion 21 = .ok (.iload 4, 2) := by decide +kernel
theorem dX6_bestQuestion_23 : decode cX6_bestQuestion 23 = .ok (.bipush 9, 2) := by decide +kernel
theorem dX6_bestQuestion_25 : decode cX6_bestQuestion 25 = .ok (.if_icmp .gt 30, 3) := by decide +kernel
theorem dX6_bestQuestion_28 : decode cX6_bestQuestion 28 = .ok (.aload_n 0, 1) := by decide +kernel
theorem dX6_bestQuestion_29 : decode cX6_bestQuestion 29 = .ok (.iload 4, 2) := by decide +kernel
theorem dX6_bestQuestion_31 : decode cX6_bestQuestion 31 = .ok (.ineg, 1) := by decide +kernel
theorem dX6_bestQuestion_32 : decode cX6_bestQuestion 32 = .ok (.invokevirtual 37, 3) := by decide +kernel
theorem dX6_bestQuestion_35 : decode cX6_bestQuestion 35 = .ok (.istore 5, 2) := by decide +kernel
theorem dX6_bestQuestion_37 : decode cX6_bestQuestion 37 = .ok (.iload 5, 2) := by decide +kernel
theorem dX6_bestQuestion_39 : decode cX6_bestQuestion 39 = .ok (.iload_n 3, 1) := by decide +kernel
theorem dX6_bestQuestion_40 : decode cX6_bestQuestion 40 = .ok (.if_icmp .ge 9, 3) := by decide +kernel
theorem dX6_bestQuestion_43 : decode cX6_bestQuestion 43 = .ok (.iload 5, 2) := by decide +kernel
theorem dX6_bestQuestion_45 : decode cX6_bestQuestion 45 = .ok (.istore_n 3, 1) := by decide +kernel
theorem dX6_bestQuestion_46 : decode cX6_bestQuestion 46 = .ok (.iload 4, 2) := by decide +kernel
theorem dX6_bestQuestion_48 : decode cX6_bestQuestion 48 = .ok (.istore_n 2, 1) := by decide +kernel
theorem dX6_bestQuestion_49 : decode cX6_bestQuestion 49 = .ok (.iinc 4 1, 3) := by decide +kernel
theorem dX6_bestQuestion_52 : decode cX6_bestQuestion 52 = .ok (.goto (-31), 3) := by decide +kernel
theorem dX6_bestQuestion_55 : decode cX6_bestQuestion 55 = .ok (.iconst 1, 1) := by decide +kernel
theorem dX6_bestQuestion_56 : decode cX6_bestQuestion 56 = .ok (.istore 4, 2) := by decide +kernel
theorem dX6_bestQuestion_58 : decode cX6_bestQuestion 58 = .ok (.iload 4, 2) := by decide +kernel
theorem dX6_bestQuestion_60 : decode cX6_bestQuestion 60 = .ok (.bipush 9, 2) := by decide +kernel
theorem dX6_bestQuestion_62 : decode cX6_bestQuestion 62 = .ok (.if_icmp .gt 32, 3) := by decide +kernel
theorem dX6_bestQuestion_65 : decode cX6_bestQuestion 65 = .ok (.aload_n 0, 1) := by decide +kernel
theorem dX6_bestQuestion_66 : decode cX6_bestQuestion 66 = .ok (.iload 4, 2) := by decide +kernel
theorem dX6_bestQuestion_68 : decode cX6_bestQuestion 68 = .ok (.invokevirtual 37, 3) := by decide +kernel
theorem dX6_bestQuestion_71 : decode cX6_bestQuestion 71 = .ok (.istore 5, 2) := by decide +kernel
theorem dX6_bestQuestion_73 : decode cX6_bestQuestion 73 = .ok (.iload 5, 2) := by decide +kernel
theorem dX6_bestQuestion_75 : decode cX6_bestQuestion 75 = .ok (.iload_n 3, 1) := by decide +kernel
theorem dX6_bestQuestion_76 : decode cX6_bestQuestion 76 = .ok (.if_icmp .ge 12, 3) := by decide +kernel
theorem dX6_bestQuestion_79 : decode cX6_bestQuestion 79 = .ok (.iload 5, 2) := by decide +kernel
theorem dX6_bestQuestion_81 : decode cX6_bestQuestion 81 = .ok (.istore_n 3, 1) := by decide +kernel
theorem dX6_bestQuestion_82 : decode cX6_bestQuestion 82 = .ok (.bipush 10, 2) := by decide +kernel
theorem dX6_bestQuestion_84 : decode cX6_bestQuestion 84 = .ok (.iload 4, 2) := by decide +kernel
theorem dX6_bestQuestion_86 : decode cX6_bestQuestion 86 = .ok (.imul, 1) := by decide +kernel
theorem dX6_bestQuestion_87 : decode cX6_bestQuestion 87 = .ok (.istore_n 2, 1) := by decide +kernel
theorem dX6_bestQuestion_88 : decode cX6_bestQuestion 88 = .ok (.iinc 4 1, 3) := by decide +kernel
theorem dX6_bestQuestion_91 : decode cX6_bestQuestion 91 = .ok (.goto (-33), 3) := by decide +kernel
theorem dX6_bestQuestion_94 : decode cX6_bestQuestion 94 = .ok (.iload_n 1, 1) := by decide +kernel
theorem dX6_bestQuestion_95 : decode cX6_bestQuestion 95 = .ok (.ifCond .eq 7, 3) := by decide +kernel
theorem dX6_bestQuestion_98 : decode cX6_bestQuestion 98 = .ok (.iload_n 3, 1) := by decide +kernel
theorem dX6_bestQuestion_99 : decode cX6_bestQuestion 99 = .ok (.goto 4, 3) := by decide +kernel
theorem dX6_bestQuestion_102 : decode cX6_bestQuestion 102 = .ok (.iload_n 2, 1) := by decide +kernel
theorem dX6_bestQuestion_103 : decode cX6_bestQuestion 103 = .ok (.ireturn, 1) := by decide +kernel
theorem dX6_tallySlates_0 : decode cX6_tallySlates 0 = .ok (.iconst 0, 1) := by decide +kernel
theorem dX6_tallySlates_1 : decode cX6_tallySlates 1 = .ok (.istore_n 1, 1) := by decide +kernel
theorem dX6_tallySlates_2 : decode cX6_tallySlates 2 = .ok (.bipush (-8), 2) := by decide +kernel
theorem dX6_tallySlates_4 : decode cX6_tallySlates 4 = .ok (.istore_n 2, 1) := by decide +kernel
theorem dX6_tallySlates_5 : decode cX6_tallySlates 5 = .ok (.iload_n 2, 1) := by decide +kernel
theorem dX6_tallySlates_6 : decode cX6_tallySlates 6 = .ok (.bipush 8, 2) := by decide +kernel
theorem dX6_tallySlates_8 : decode cX6_tallySlates 8 = .ok (.if_icmp .gt 47, 3) := by decide +kernel
theorem dX6_tallySlates_11 : decode cX6_tallySlates 11 = .ok (.aload_n 0, 1) := by decide +kernel
theorem dX6_tallySlates_12 : decode cX6_tallySlates 12 = .ok (.iload_n 2, 1) := by decide +kernel
theorem dX6_tallySlates_13 : decode cX6_tallySlates 13 = .ok (.invokevirtual 29, 3) := by decide +kernel
theorem dX6_tallySlates_16 : decode cX6_tallySlates 16 = .ok (.ifCond .eq 17, 3) := by decide +kernel
theorem dX6_tallySlates_19 : decode cX6_tallySlates 19 = .ok (.bipush 8, 2) := by decide +kernel
theorem dX6_tallySlates_21 : decode cX6_tallySlates 21 = .ok (.iload_n 2, 1) := by decide +kernel
theorem dX6_tallySlates_22 : decode cX6_tallySlates 22 = .ok (.invokestatic 40, 3) := by decide +kernel
theorem dX6_tallySlates_25 : decode cX6_tallySlates 25 = .ok (.isub, 1) := by decide +kernel
theorem dX6_tallySlates_26 : decode cX6_tallySlates 26 = .ok (.iconst 2, 1) := by decide +kernel
theorem dX6_tallySlates_27 : decode cX6_tallySlates 27 = .ok (.idiv, 1) := by decide +kernel
theorem dX6_tallySlates_28 : decode cX6_tallySlates 28 = .ok (.iconst 1, 1) := by decide +kernel
theorem dX6_tallySlates_29 : decode cX6_tallySlates 29 = .ok (.iadd, 1) := by decide +kernel
theorem dX6_tallySlates_30 : decode cX6_tallySlates 30 = .ok (.goto 4, 3) := by decide +kernel
theorem dX6_tallySlates_33 : decode cX6_tallySlates 33 = .ok (.iconst 0, 1) := by decide +kernel
theorem dX6_tallySlates_34 : decode cX6_tallySlates 34 = .ok (.istore_n 3, 1) := by decide +kernel
theorem dX6_tallySlates_35 : decode cX6_tallySlates 35 = .ok (.aload_n 0, 1) := by decide +kernel
theorem dX6_tallySlates_36 : decode cX6_tallySlates 36 = .ok (.getfield 18, 3) := by decide +kernel
theorem dX6_tallySlates_39 : decode cX6_tallySlates 39 = .ok (.iload_n 2, 1) := by decide +kernel
theorem dX6_tallySlates_40 : decode cX6_tallySlates 40 = .ok (.bipush 8, 2) := by decide +kernel
theorem dX6_tallySlates_42 : decode cX6_tallySlates 42 = .ok (.iadd, 1) := by decide +kernel
theorem dX6_tallySlates_43 : decode cX6_tallySlates 43 = .ok (.iload_n 3, 1) := by decide +kernel
theorem dX6_tallySlates_44 : decode cX6_tallySlates 44 = .ok (.iastore, 1) := by decide +kernel
theorem dX6_tallySlates_45 : decode cX6_tallySlates 45 = .ok (.iload_n 1, 1) := by decide +kernel
theorem dX6_tallySlates_46 : decode cX6_tallySlates 46 = .ok (.iload_n 3, 1) := by decide +kernel
theorem dX6_tallySlates_47 : decode cX6_tallySlates 47 = .ok (.iadd, 1) := by decide +kernel
theorem dX6_tallySlates_48 : decode cX6_tallySlates 48 = .ok (.istore_n 1, 1) := by decide +kernel
theorem dX6_tallySlates_49 : decode cX6_tallySlates 49 = .ok (.iinc 2 1, 3) := by decide +kernel
theorem dX6_tallySlates_52 : decode cX6_tallySlates 52 = .ok (.goto (-47), 3) := by decide +kernel
theorem dX6_tallySlates_55 : decode cX6_tallySlates 55 = .ok (.iload_n 1, 1) := by decide +kernel
theorem dX6_tallySlates_56 : decode cX6_tallySlates 56 = .ok (.ireturn, 1) := by decide +kernel
theorem dX6_mostLeft_0 : decode cX6_mostLeft 0 = .ok (.iconst 0, 1) := by decide +kernel
theorem dX6_mostLeft_1 : decode cX6_mostLeft 1 = .ok (.istore_n 2, 1) := by decide +kernel
theorem dX6_mostLeft_2 : decode cX6_mostLeft 2 = .ok (.iconst 0, 1) := by decide +kernel
theorem dX6_mostLeft_3 : decode cX6_mostLeft 3 = .ok (.istore_n 3, 1) := by decide +kernel
theorem dX6_mostLeft_4 : decode cX6_mostLeft 4 = .ok (.iconst 0, 1) := by decide +kernel
theorem dX6_mostLeft_5 : decode cX6_mostLeft 5 = .ok (.istore 4, 2) := by decide +kernel
theorem dX6_mostLeft_7 : decode cX6_mostLeft 7 = .ok (.bipush (-8), 2) := by decide +kernel
theorem dX6_mostLeft_9 : decode cX6_mostLeft 9 = .ok (.istore 5, 2) := by decide +kernel
theorem dX6_mostLeft_11 : decode cX6_mostLeft 11 = .ok (.iload 5, 2) := by decide +kernel
theorem dX6_mostLeft_13 : decode cX6_mostLeft 13 = .ok (.bipush 8, 2) := by decide +kernel
theorem dX6_mostLeft_15 : decode cX6_mostLeft 15 = .ok (.if_icmp .gt 78, 3) := by decide +kernel
theorem dX6_mostLeft_18 : decode cX6_mostLeft 18 = .ok (.aload_n 0, 1) := by decide +kernel
theorem dX6_mostLeft_19 : decode cX6_mostLeft 19 = .ok (.getfield 18, 3) := by decide +kernel
theorem dX6_mostLeft_22 : decode cX6_mostLeft 22 = .ok (.iload 5, 2) := by decide +kernel
theorem dX6_mostLeft_24 : decode cX6_mostLeft 24 = .ok (.bipush 8, 2) := by decide +kernel
theorem dX6_mostLeft_26 : decode cX6_mostLeft 26 = .ok (.iadd, 1) := by decide +kernel
theorem dX6_mostLeft_27 : decode cX6_mostLeft 27 = .ok (.iaload, 1) := by decide +kernel
theorem dX6_mostLeft_28 : decode cX6_mostLeft 28 = .ok (.istore 6, 2) := by decide +kernel
theorem dX6_mostLeft_30 : decode cX6_mostLeft 30 = .ok (.iload 5, 2) := by decide +kernel
theorem dX6_mostLeft_32 : decode cX6_mostLeft 32 = .ok (.iload_n 1, 1) := by decide +kernel
theorem dX6_mostLeft_33 : decode cX6_mostLeft 33 = .ok (.iadd, 1) := by decide +kernel
theorem dX6_mostLeft_34 : decode cX6_mostLeft 34 = .ok (.invokestatic 25, 3) := by decide +kernel
theorem dX6_mostLeft_37 : decode cX6_mostLeft 37 = .ok (.lookupswitch 43 #[(0, 27), (1, 35)], 27) := by decide +kernel
theorem dX6_mostLeft_64 : decode cX6_mostLeft 64 = .ok (.iload_n 2, 1) := by decide +kernel
theorem dX6_mostLeft_65 : decode cX6_mostLeft 65 = .ok (.iload 6, 2) := by decide +kernel
theorem dX6_mostLeft_67 : decode cX6_mostLeft 67 = .ok (.iadd, 1) := by decide +kernel
theorem dX6_mostLeft_68 : decode cX6_mostLeft 68 = .ok (.istore_n 2, 1) := by decide +kernel
theorem dX6_mostLeft_69 : decode cX6_mostLeft 69 = .ok (.goto 18, 3) := by decide +kernel
theorem dX6_mostLeft_72 : decode cX6_mostLeft 72 = .ok (.iload_n 3, 1) := by decide +kernel
theorem dX6_mostLeft_73 : decode cX6_mostLeft 73 = .ok (.iload 6, 2) := by decide +kernel
theorem dX6_mostLeft_75 : decode cX6_mostLeft 75 = .ok (.iadd, 1) := by decide +kernel
theorem dX6_mostLeft_76 : decode cX6_mostLeft 76 = .ok (.istore_n 3, 1) := by decide +kernel
theorem dX6_mostLeft_77 : decode cX6_mostLeft 77 = .ok (.goto 10, 3) := by decide +kernel
theorem dX6_mostLeft_80 : decode cX6_mostLeft 80 = .ok (.iload 4, 2) := by decide +kernel
theorem dX6_mostLeft_82 : decode cX6_mostLeft 82 = .ok (.iload 6, 2) := by decide +kernel
theorem dX6_mostLeft_84 : decode cX6_mostLeft 84 = .ok (.iadd, 1) := by decide +kernel
theorem dX6_mostLeft_85 : decode cX6_mostLeft 85 = .ok (.istore 4, 2) := by decide +kernel
theorem dX6_mostLeft_87 : decode cX6_mostLeft 87 = .ok (.iinc 5 1, 3) := by decide +kernel
theorem dX6_mostLeft_90 : decode cX6_mostLeft 90 = .ok (.goto (-79), 3) := by decide +kernel
theorem dX6_mostLeft_93 : decode cX6_mostLeft 93 = .ok (.iload_n 2, 1) := by decide +kernel
theorem dX6_mostLeft_94 : decode cX6_mostLeft 94 = .ok (.iload_n 3, 1) := by decide +kernel
theorem dX6_mostLeft_95 : decode cX6_mostLeft 95 = .ok (.iload 4, 2) := by decide +kernel
theorem dX6_mostLeft_97 : decode cX6_mostLeft 97 = .ok (.invokestatic 45, 3) := by decide +kernel
theorem dX6_mostLeft_100 : decode cX6_mostLeft 100 = .ok (.invokestatic 45, 3) := by decide +kernel
theorem dX6_mostLeft_103 : decode cX6_mostLeft 103 = .ok (.ireturn, 1) := by decide +kernel
theorem dX7_init_0 : decode cX7_init 0 = .ok (.aload_n 0, 1) := by decide +kernel
theorem dX7_init_1 : decode cX7_init 1 = .ok (.invokespecial 3, 3) := by decide +kernel
theorem dX7_init_4 : decode cX7_init 4 = .ok (.aload_n 0, 1) := by decide +kernel
theorem dX7_init_5 : decode cX7_init 5 = .ok (.bipush 10, 2) := by decide +kernel
theorem dX7_init_7 : decode cX7_init 7 = .ok (.newarray .int, 2) := by decide +kernel
theorem dX7_init_9 : decode cX7_init 9 = .ok (.putfield 9, 3) := by decide +kernel
theorem dX7_init_12 : decode cX7_init 12 = .ok (.aload_n 0, 1) := by decide +kernel
theorem dX7_init_13 : decode cX7_init 13 = .ok (.bipush 10, 2) := by decide +kernel
theorem dX7_init_15 : decode cX7_init 15 = .ok (.newarray .int, 2) := by decide +kernel
theorem dX7_init_17 : decode cX7_init 17 = .ok (.putfield 15, 3) := by decide +kernel
theorem dX7_init_20 : decode cX7_init 20 = .ok (.return_, 1) := by decide +kernel
theorem dX7_run_0 : decode cX7_run 0 = .ok (.iconst 0, 1) := by decide +kernel
theorem dX7_run_1 : decode cX7_run 1 = .ok (.istore_n 3, 1) := by decide +kernel
theorem dX7_run_2 : decode cX7_run 2 = .ok (.iload_n 3, 1) := by decide +kernel
theorem dX7_run_3 : decode cX7_run 3 = .ok (.bipush 9, 2) := by decide +kernel
theorem dX7_run_5 : decode cX7_run 5 = .ok (.if_icmp .gt 25, 3) := by decide +kernel
theorem dX7_run_8 : decode cX7_run 8 = .ok (.aload_n 0, 1) := by decide +kernel
theorem dX7_run_9 : decode cX7_run 9 = .ok (.getfield 9, 3) := by decide +kernel
theorem dX7_run_12 : decode cX7_run 12 = .ok (.iload_n 3, 1) := by decide +kernel
theorem dX7_run_13 : decode cX7_run 13 = .ok (.iconst 0, 1) := by decide +kernel
theorem dX7_run_14 : decode cX7_run 14 = .ok (.iastore, 1) := by decide +kernel
theorem dX7_run_15 : decode cX7_run 15 = .ok (.aload_n 0, 1) := by decide +kernel
theorem dX7_run_16 : decode cX7_run 16 = .ok (.getfield 15, 3) := by decide +kernel
theorem dX7_run_19 : decode cX7_run 19 = .ok (.iload_n 3, 1) := by decide +kernel
theorem dX7_run_20 : decode cX7_run 20 = .ok (.sipush (-1000), 3) := by decide +kernel
theorem dX7_run_23 : decode cX7_run 23 = .ok (.iastore, 1) := by decide +kernel
theorem dX7_run_24 : decode cX7_run 24 = .ok (.iinc 3 1, 3) := by decide +kernel
theorem dX7_run_27 : decode cX7_run 27 = .ok (.goto (-25), 3) := by decide +kernel
theorem dX7_run_30 : decode cX7_run 30 = .ok (.iconst 0, 1) := by decide +kernel
theorem dX7_run_31 : decode cX7_run 31 = .ok (.istore_n 3, 1) := by decide +kernel
theorem dX7_run_32 : decode cX7_run 32 = .ok (.iload_n 3, 1) := by decide +kernel
theorem dX7_run_33 : decode cX7_run 33 = .ok (.aload_n 1, 1) := by decide +kernel
theorem dX7_run_34 : decode cX7_run 34 = .ok (.getfield 18, 3) := by decide +kernel
theorem dX7_run_37 : decode cX7_run 37 = .ok (.if_icmp .ge 19, 3) := by decide +kernel
theorem dX7_run_40 : decode cX7_run 40 = .ok (.aload_n 0, 1) := by decide +kernel
theorem dX7_run_41 : decode cX7_run 41 = .ok (.aload_n 1, 1) := by decide +kernel
theorem dX7_run_42 : decode cX7_run 42 = .ok (.iload_n 3, 1) := by decide +kernel
theorem dX7_run_43 : decode cX7_run 43 = .ok (.invokevirtual 24, 3) := by decide +kernel
theorem dX7_run_46 : decode cX7_run 46 = .ok (.iload_n 2, 1) := by decide +kernel
theorem dX7_run_47 : decode cX7_run 47 = .ok (.invokevirtual 28, 3) := by decide +kernel
theorem dX7_run_50 : decode cX7_run 50 = .ok (.iinc 3 1, 3) := by decide +kernel
theorem dX7_run_53 : decode cX7_run 53 = .ok (.goto (-21), 3) := by decide +kernel
theorem dX7_run_56 : decode cX7_run 56 = .ok (.return_, 1) := by decide +kernel
theorem dX7_goToMarket_0 : decode cX7_goToMarket 0 = .ok (.iconst 1, 1) := by decide +kernel
theorem dX7_goToMarket_1 : decode cX7_goToMarket 1 = .ok (.istore_n 3, 1) := by decide +kernel
theorem dX7_goToMarket_2 : decode cX7_goToMarket 2 = .ok (.iload_n 3, 1) := by decide +kernel
theorem dX7_goToMarket_3 : decode cX7_goToMarket 3 = .ok (.iload_n 2, 1) := by decide +kernel
theorem dX7_goToMarket_4 : decode cX7_goToMarket 4 = .ok (.if_icmp .gt 63, 3) := by decide +kernel
theorem dX7_goToMarket_7 : decode cX7_goToMarket 7 = .ok (.iload_n 3, 1) := by decide +kernel
theorem dX7_goToMarket_8 : decode cX7_goToMarket 8 = .ok (.bipush 9, 2) := by decide +kernel
theorem dX7_goToMarket_10 : decode cX7_goToMarket 10 = .ok (.if_icmp .gt 57, 3) := by decide +kernel
theorem dX7_goToMarket_13 : decode cX7_goToMarket 13 = .ok (.aload_n 0, 1) := by decide +kernel
theorem dX7_goToMarket_14 : decode cX7_goToMarket 14 = .ok (.getfield 9, 3) := by decide +kernel
theorem dX7_goToMarket_17 : decode cX7_goToMarket 17 = .ok (.iload_n 3, 1) := by decide +kernel
theorem dX7_goToMarket_18 : decode cX7_goToMarket 18 = .ok (.aload_n 0, 1) := by decide +kernel
theorem dX7_goToMarket_19 : decode cX7_goToMarket 19 = .ok (.getfield 9, 3) := by decide +kernel
theorem dX7_goToMarket_22 : decode cX7_goToMarket 22 = .ok (.iload_n 3, 1) := by decide +kernel
theorem dX7_goToMarket_23 : decode cX7_goToMarket 23 = .ok (.iaload, 1) := by decide +kernel
theorem dX7_goToMarket_24 : decode cX7_goToMarket 24 = .ok (.aload_n 0, 1) := by decide +kernel
theorem dX7_goToMarket_25 : decode cX7_goToMarket 25 = .ok (.getfield 15, 3) := by decide +kernel
