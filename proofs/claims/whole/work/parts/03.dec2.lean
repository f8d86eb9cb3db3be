theorem dX7_takesWarm_1 : decode cX7_takesWarm 1 = .ok (.ifCond .lt 15, 3) := by decide +kernel
theorem dX7_takesWarm_4 : decode cX7_takesWarm 4 = .ok (.aload_n 0, 1) := by decide +kernel
theorem dX7_takesWarm_5 : decode cX7_takesWarm 5 = .ok (.getfield 12, 3) := by decide +kernel
theorem dX7_takesWarm_8 : decode cX7_takesWarm 8 = .ok (.getfield 83, 3) := by decide +kernel
theorem dX7_takesWarm_11 : decode cX7_takesWarm 11 = .ok (.bipush 6, 2) := by decide +kernel
theorem dX7_takesWarm_13 : decode cX7_takesWarm 13 = .ok (.if_icmp .lt 5, 3) := by decide +kernel
theorem dX7_takesWarm_16 : decode cX7_takesWarm 16 = .ok (.iconst 0, 1) := by decide +kernel
theorem dX7_takesWarm_17 : decode cX7_takesWarm 17 = .ok (.ireturn, 1) := by decide +kernel
theorem dX7_takesWarm_18 : decode cX7_takesWarm 18 = .ok (.aload_n 0, 1) := by decide +kernel
theorem dX7_takesWarm_19 : decode cX7_takesWarm 19 = .ok (.getfield 12, 3) := by decide +kernel
theorem dX7_takesWarm_22 : decode cX7_takesWarm 22 = .ok (.getfield 89, 3) := by decide +kernel
theorem dX7_takesWarm_25 : decode cX7_takesWarm 25 = .ok (.aload_n 0, 1) := by decide +kernel
theorem dX7_takesWarm_26 : decode cX7_takesWarm 26 = .ok (.getfield 12, 3) := by decide +kernel
theorem dX7_takesWarm_29 : decode cX7_takesWarm 29 = .ok (.getfield 83, 3) := by decide +kernel
theorem dX7_takesWarm_32 : decode cX7_takesWarm 32 = .ok (.iload_n 1, 1) := by decide +kernel
theorem dX7_takesWarm_33 : decode cX7_takesWarm 33 = .ok (.iastore, 1) := by decide +kernel
theorem dX7_takesWarm_34 : decode cX7_takesWarm 34 = .ok (.aload_n 0, 1) := by decide +kernel
theorem dX7_takesWarm_35 : decode cX7_takesWarm 35 = .ok (.getfield 12, 3) := by decide +kernel
theorem dX7_takesWarm_38 : decode cX7_takesWarm 38 = .ok (.getfield 92, 3) := by decide +kernel
theorem dX7_takesWarm_41 : decode cX7_takesWarm 41 = .ok (.aload_n 0, 1) := by decide +kernel
theorem dX7_takesWarm_42 : decode cX7_takesWarm 42 = .ok (.getfield 12, 3) := by decide +kernel
theorem dX7_takesWarm_45 : decode cX7_takesWarm 45 = .ok (.getfield 83, 3) := by decide +kernel
theorem dX7_takesWarm_48 : decode cX7_takesWarm 48 = .ok (.iconst 0, 1) := by decide +kernel
theorem dX7_takesWarm_49 : decode cX7_takesWarm 49 = .ok (.iastore, 1) := by decide +kernel
theorem dX7_takesWarm_50 : decode cX7_takesWarm 50 = .ok (.aload_n 0, 1) := by decide +kernel
theorem dX7_takesWarm_51 : decode cX7_takesWarm 51 = .ok (.getfield 12, 3) := by decide +kernel
theorem dX7_takesWarm_54 : decode cX7_takesWarm 54 = .ok (.dup, 1) := by decide +kernel
theorem dX7_takesWarm_55 : decode cX7_takesWarm 55 = .ok (.getfield 83, 3) := by decide +kernel
theorem dX7_takesWarm_58 : decode cX7_takesWarm 58 = .ok (.iconst 1, 1) := by decide +kernel
theorem dX7_takesWarm_59 : decode cX7_takesWarm 59 = .ok (.iadd, 1) := by decide +kernel
theorem dX7_takesWarm_60 : decode cX7_takesWarm 60 = .ok (.putfield 83, 3) := by decide +kernel
theorem dX7_takesWarm_63 : decode cX7_takesWarm 63 = .ok (.aload_n 0, 1) := by decide +kernel
theorem dX7_takesWarm_64 : decode cX7_takesWarm 64 = .ok (.iconst 4, 1) := by decide +kernel
theorem dX7_takesWarm_65 : decode cX7_takesWarm 65 = .ok (.putfield 18, 3) := by decide +kernel
theorem dX7_takesWarm_68 : decode cX7_takesWarm 68 = .ok (.iconst 1, 1) := by decide +kernel
theorem dX7_takesWarm_69 : decode cX7_takesWarm 69 = .ok (.ireturn, 1) := by decide +kernel
theorem dX7_takesMark_0 : decode cX7_takesMark 0 = .ok (.iload_n 1, 1) := by decide +kernel
theorem dX7_takesMark_1 : decode cX7_takesMark 1 = .ok (.bipush 44, 2) := by decide +kernel
theorem dX7_takesMark_3 : decode cX7_takesMark 3 = .ok (.if_icmp .ne 26, 3) := by decide +kernel
theorem dX7_takesMark_6 : decode cX7_takesMark 6 = .ok (.aload_n 0, 1) := by decide +kernel
theorem dX7_takesMark_7 : decode cX7_takesMark 7 = .ok (.aload_n 0, 1) := by decide +kernel
theorem dX7_takesMark_8 : decode cX7_takesMark 8 = .ok (.getfield 12, 3) := by decide +kernel
theorem dX7_takesMark_11 : decode cX7_takesMark 11 = .ok (.getfield 83, 3) := by decide +kernel
theorem dX7_takesMark_14 : decode cX7_takesMark 14 = .ok (.bipush 6, 2) := by decide +kernel
theorem dX7_takesMark_16 : decode cX7_takesMark 16 = .ok (.if_icmp .ge 7, 3) := by decide +kernel
theorem dX7_takesMark_19 : decode cX7_takesMark 19 = .ok (.iconst 1, 1) := by decide +kernel
theorem dX7_takesMark_20 : decode cX7_takesMark 20 = .ok (.goto 4, 3) := by decide +kernel
theorem dX7_takesMark_23 : decode cX7_takesMark 23 = .ok (.iconst 0, 1) := by decide +kernel
theorem dX7_takesMark_24 : decode cX7_takesMark 24 = .ok (.iconst 2, 1) := by decide +kernel
theorem dX7_takesMark_25 : decode cX7_takesMark 25 = .ok (.invokevirtual 45, 3) := by decide +kernel
theorem dX7_takesMark_28 : decode cX7_takesMark 28 = .ok (.ireturn, 1) := by decide +kernel
theorem dX7_takesMark_29 : decode cX7_takesMark 29 = .ok (.aload_n 0, 1) := by decide +kernel
theorem dX7_takesMark_30 : decode cX7_takesMark 30 = .ok (.iload_n 1, 1) := by decide +kernel
theorem dX7_takesMark_31 : decode cX7_takesMark 31 = .ok (.bipush 59, 2) := by decide +kernel
theorem dX7_takesMark_33 : decode cX7_takesMark 33 = .ok (.if_icmp .ne 18, 3) := by decide +kernel
theorem dX7_takesMark_36 : decode cX7_takesMark 36 = .ok (.aload_n 0, 1) := by decide +kernel
theorem dX7_takesMark_37 : decode cX7_takesMark 37 = .ok (.getfield 12, 3) := by decide +kernel
theorem dX7_takesMark_40 : decode cX7_takesMark 40 = .ok (.getfield 83, 3) := by decide +kernel
theorem dX7_takesMark_43 : decode cX7_takesMark 43 = .ok (.iconst 2, 1) := by decide +kernel
theorem dX7_takesMark_44 : decode cX7_takesMark 44 = .ok (.if_icmp .lt 7, 3) := by decide +kernel
theorem dX7_takesMark_47 : decode cX7_takesMark 47 = .ok (.iconst 1, 1) := by decide +kernel
theorem dX7_takesMark_48 : decode cX7_takesMark 48 = .ok (.goto 4, 3) := by decide +kernel
theorem dX7_takesMark_51 : decode cX7_takesMark 51 = .ok (.iconst 0, 1) := by decide +kernel
theorem dX7_takesMark_52 : decode cX7_takesMark 52 = .ok (.iconst 5, 1) := by decide +kernel
theorem dX7_takesMark_53 : decode cX7_takesMark 53 = .ok (.invokevirtual 45, 3) := by decide +kernel
theorem dX7_takesMark_56 : decode cX7_takesMark 56 = .ok (.ireturn, 1) := by decide +kernel
theorem dX7_takesDid_0 : decode cX7_takesDid 0 = .ok (.aload_n 0, 1) := by decide +kernel
theorem dX7_takesDid_1 : decode cX7_takesDid 1 = .ok (.getfield 12, 3) := by decide +kernel
theorem dX7_takesDid_4 : decode cX7_takesDid 4 = .ok (.iload_n 1, 1) := by decide +kernel
theorem dX7_takesDid_5 : decode cX7_takesDid 5 = .ok (.invokevirtual 95, 3) := by decide +kernel
theorem dX7_takesDid_8 : decode cX7_takesDid 8 = .ok (.ifCond .eq 15, 3) := by decide +kernel
theorem dX7_takesDid_11 : decode cX7_takesDid 11 = .ok (.aload_n 0, 1) := by decide +kernel
theorem dX7_takesDid_12 : decode cX7_takesDid 12 = .ok (.getfield 12, 3) := by decide +kernel
theorem dX7_takesDid_15 : decode cX7_takesDid 15 = .ok (.getfield 74, 3) := by decide +kernel
theorem dX7_takesDid_18 : decode cX7_takesDid 18 = .ok (.bipush 8, 2) := by decide +kernel
theorem dX7_takesDid_20 : decode cX7_takesDid 20 = .ok (.if_icmp .lt 5, 3) := by decide +kernel
theorem dX7_takesDid_23 : decode cX7_takesDid 23 = .ok (.iconst 0, 1) := by decide +kernel
theorem dX7_takesDid_24 : decode cX7_takesDid 24 = .ok (.ireturn, 1) := by decide +kernel
theorem dX7_takesDid_25 : decode cX7_takesDid 25 = .ok (.aload_n 0, 1) := by decide +kernel
theorem dX7_takesDid_26 : decode cX7_takesDid 26 = .ok (.getfield 12, 3) := by decide +kernel
theorem dX7_takesDid_29 : decode cX7_takesDid 29 = .ok (.getfield 98, 3) := by decide +kernel
theorem dX7_takesDid_32 : decode cX7_takesDid 32 = .ok (.aload_n 0, 1) := by decide +kernel
theorem dX7_takesDid_33 : decode cX7_takesDid 33 = .ok (.getfield 12, 3) := by decide +kernel
theorem dX7_takesDid_36 : decode cX7_takesDid 36 = .ok (.getfield 74, 3) := by decide +kernel
theorem dX7_takesDid_39 : decode cX7_takesDid 39 = .ok (.iload_n 1, 1) := by decide +kernel
theorem dX7_takesDid_40 : decode cX7_takesDid 40 = .ok (.iastore, 1) := by decide +kernel
theorem dX7_takesDid_41 : decode cX7_takesDid 41 = .ok (.aload_n 0, 1) := by decide +kernel
theorem dX7_takesDid_42 : decode cX7_takesDid 42 = .ok (.bipush 6, 2) := by decide +kernel
theorem dX7_takesDid_44 : decode cX7_takesDid 44 = .ok (.putfield 18, 3) := by decide +kernel
theorem dX7_takesDid_47 : decode cX7_takesDid 47 = .ok (.iconst 1, 1) := by decide +kernel
theorem dX7_takesDid_48 : decode cX7_takesDid 48 = .ok (.ireturn, 1) := by decide +kernel
theorem dX7_takesWhom_0 : decode cX7_takesWhom 0 = .ok (.aload_n 0, 1) := by decide +kernel
theorem dX7_takesWhom_1 : decode cX7_takesWhom 1 = .ok (.getfield 12, 3) := by decide +kernel
theorem dX7_takesWhom_4 : decode cX7_takesWhom 4 = .ok (.iload_n 1, 1) := by decide +kernel
theorem dX7_takesWhom_5 : decode cX7_takesWhom 5 = .ok (.invokevirtual 95, 3) := by decide +kernel
theorem dX7_takesWhom_8 : decode cX7_takesWhom 8 = .ok (.ifCond .eq 34, 3) := by decide +kernel
theorem dX7_takesWhom_11 : decode cX7_takesWhom 11 = .ok (.aload_n 0, 1) := by decide +kernel
theorem dX7_takesWhom_12 : decode cX7_takesWhom 12 = .ok (.getfield 12, 3) := by decide +kernel
theorem dX7_takesWhom_15 : decode cX7_takesWhom 15 = .ok (.getfield 74, 3) := by decide +kernel
theorem dX7_takesWhom_18 : decode cX7_takesWhom 18 = .ok (.bipush 8, 2) := by decide +kernel
theorem dX7_takesWhom_20 : decode cX7_takesWhom 20 = .ok (.if_icmp .ge 22, 3) := by decide +kernel
theorem dX7_takesWhom_23 : decode cX7_takesWhom 23 = .ok (.iload_n 1, 1) := by decide +kernel
theorem dX7_takesWhom_24 : decode cX7_takesWhom 24 = .ok (.aload_n 0, 1) := by decide +kernel
theorem dX7_takesWhom_25 : decode cX7_takesWhom 25 = .ok (.getfield 12, 3) := by decide +kernel
theorem dX7_takesWhom_28 : decode cX7_takesWhom 28 = .ok (.getfield 98, 3) := by decide +kernel
theorem dX7_takesWhom_31 : decode cX7_takesWhom 31 = .ok (.aload_n 0, 1) := by decide +kernel
theorem dX7_takesWhom_32 : decode cX7_takesWhom 32 = .ok (.getfield 12, 3) := by decide +kernel
theorem dX7_takesWhom_35 : decode cX7_takesWhom 35 = .ok (.getfield 74, 3) := by decide +kernel
theorem dX7_takesWhom_38 : decode cX7_takesWhom 38 = .ok (.iaload, 1) := by decide +kernel
theorem dX7_takesWhom_39 : decode cX7_takesWhom 39 = .ok (.if_icmp .ne 5, 3) := by decide +kernel
theorem dX7_takesWhom_42 : decode cX7_takesWhom 42 = .ok (.iconst 0, 1) := by decide +kernel
theorem dX7_takesWhom_43 : decode cX7_takesWhom 43 = .ok (.ireturn, 1) := by decide +kernel
theorem dX7_takesWhom_44 : decode cX7_takesWhom 44 = .ok (.aload_n 0, 1) := by decide +kernel
theorem dX7_takesWhom_45 : decode cX7_takesWhom 45 = .ok (.getfield 12, 3) := by decide +kernel
theorem dX7_takesWhom_48 : decode cX7_takesWhom 48 = .ok (.getfield 101, 3) := by decide +kernel
theorem dX7_takesWhom_51 : decode cX7_takesWhom 51 = .ok (.aload_n 0, 1) := by decide +kernel
theorem dX7_takesWhom_52 : decode cX7_takesWhom 52 = .ok (.getfield 12, 3) := by decide +kernel
theorem dX7_takesWhom_55 : decode cX7_takesWhom 55 = .ok (.getfield 74, 3) := by decide +kernel
theorem dX7_takesWhom_58 : decode cX7_takesWhom 58 = .ok (.iload_n 1, 1) := by decide +kernel
theorem dX7_takesWhom_59 : decode cX7_takesWhom 59 = .ok (.iastore, 1) := by decide +kernel
theorem dX7_takesWhom_60 : decode cX7_takesWhom 60 = .ok (.aload_n 0, 1) := by decide +kernel
theorem dX7_takesWhom_61 : decode cX7_takesWhom 61 = .ok (.bipush 7, 2) := by decide +kernel
theorem dX7_takesWhom_63 : decode cX7_takesWhom 63 = .ok (.putfield 18, 3) := by decide +kernel
theorem dX7_takesWhom_66 : decode cX7_takesWhom 66 = .ok (.iconst 1, 1) := by decide +kernel
theorem dX7_takesWhom_67 : decode cX7_takesWhom 67 = .ok (.ireturn, 1) := by decide +kernel
theorem dX7_takesGrave_0 : decode cX7_takesGrave 0 = .ok (.iload_n 1, 1) := by decide +kernel
theorem dX7_takesGrave_1 : decode cX7_takesGrave 1 = .ok (.iconst 1, 1) := by decide +kernel
theorem dX7_takesGrave_2 : decode cX7_takesGrave 2 = .ok (.if_icmp .lt 15, 3) := by decide +kernel
theorem dX7_takesGrave_5 : decode cX7_takesGrave 5 = .ok (.aload_n 0, 1) := by decide +kernel
theorem dX7_takesGrave_6 : decode cX7_takesGrave 6 = .ok (.getfield 12, 3) := by decide +kernel
theorem dX7_takesGrave_9 : decode cX7_takesGrave 9 = .ok (.getfield 74, 3) := by decide +kernel
theorem dX7_takesGrave_12 : decode cX7_takesGrave 12 = .ok (.bipush 8, 2) := by decide +kernel
theorem dX7_takesGrave_14 : decode cX7_takesGrave 14 = .ok (.if_icmp .lt 5, 3) := by decide +kernel
theorem dX7_takesGrave_17 : decode cX7_takesGrave 17 = .ok (.iconst 0, 1) := by decide +kernel
theorem dX7_takesGrave_18 : decode cX7_takesGrave 18 = .ok (.ireturn, 1) := by decide +kernel
theorem dX7_takesGrave_19 : decode cX7_takesGrave 19 = .ok (.aload_n 0, 1) := by decide +kernel
theorem dX7_takesGrave_20 : decode cX7_takesGrave 20 = .ok (.getfield 12, 3) := by decide +kernel
theorem dX7_takesGrave_23 : decode cX7_takesGrave 23 = .ok (.getfield 104, 3) := by decide +kernel
theorem dX7_takesGrave_26 : decode cX7_takesGrave 26 = .ok (.aload_n 0, 1) := by decide +kernel
theorem dX7_takesGrave_27 : decode cX7_takesGrave 27 = .ok (.getfield 12, 3) := by decide +kernel
theorem dX7_takesGrave_30 : decode cX7_takesGrave 30 = .ok (.getfield 74, 3) := by decide +kernel
theorem dX7_takesGrave_33 : decode cX7_takesGrave 33 = .ok (.iload_n 1, 1) := by decide +kernel
theorem dX7_takesGrave_34 : decode cX7_takesGrave 34 = .ok (.iastore, 1) := by decide +kernel
theorem dX7_takesGrave_35 : decode cX7_takesGrave 35 = .ok (.aload_n 0, 1) := by decide +kernel
theorem dX7_takesGrave_36 : decode cX7_takesGrave 36 = .ok (.getfield 12, 3) := by decide +kernel
theorem dX7_takesGrave_39 : decode cX7_takesGrave 39 = .ok (.dup, 1) := by decide +kernel
theorem dX7_takesGrave_40 : decode cX7_takesGrave 40 = .ok (.getfield 74, 3) := by decide +kernel
theorem dX7_takesGrave_43 : decode cX7_takesGrave 43 = .ok (.iconst 1, 1) := by decide +kernel
theorem dX7_takesGrave_44 : decode cX7_takesGrave 44 = .ok (.iadd, 1) := by decide +kernel
theorem dX7_takesGrave_45 : decode cX7_takesGrave 45 = .ok (.putfield 74, 3) := by decide +kernel
theorem dX7_takesGrave_48 : decode cX7_takesGrave 48 = .ok (.aload_n 0, 1) := by decide +kernel
theorem dX7_takesGrave_49 : decode cX7_takesGrave 49 = .ok (.bipush 8, 2) := by decide +kernel
theorem dX7_takesGrave_51 : decode cX7_takesGrave 51 = .ok (.putfield 18, 3) := by decide +kernel
theorem dX7_takesGrave_54 : decode cX7_takesGrave 54 = .ok (.iconst 1, 1) := by decide +kernel
theorem dX7_takesGrave_55 : decode cX7_takesGrave 55 = .ok (.ireturn, 1) := by decide +kernel
theorem dX8_init_0 : decode cX8_init 0 = .ok (.aload_n 0, 1) := by decide +kernel
theorem dX8_init_1 : decode cX8_init 1 = .ok (.invokespecial 1, 3) := by decide +kernel
theorem dX8_init_4 : decode cX8_init 4 = .ok (.aload_n 0, 1) := by decide +kernel
theorem dX8_init_5 : decode cX8_init 5 = .ok (.iconst 0, 1) := by decide +kernel
theorem dX8_init_6 : decode cX8_init 6 = .ok (.putfield 7, 3) := by decide +kernel
theorem dX8_init_9 : decode cX8_init 9 = .ok (.aload_n 0, 1) := by decide +kernel
theorem dX8_init_10 : decode cX8_init 10 = .ok (.iconst 0, 1) := by decide +kernel
theorem dX8_init_11 : decode cX8_init 11 = .ok (.putfield 13, 3) := by decide +kernel
theorem dX8_init_14 : decode cX8_init 14 = .ok (.return_, 1) := by decide +kernel
theorem dX8_pass_0 : decode cX8_pass 0 = .ok (.aload_n 0, 1) := by decide +kernel
theorem dX8_pass_1 : decode cX8_pass 1 = .ok (.iconst 0, 1) := by decide +kernel
theorem dX8_pass_2 : decode cX8_pass 2 = .ok (.putfield 7, 3) := by decide +kernel
theorem dX8_pass_5 : decode cX8_pass 5 = .ok (.aload_n 0, 1) := by decide +kernel
theorem dX8_pass_6 : decode cX8_pass 6 = .ok (.iload_n 3, 1) := by decide +kernel
theorem dX8_pass_7 : decode cX8_pass 7 = .ok (.putfield 13, 3) := by decide +kernel
theorem dX8_pass_10 : decode cX8_pass 10 = .ok (.iconst 0, 1) := by decide +kernel
theorem dX8_pass_11 : decode cX8_pass 11 = .ok (.istore 5, 2) := by decide +kernel
theorem dX8_pass_13 : decode cX8_pass 13 = .ok (.iload 5, 2) := by decide +kernel
theorem dX8_pass_15 : decode cX8_pass 15 = .ok (.iload_n 2, 1) := by decide +kernel
theorem dX8_pass_16 : decode cX8_pass 16 = .ok (.if_icmp .ge 60, 3) := by decide +kernel
theorem dX8_pass_19 : decode cX8_pass 19 = .ok (.aload_n 1, 1) := by decide +kernel
theorem dX8_pass_20 : decode cX8_pass 20 = .ok (.dup, 1) := by decide +kernel
theorem dX8_pass_21 : decode cX8_pass 21 = .ok (.getfield 16, 3) := by decide +kernel
theorem dX8_pass_24 : decode cX8_pass 24 = .ok (.iconst 1, 1) := by decide +kernel
theorem dX8_pass_25 : decode cX8_pass 25 = .ok (.aload_n 0, 1) := by decide +kernel
theorem dX8_pass_26 : decode cX8_pass 26 = .ok (.aload_n 1, 1) := by decide +kernel
theorem dX8_pass_27 : decode cX8_pass 27 = .ok (.getfield 21, 3) := by decide +kernel
theorem dX8_pass_30 : decode cX8_pass 30 = .ok (.invokevirtual 24, 3) := by decide +kernel
theorem dX8_pass_33 : decode cX8_pass 33 = .ok (.ishl, 1) := by decide +kernel
theorem dX8_pass_34 : decode cX8_pass 34 = .ok (.ixor, 1) := by decide +kernel
theorem dX8_pass_35 : decode cX8_pass 35 = .ok (.putfield 16, 3) := by decide +kernel
theorem dX8_pass_38 : decode cX8_pass 38 = .ok (.aload 4, 2) := by decide +kernel
theorem dX8_pass_40 : decode cX8_pass 40 = .ok (.aload_n 1, 1) := by decide +kernel
theorem dX8_pass_41 : decode cX8_pass 41 = .ok (.aload_n 1, 1) := by decide +kernel
theorem dX8_pass_42 : decode cX8_pass 42 = .ok (.getfield 16, 3) := by decide +kernel
theorem dX8_pass_45 : decode cX8_pass 45 = .ok (.invokevirtual 28, 3) := by decide +kernel
theorem dX8_pass_48 : decode cX8_pass 48 = .ok (.aload_n 0, 1) := by decide +kernel
theorem dX8_pass_49 : decode cX8_pass 49 = .ok (.dup, 1) := by decide +kernel
theorem dX8_pass_50 : decode cX8_pass 50 = .ok (.getfield 7, 3) := by decide +kernel
theorem dX8_pass_53 : decode cX8_pass 53 = .ok (.aload_n 1, 1) := by decide +kernel
theorem dX8_pass_54 : decode cX8_pass 54 = .ok (.aload 4, 2) := by decide +kernel
theorem dX8_pass_56 : decode cX8_pass 56 = .ok (.aload_n 1, 1) := by decide +kernel
theorem dX8_pass_57 : decode cX8_pass 57 = .ok (.getfield 34, 3) := by decide +kernel
theorem dX8_pass_60 : decode cX8_pass 60 = .ok (.invokevirtual 37, 3) := by decide +kernel
theorem dX8_pass_63 : decode cX8_pass 63 = .ok (.invokevirtual 40, 3) := by decide +kernel
theorem dX8_pass_66 : decode cX8_pass 66 = .ok (.iadd, 1) := by decide +kernel
theorem dX8_pass_67 : decode cX8_pass 67 = .ok (.putfield 7, 3) := by decide +kernel
theorem dX8_pass_70 : decode cX8_pass 70 = .ok (.iinc 5 1, 3) := by decide +kernel
theorem dX8_pass_73 : decode cX8_pass 73 = .ok (.goto (-60), 3) := by decide +kernel
theorem dX8_pass_76 : decode cX8_pass 76 = .ok (.return_, 1) := by decide +kernel
theorem dX8_draw_0 : decode cX8_draw 0 = .ok (.aload_n 0, 1) := by decide +kernel
theorem dX8_draw_1 : decode cX8_draw 1 = .ok (.ldc2_w 43, 3) := by decide +kernel
theorem dX8_draw_4 : decode cX8_draw 4 = .ok (.aload_n 0, 1) := by decide +kernel
theorem dX8_draw_5 : decode cX8_draw 5 = .ok (.getfield 13, 3) := by decide +kernel
theorem dX8_draw_8 : decode cX8_draw 8 = .ok (.i2l, 1) := by decide +kernel
theorem dX8_draw_9 : decode cX8_draw 9 = .ok (.lmul, 1) := by decide +kernel
theorem dX8_draw_10 : decode cX8_draw 10 = .ok (.ldc2_w 45, 3) := by decide +kernel
theorem dX8_draw_13 : decode cX8_draw 13 = .ok (.ladd, 1) := by decide +kernel
theorem dX8_draw_14 : decode cX8_draw 14 = .ok (.ldc2_w 47, 3) := by decide +kernel
theorem dX8_draw_17 : decode cX8_draw 17 = .ok (.lrem, 1) := by decide +kernel
theorem dX8_draw_18 : decode cX8_draw 18 = .ok (.l2i, 1) := by decide +kernel
theorem dX8_draw_19 : decode cX8_draw 19 = .ok (.putfield 13, 3) := by decide +kernel
theorem dX8_draw_22 : decode cX8_draw 22 = .ok (.iload_n 1, 1) := by decide +kernel
theorem dX8_draw_23 : decode cX8_draw 23 = .ok (.ifCond .le 15, 3) := by decide +kernel
theorem dX8_draw_26 : decode cX8_draw 26 = .ok (.aload_n 0, 1) := by decide +kernel
theorem dX8_draw_27 : decode cX8_draw 27 = .ok (.getfield 13, 3) := by decide +kernel
theorem dX8_draw_30 : decode cX8_draw 30 = .ok (.ldc 49, 2) := by decide +kernel
theorem dX8_draw_32 : decode cX8_draw 32 = .ok (.idiv, 1) := by decide +kernel
theorem dX8_draw_33 : decode cX8_draw 33 = .ok (.iload_n 1, 1) := by decide +kernel
theorem dX8_draw_34 : decode cX8_draw 34 = .ok (.irem, 1) := by decide +kernel
theorem dX8_draw_35 : decode cX8_draw 35 = .ok (.goto 4, 3) := by decide +kernel
theorem dX8_draw_38 : decode cX8_draw 38 = .ok (.iconst 0, 1) := by decide +kernel
theorem dX8_draw_39 : decode cX8_draw 39 = .ok (.ireturn, 1) := by decide +kernel
theorem dX9_init_0 : decode cX9_init 0 = .ok (.aload_n 0, 1) := by decide +kernel
theorem dX9_init_1 : decode cX9_init 1 = .ok (.invokespecial 1, 3) := by decide +kernel
theorem dX9_init_4 : decode cX9_init 4 = .ok (.aload_n 0, 1) := by decide +kernel
theorem dX9_init_5 : decode cX9_init 5 = .ok (.new 7, 3) := by decide +kernel
theorem dX9_init_8 : decode cX9_init 8 = .ok (.dup, 1) := by decide +kernel
theorem dX9_init_9 : decode cX9_init 9 = .ok (.invokespecial 9, 3) := by decide +kernel
theorem dX9_init_12 : decode cX9_init 12 = .ok (.putfield 10, 3) := by decide +kernel
theorem dX9_init_15 : decode cX9_init 15 = .ok (.aload_n 0, 1) := by decide +kernel
theorem dX9_init_16 : decode cX9_init 16 = .ok (.new 16, 3) := by decide +kernel
theorem dX9_init_19 : decode cX9_init 19 = .ok (.dup, 1) := by decide +kernel
theorem dX9_init_20 : decode cX9_init 20 = .ok (.invokespecial 18, 3) := by decide +kernel
theorem dX9_init_23 : decode cX9_init 23 = .ok (.putfield 19, 3) := by decide +kernel
theorem dX9_init_26 : decode cX9_init 26 = .ok (.aload_n 0, 1) := by decide +kernel
theorem dX9_init_27 : decode cX9_init 27 = .ok (.new 23, 3) := by decide +kernel
theorem dX9_init_30 : decode cX9_init 30 = .ok (.dup, 1) := by decide +kernel
theorem dX9_init_31 : decode cX9_init 31 = .ok (.invokespecial 25, 3) := by decide +kernel
theorem dX9_init_34 : decode cX9_init 34 = .ok (.putfield 26, 3) := by decide +kernel
theorem dX9_init_37 : decode cX9_init 37 = .ok (.aload_n 0, 1) := by decide +kernel
theorem dX9_init_38 : decode cX9_init 38 = .ok (.new 23, 3) := by decide +kernel
theorem dX9_init_41 : decode cX9_init 41 = .ok (.dup, 1) := by decide +kernel
theorem dX9_init_42 : decode cX9_init 42 = .ok (.invokespecial 25, 3) := by decide +kernel
theorem dX9_init_45 : decode cX9_init 45 = .ok (.putfield 30, 3) := by decide +kernel
theorem dX9_init_48 : decode cX9_init 48 = .ok (.aload_n 0, 1) := by decide +kernel
theorem dX9_init_49 : decode cX9_init 49 = .ok (.new 23, 3) := by decide +kernel
theorem dX9_init_52 : decode cX9_init 52 = .ok (.dup, 1) := by decide +kernel
theorem dX9_init_53 : decode cX9_init 53 = .ok (.invokespecial 25, 3) := by decide +kernel
theorem dX9_init_56 : decode cX9_init 56 = .ok (.putfield 33, 3) := by decide +kernel
theorem dX9_init_59 : decode cX9_init 59 = .ok (.aload_n 0, 1) := by decide +kernel
theorem dX9_init_60 : decode cX9_init 60 = .ok (.new 36, 3) := by decide +kernel
theorem dX9_init_63 : decode cX9_init 63 = .ok (.dup, 1) := by decide +kernel
theorem dX9_init_64 : decode cX9_init 64 = .ok (.invokespecial 38, 3) := by decide +kernel
theorem dX9_init_67 : decode cX9_init 67 = .ok (.putfield 39, 3) := by decide +kernel
theorem dX9_init_70 : decode cX9_init 70 = .ok (.aload_n 0, 1) := by decide +kernel
theorem dX9_init_71 : decode cX9_init 71 = .ok (.new 43, 3) := by decide +kernel
theorem dX9_init_74 : decode cX9_init 74 = .ok (.dup, 1) := by decide +kernel
theorem dX9_init_75 : decode cX9_init 75 = .ok (.invokespecial 45, 3) := by decide +kernel
theorem dX9_init_78 : decode cX9_init 78 = .ok (.putfield 46, 3) := by decide +kernel
theorem dX9_init_81 : decode cX9_init 81 = .ok (.aload_n 0, 1) := by decide +kernel
theorem dX9_init_82 : decode cX9_init 82 = .ok (.new 50, 3) := by decide +kernel
theorem dX9_init_85 : decode cX9_init 85 = .ok (.dup, 1) := by decide +kernel
theorem dX9_init_86 : decode cX9_init 86 = .ok (.invokespecial 52, 3) := by decide +kernel
theorem dX9_init_89 : decode cX9_init 89 = .ok (.putfield 53, 3) := by decide +kernel
theorem dX9_init_92 : decode cX9_init 92 = .ok (.aload_n 0, 1) := by decide +kernel
theorem dX9_init_93 : decode cX9_init 93 = .ok (.new 57, 3) := by decide +kernel
theorem dX9_init_96 : decode cX9_init 96 = .ok (.dup, 1) := by decide +kernel
theorem dX9_init_97 : decode cX9_init 97 = .ok (.invokespecial 59, 3) := by decide +kernel
theorem dX9_init_100 : decode cX9_init 100 = .ok (.putfield 60, 3) := by decide +kernel
theorem dX9_init_103 : decode cX9_init 103 = .ok (.aload_n 0, 1) := by decide +kernel
theorem dX9_init_104 : decode cX9_init 104 = .ok (.new 64, 3) := by decide +kernel
theorem dX9_init_107 : decode cX9_init 107 = .ok (.dup, 1) := by decide +kernel
theorem dX9_init_108 : decode cX9_init 108 = .ok (.invokespecial 66, 3) := by decide +kernel
theorem dX9_init_111 : decode cX9_init 111 = .ok (.putfield 67, 3) := by decide +kernel
theorem dX9_init_114 : decode cX9_init 114 = .ok (.aload_n 0, 1) := by decide +kernel
theorem dX9_init_115 : decode cX9_init 115 = .ok (.new 71, 3) := by decide +kernel
theorem dX9_init_118 : decode cX9_init 118 = .ok (.dup, 1) := by decide +kernel
theorem dX9_init_119 : decode cX9_init 119 = .ok (.invokespecial 73, 3) := by decide +kernel
theorem dX9_init_122 : decode cX9_init 122 = .ok (.putfield 74, 3) := by decide +kernel
theorem dX9_init_125 : decode cX9_init 125 = .ok (.aload_n 0, 1) := by decide +kernel
theorem dX9_init_126 : decode cX9_init 126 = .ok (.iconst 0, 1) := by decide +kernel
theorem dX9_init_127 : decode cX9_init 127 = .ok (.putfield 78, 3) := by decide +kernel
theorem dX9_init_130 : decode cX9_init 130 = .ok (.aload_n 0, 1) := by decide +kernel
theorem dX9_init_131 : decode cX9_init 131 = .ok (.iconst 0, 1) := by decide +kernel
theorem dX9_init_132 : decode cX9_init 132 = .ok (.putfield 82, 3) := by decide +kernel
theorem dX9_init_135 : decode cX9_init 135 = .ok (.aload_n 0, 1) := by decide +kernel
theorem dX9_init_136 : decode cX9_init 136 = .ok (.iconst 0, 1) := by decide +kernel
theorem dX9_init_137 : decode cX9_init 137 = .ok (.putfield 86, 3) := by decide +kernel
theorem dX9_init_140 : decode cX9_init 140 = .ok (.return_, 1) := by decide +kernel
theorem dX9_letter_0 : decode cX9_letter 0 = .ok (.iload_n 1, 1) := by decide +kernel
theorem dX9_letter_1 : decode cX9_letter 1 = .ok (.iconst 1, 1) := by decide +kernel
theorem dX9_letter_2 : decode cX9_letter 2 = .ok (.if_icmp .lt 9, 3) := by decide +kernel
theorem dX9_letter_5 : decode cX9_letter 5 = .ok (.iload_n 1, 1) := by decide +kernel
theorem dX9_letter_6 : decode cX9_letter 6 = .ok (.bipush 126, 2) := by decide +kernel
theorem dX9_letter_8 : decode cX9_letter 8 = .ok (.if_icmp .le 6, 3) := by decide +kernel
theorem dX9_letter_11 : decode cX9_letter 11 = .ok (.bipush (-102), 2) := by decide +kernel
theorem dX9_letter_13 : decode cX9_letter 13 = .ok (.ireturn, 1) := by decide +kernel
theorem dX9_letter_14 : decode cX9_letter 14 = .ok (.aload_n 0, 1) := by decide +kernel
theorem dX9_letter_15 : decode cX9_letter 15 = .ok (.getfield 10, 3) := by decide +kernel
theorem dX9_letter_18 : decode cX9_letter 18 = .ok (.getfield 89, 3) := by decide +kernel
theorem dX9_letter_21 : decode cX9_letter 21 = .ok (.bipush 54, 2) := by decide +kernel
theorem dX9_letter_23 : decode cX9_letter 23 = .ok (.if_icmp .lt 6, 3) := by decide +kernel
theorem dX9_letter_26 : decode cX9_letter 26 = .ok (.bipush (-104), 2) := by decide +kernel
theorem dX9_letter_28 : decode cX9_letter 28 = .ok (.ireturn, 1) := by decide +kernel
theorem dX9_letter_29 : decode cX9_letter 29 = .ok (.aload_n 0, 1) := by decide +kernel
theorem dX9_letter_30 : decode cX9_letter 30 = .ok (.getfield 10, 3) := by decide +kernel
theorem dX9_letter_33 : decode cX9_letter 33 = .ok (.iload_n 1, 1) := by decide +kernel
theorem dX9_letter_34 : decode cX9_letter 34 = .ok (.invokevirtual 92, 3) := by decide +kernel
theorem dX9_letter_37 : decode cX9_letter 37 = .ok (.aload_n 0, 1) := by decide +kernel
theorem dX9_letter_38 : decode cX9_letter 38 = .ok (.getfield 10, 3) := by decide +kernel
theorem dX9_letter_41 : decode cX9_letter 41 = .ok (.getfield 89, 3) := by decide +kernel
theorem dX9_letter_44 : decode cX9_letter 44 = .ok (.ireturn, 1) := by decide +kernel
theorem dX9_blank_0 : decode cX9_blank 0 = .ok (.aload_n 0, 1) := by decide +kernel
theorem dX9_blank_1 : decode cX9_blank 1 = .ok (.getfield 10, 3) := by decide +kernel
theorem dX9_blank_4 : decode cX9_blank 4 = .ok (.getfield 89, 3) := by decide +kernel
theorem dX9_blank_7 : decode cX9_blank 7 = .ok (.istore_n 1, 1) := by decide +kernel
theorem dX9_blank_8 : decode cX9_blank 8 = .ok (.aload_n 0, 1) := by decide +kernel
theorem dX9_blank_9 : decode cX9_blank 9 = .ok (.getfield 10, 3) := by decide +kernel
theorem dX9_blank_12 : decode cX9_blank 12 = .ok (.iconst 0, 1) := by decide +kernel
theorem dX9_blank_13 : decode cX9_blank 13 = .ok (.putfield 89, 3) := by decide +kernel
theorem dX9_blank_16 : decode cX9_blank 16 = .ok (.iload_n 1, 1) := by decide +kernel
theorem dX9_blank_17 : decode cX9_blank 17 = .ok (.ireturn, 1) := by decide +kernel
theorem dX9_fault_0 : decode cX9_fault 0 = .ok (.aload_n 0, 1) := by decide +kernel
theorem dX9_fault_1 : decode cX9_fault 1 = .ok (.getfield 19, 3) := by decide +kernel
theorem dX9_fault_4 : decode cX9_fault 4 = .ok (.aload_n 0, 1) := by decide +kernel
theorem dX9_fault_5 : decode cX9_fault 5 = .ok (.getfield 10, 3) := by decide +kernel
theorem dX9_fault_8 : decode cX9_fault 8 = .ok (.invokevirtual 96, 3) := by decide +kernel
theorem dX9_fault_11 : decode cX9_fault 11 = .ok (.ireturn, 1) := by decide +kernel
theorem dX9_chapel_0 : decode cX9_chapel 0 = .ok (.aload_n 0, 1) := by decide +kernel
theorem dX9_chapel_1 : decode cX9_chapel 1 = .ok (.getfield 19, 3) := by decide +kernel
theorem dX9_chapel_4 : decode cX9_chapel 4 = .ok (.aload_n 0, 1) := by decide +kernel
theorem dX9_chapel_5 : decode cX9_chapel 5 = .ok (.getfield 10, 3) := by decide +kernel
theorem dX9_chapel_8 : decode cX9_chapel 8 = .ok (.invokevirtual 96, 3) := by decide +kernel
theorem dX9_chapel_11 : decode cX9_chapel 11 = .ok (.aload_n 0, 1) := by decide +kernel
theorem dX9_chapel_12 : decode cX9_chapel 12 = .ok (.getfield 10, 3) := by decide +kernel
theorem dX9_chapel_15 : decode cX9_chapel 15 = .ok (.getfield 89, 3) := by decide +kernel
theorem dX9_chapel_18 : decode cX9_chapel 18 = .ok (.if_icmp .lt 13, 3) := by decide +kernel
theorem dX9_chapel_21 : decode cX9_chapel 21 = .ok (.aload_n 0, 1) := by decide +kernel
theorem dX9_chapel_22 : decode cX9_chapel 22 = .ok (.getfield 19, 3) := by decide +kernel
theorem dX9_chapel_25 : decode cX9_chapel 25 = .ok (.invokevirtual 100, 3) := by decide +kernel
theorem dX9_chapel_28 : decode cX9_chapel 28 = .ok (.ifCond .ne 6, 3) := by decide +kernel
theorem dX9_chapel_31 : decode cX9_chapel 31 = .ok (.bipush (-103), 2) := by decide +kernel
theorem dX9_chapel_33 : decode cX9_chapel 33 = .ok (.ireturn, 1) := by decide +kernel
theorem dX9_chapel_34 : decode cX9_chapel 34 = .ok (.aload_n 0, 1) := by decide +kernel
theorem dX9_chapel_35 : decode cX9_chapel 35 = .ok (.getfield 26, 3) := by decide +kernel
theorem dX9_chapel_38 : decode cX9_chapel 38 = .ok (.aload_n 0, 1) := by decide +kernel
theorem dX9_chapel_39 : decode cX9_chapel 39 = .ok (.getfield 19, 3) := by decide +kernel
theorem dX9_chapel_42 : decode cX9_chapel 42 = .ok (.getfield 104, 3) := by decide +kernel
theorem dX9_chapel_45 : decode cX9_chapel 45 = .ok (.invokevirtual 107, 3) := by decide +kernel
theorem dX9_chapel_48 : decode cX9_chapel 48 = .ok (.aload_n 0, 1) := by decide +kernel
theorem dX9_chapel_49 : decode cX9_chapel 49 = .ok (.getfield 10, 3) := by decide +kernel
theorem dX9_chapel_52 : decode cX9_chapel 52 = .ok (.iconst 0, 1) := by decide +kernel
theorem dX9_chapel_53 : decode cX9_chapel 53 = .ok (.putfield 89, 3) := by decide +kernel
theorem dX9_chapel_56 : decode cX9_chapel 56 = .ok (.aload_n 0, 1) := by decide +kernel
theorem dX9_chapel_57 : decode cX9_chapel 57 = .ok (.iconst 0, 1) := by decide +kernel
theorem dX9_chapel_58 : decode cX9_chapel 58 = .ok (.putfield 78, 3) := by decide +kernel
theorem dX9_chapel_61 : decode cX9_chapel 61 = .ok (.aload_n 0, 1) := by decide +kernel
theorem dX9_chapel_62 : decode cX9_chapel 62 = .ok (.dup, 1) := by decide +kernel
theorem dX9_chapel_63 : decode cX9_chapel 63 = .ok (.getfield 82, 3) := by decide +kernel
theorem dX9_chapel_66 : decode cX9_chapel 66 = .ok (.iconst 1, 1) := by decide +kernel
theorem dX9_chapel_67 : decode cX9_chapel 67 = .ok (.iadd, 1) := by decide +kernel
theorem dX9_chapel_68 : decode cX9_chapel 68 = .ok (.putfield 82, 3) := by decide +kernel
theorem dX9_chapel_71 : decode cX9_chapel 71 = .ok (.aload_n 0, 1) := by decide +kernel
theorem dX9_chapel_72 : decode cX9_chapel 72 = .ok (.getfield 26, 3) := by decide +kernel
theorem dX9_chapel_75 : decode cX9_chapel 75 = .ok (.getfield 111, 3) := by decide +kernel
theorem dX9_chapel_78 : decode cX9_chapel 78 = .ok (.ireturn, 1) := by decide +kernel
theorem dX9_person_0 : decode cX9_person 0 = .ok (.aload_n 0, 1) := by decide +kernel
theorem dX9_person_1 : decode cX9_person 1 = .ok (.getfield 26, 3) := by decide +kernel
theorem dX9_person_4 : decode cX9_person 4 = .ok (.iload_n 1, 1) := by decide +kernel
theorem dX9_person_5 : decode cX9_person 5 = .ok (.invokevirtual 114, 3) := by decide +kernel
theorem dX9_person_8 : decode cX9_person 8 = .ok (.ifCond .ne 6, 3) := by decide +kernel
theorem dX9_person_11 : decode cX9_person 11 = .ok (.bipush (-101), 2) := by decide +kernel
theorem dX9_person_13 : decode cX9_person 13 = .ok (.ireturn, 1) := by decide +kernel
theorem dX9_person_14 : decode cX9_person 14 = .ok (.iload_n 2, 1) := by decide +kernel
theorem dX9_person_15 : decode cX9_person 15 = .ok (.tableswitch 118 0 5 #[37, 47, 57, 63, 80, 90], 37) := by decide +kernel
theorem dX9_person_52 : decode cX9_person 52 = .ok (.aload_n 0, 1) := by decide +kernel
theorem dX9_person_53 : decode cX9_person 53 = .ok (.getfield 26, 3) := by decide +kernel
theorem dX9_person_56 : decode cX9_person 56 = .ok (.getfield 118, 3) := by decide +kernel
theorem dX9_person_59 : decode cX9_person 59 = .ok (.iload_n 1, 1) := by decide +kernel
theorem dX9_person_60 : decode cX9_person 60 = .ok (.iaload, 1) := by decide +kernel
theorem dX9_person_61 : decode cX9_person 61 = .ok (.ireturn, 1) := by decide +kernel
theorem dX9_person_62 : decode cX9_person 62 = .ok (.aload_n 0, 1) := by decide +kernel
theorem dX9_person_63 : decode cX9_person 63 = .ok (.getfield 26, 3) := by decide +kernel
theorem dX9_person_66 : decode cX9_person 66 = .ok (.getfield 122, 3) := by decide +kernel
theorem dX9_person_69 : decode cX9_person 69 = .ok (.iload_n 1, 1) := by decide +kernel
theorem dX9_person_70 : decode cX9_person 70 = .ok (.iaload, 1) := by decide +kernel
theorem dX9_person_71 : decode cX9_person 71 = .ok (.ireturn, 1) := by decide +kernel
theorem dX9_person_72 : decode cX9_person 72 = .ok (.aload_n 0, 1) := by decide +kernel
theorem dX9_person_73 : decode cX9_person 73 = .ok (.iload_n 1, 1) := by decide +kernel
theorem dX9_person_74 : decode cX9_person 74 = .ok (.invokevirtual 125, 3) := by decide +kernel
theorem dX9_person_77 : decode cX9_person 77 = .ok (.ireturn, 1) := by decide +kernel
theorem dX9_person_78 : decode cX9_person 78 = .ok (.aload_n 0, 1) := by decide +kernel
theorem dX9_person_79 : decode cX9_person 79 = .ok (.invokevirtual 129, 3) := by decide +kernel
theorem dX9_person_82 : decode cX9_person 82 = .ok (.iload_n 1, 1) := by decide +kernel
theorem dX9_person_83 : decode cX9_person 83 = .ok (.invokestatic 133, 3) := by decide +kernel
theorem dX9_person_86 : decode cX9_person 86 = .ok (.ifCond .eq 7, 3) := by decide +kernel
theorem dX9_person_89 : decode cX9_person 89 = .ok (.iconst 1, 1) := by decide +kernel
theorem dX9_person_90 : decode cX9_person 90 = .ok (.goto 4, 3) := by decide +kernel
theorem dX9_person_93 : decode cX9_person 93 = .ok (.iconst 0, 1) := by decide +kernel
theorem dX9_person_94 : decode cX9_person 94 = .ok (.ireturn, 1) := by decide +kernel
theorem dX9_person_95 : decode cX9_person 95 = .ok (.aload_n 0, 1) := by decide +kernel
theorem dX9_person_96 : decode cX9_person 96 = .ok (.getfield 26, 3) := by decide +kernel
theorem dX9_person_99 : decode cX9_person 99 = .ok (.getfield 137, 3) := by decide +kernel
theorem dX9_person_102 : decode cX9_person 102 = .ok (.iload_n 1, 1) := by decide +kernel
theorem dX9_person_103 : decode cX9_person 103 = .ok (.iaload, 1) := by decide +kernel
theorem dX9_person_104 : decode cX9_person 104 = .ok (.ireturn, 1) := by decide +kernel
theorem dX9_person_105 : decode cX9_person 105 = .ok (.aload_n 0, 1) := by decide +kernel
theorem dX9_person_106 : decode cX9_person 106 = .ok (.getfield 46, 3) := by decide +kernel
theorem dX9_person_109 : decode cX9_person 109 = .ok (.aload_n 0, 1) := by decide +kernel
theorem dX9_person_110 : decode cX9_person 110 = .ok (.getfield 26, 3) := by decide +kernel
theorem dX9_person_113 : decode cX9_person 113 = .ok (.aload_n 0, 1) := by decide +kernel
theorem dX9_person_114 : decode cX9_person 114 = .ok (.getfield 26, 3) := by decide +kernel
theorem dX9_person_117 : decode cX9_person 117 = .ok (.getfield 140, 3) := by decide +kernel
theorem dX9_person_120 : decode cX9_person 120 = .ok (.invokevirtual 143, 3) := by decide +kernel
theorem dX9_person_123 : decode cX9_person 123 = .ok (.aload_n 0, 1) := by decide +kernel
theorem dX9_person_124 : decode cX9_person 124 = .ok (.getfield 46, 3) := by decide +kernel
theorem dX9_person_127 : decode cX9_person 127 = .ok (.getfield 147, 3) := by decide +kernel
theorem dX9_person_130 : decode cX9_person 130 = .ok (.iload_n 1, 1) := by decide +kernel
theorem dX9_person_131 : decode cX9_person 131 = .ok (.iaload, 1) := by decide +kernel
theorem dX9_person_132 : decode cX9_person 132 = .ok (.ireturn, 1) := by decide +kernel
theorem dX9_person_133 : decode cX9_person 133 = .ok (.bipush (-102), 2) := by decide +kernel
theorem dX9_person_135 : decode cX9_person 135 = .ok (.ireturn, 1) := by decide +kernel
theorem dX9_as_0 : decode cX9_as 0 = .ok (.aload_n 0, 1) := by decide +kernel
theorem dX9_as_1 : decode cX9_as 1 = .ok (.getfield 26, 3) := by decide +kernel
theorem dX9_as_4 : decode cX9_as 4 = .ok (.iload_n 1, 1) := by decide +kernel
theorem dX9_as_5 : decode cX9_as 5 = .ok (.invokevirtual 114, 3) := by decide +kernel
theorem dX9_as_8 : decode cX9_as 8 = .ok (.ifCond .ne 6, 3) := by decide +kernel
theorem dX9_as_11 : decode cX9_as 11 = .ok (.bipush (-101), 2) := by decide +kernel
theorem dX9_as_13 : decode cX9_as 13 = .ok (.ireturn, 1) := by decide +kernel
theorem dX9_as_14 : decode cX9_as 14 = .ok (.iload_n 2, 1) := by decide +kernel
theorem dX9_as_15 : decode cX9_as 15 = .ok (.invokestatic 150, 3) := by decide +kernel
theorem dX9_as_18 : decode cX9_as 18 = .ok (.ifCond .ne 6, 3) := by decide +kernel
theorem dX9_as_21 : decode cX9_as 21 = .ok (.bipush (-102), 2) := by decide +kernel
theorem dX9_as_23 : decode cX9_as 23 = .ok (.ireturn, 1) := by decide +kernel
theorem dX9_as_24 : decode cX9_as 24 = .ok (.aload_n 0, 1) := by decide +kernel
theorem dX9_as_25 : decode cX9_as 25 = .ok (.getfield 26, 3) := by decide +kernel
theorem dX9_as_28 : decode cX9_as 28 = .ok (.getfield 118, 3) := by decide +kernel
theorem dX9_as_31 : decode cX9_as 31 = .ok (.iload_n 1, 1) := by decide +kernel
theorem dX9_as_32 : decode cX9_as 32 = .ok (.iaload, 1) := by decide +kernel
theorem dX9_as_33 : decode cX9_as 33 = .ok (.iload_n 2, 1) := by decide +kernel
theorem dX9_as_34 : decode cX9_as 34 = .ok (.invokestatic 153, 3) := by decide +kernel
theorem dX9_as_37 : decode cX9_as 37 = .ok (.ifCond .eq 7, 3) := by decide +kernel
theorem dX9_as_40 : decode cX9_as 40 = .ok (.iload_n 1, 1) := by decide +kernel
theorem dX9_as_41 : decode cX9_as 41 = .ok (.goto 4, 3) := by decide +kernel
theorem dX9_as_44 : decode cX9_as 44 = .ok (.iconst (-1), 1) := by decide +kernel
theorem dX9_as_45 : decode cX9_as 45 = .ok (.ireturn, 1) := by decide +kernel
theorem dX9_wrong_0 : decode cX9_wrong 0 = .ok (.aload_n 0, 1) := by decide +kernel
theorem dX9_wrong_1 : decode cX9_wrong 1 = .ok (.getfield 26, 3) := by decide +kernel
theorem dX9_wrong_4 : decode cX9_wrong 4 = .ok (.iload_n 1, 1) := by decide +kernel
theorem dX9_wrong_5 : decode cX9_wrong 5 = .ok (.invokevirtual 156, 3) := by decide +kernel
theorem dX9_wrong_8 : decode cX9_wrong 8 = .ok (.ifCond .ne 6, 3) := by decide +kernel
theorem dX9_wrong_11 : decode cX9_wrong 11 = .ok (.bipush (-101), 2) := by decide +kernel
theorem dX9_wrong_13 : decode cX9_wrong 13 = .ok (.ireturn, 1) := by decide +kernel
theorem dX9_wrong_14 : decode cX9_wrong 14 = .ok (.iload_n 2, 1) := by decide +kernel
theorem dX9_wrong_15 : decode cX9_wrong 15 = .ok (.tableswitch 140 0 5 #[37, 47, 57, 67, 84, 112], 37) := by decide +kernel
theorem dX9_wrong_52 : decode cX9_wrong 52 = .ok (.aload_n 0, 1) := by decide +kernel
theorem dX9_wrong_53 : decode cX9_wrong 53 = .ok (.getfield 26, 3) := by decide +kernel
theorem dX9_wrong_56 : decode cX9_wrong 56 = .ok (.getfield 159, 3) := by decide +kernel
theorem dX9_wrong_59 : decode cX9_wrong 59 = .ok (.iload_n 1, 1) := by decide +kernel
theorem dX9_wrong_60 : decode cX9_wrong 60 = .ok (.iaload, 1) := by decide +kernel
theorem dX9_wrong_61 : decode cX9_wrong 61 = .ok (.ireturn, 1) := by decide +kernel
theorem dX9_wrong_62 : decode cX9_wrong 62 = .ok (.aload_n 0, 1) := by decide +kernel
theorem dX9_wrong_63 : decode cX9_wrong 63 = .ok (.getfield 26, 3) := by decide +kernel
theorem dX9_wrong_66 : decode cX9_wrong 66 = .ok (.getfield 162, 3) := by decide +kernel
theorem dX9_wrong_69 : decode cX9_wrong 69 = .ok (.iload_n 1, 1) := by decide +kernel
theorem dX9_wrong_70 : decode cX9_wrong 70 = .ok (.iaload, 1) := by decide +kernel
theorem dX9_wrong_71 : decode cX9_wrong 71 = .ok (.ireturn, 1) := by decide +kernel
theorem dX9_wrong_72 : decode cX9_wrong 72 = .ok (.aload_n 0, 1) := by decide +kernel
theorem dX9_wrong_73 : decode cX9_wrong 73 = .ok (.getfield 26, 3) := by decide +kernel
theorem dX9_wrong_76 : decode cX9_wrong 76 = .ok (.getfield 165, 3) := by decide +kernel
theorem dX9_wrong_79 : decode cX9_wrong 79 = .ok (.iload_n 1, 1) := by decide +kernel
theorem dX9_wrong_80 : decode cX9_wrong 80 = .ok (.iaload, 1) := by decide +kernel
theorem dX9_wrong_81 : decode cX9_wrong 81 = .ok (.ireturn, 1) := by decide +kernel
theorem dX9_wrong_82 : decode cX9_wrong 82 = .ok (.aload_n 0, 1) := by decide +kernel
theorem dX9_wrong_83 : decode cX9_wrong 83 = .ok (.getfield 26, 3) := by decide +kernel
theorem dX9_wrong_86 : decode cX9_wrong 86 = .ok (.iload_n 1, 1) := by decide +kernel
theorem dX9_wrong_87 : decode cX9_wrong 87 = .ok (.invokevirtual 168, 3) := by decide +kernel
theorem dX9_wrong_90 : decode cX9_wrong 90 = .ok (.ifCond .eq 7, 3) := by decide +kernel
theorem dX9_wrong_93 : decode cX9_wrong 93 = .ok (.iconst 1, 1) := by decide +kernel
theorem dX9_wrong_94 : decode cX9_wrong 94 = .ok (.goto 4, 3) := by decide +kernel
theorem dX9_wrong_97 : decode cX9_wrong 97 = .ok (.iconst 0, 1) := by decide +kernel
theorem dX9_wrong_98 : decode cX9_wrong 98 = .ok (.ireturn, 1) := by decide +kernel
theorem dX9_wrong_99 : decode cX9_wrong 99 = .ok (.aload_n 0, 1) := by decide +kernel
theorem dX9_wrong_100 : decode cX9_wrong 100 = .ok (.getfield 67, 3) := by decide +kernel
theorem dX9_wrong_103 : decode cX9_wrong 103 = .ok (.aload_n 0, 1) := by decide +kernel
theorem dX9_wrong_104 : decode cX9_wrong 104 = .ok (.getfield 26, 3) := by decide +kernel
theorem dX9_wrong_107 : decode cX9_wrong 107 = .ok (.iload_n 1, 1) := by decide +kernel
theorem dX9_wrong_108 : decode cX9_wrong 108 = .ok (.aload_n 0, 1) := by decide +kernel
theorem dX9_wrong_109 : decode cX9_wrong 109 = .ok (.getfield 33, 3) := by decide +kernel
theorem dX9_wrong_112 : decode cX9_wrong 112 = .ok (.aload_n 0, 1) := by decide +kernel
theorem dX9_wrong_113 : decode cX9_wrong 113 = .ok (.getfield 39, 3) := by decide +kernel
theorem dX9_wrong_116 : decode cX9_wrong 116 = .ok (.invokevirtual 171, 3) := by decide +kernel
theorem dX9_wrong_119 : decode cX9_wrong 119 = .ok (.aload_n 0, 1) := by decide +kernel
theorem dX9_wrong_120 : decode cX9_wrong 120 = .ok (.getfield 67, 3) := by decide +kernel
theorem dX9_wrong_123 : decode cX9_wrong 123 = .ok (.getfield 174, 3) := by decide +kernel
theorem dX9_wrong_126 : decode cX9_wrong 126 = .ok (.ireturn, 1) := by decide +kernel
theorem dX9_wrong_127 : decode cX9_wrong 127 = .ok (.aload_n 0, 1) := by decide +kernel
theorem dX9_wrong_128 : decode cX9_wrong 128 = .ok (.getfield 67, 3) := by decide +kernel
theorem dX9_wrong_131 : decode cX9_wrong 131 = .ok (.aload_n 0, 1) := by decide +kernel
theorem dX9_wrong_132 : decode cX9_wrong 132 = .ok (.getfield 26, 3) := by decide +kernel
theorem dX9_wrong_135 : decode cX9_wrong 135 = .ok (.iload_n 1, 1) := by decide +kernel
theorem dX9_wrong_136 : decode cX9_wrong 136 = .ok (.aload_n 0, 1) := by decide +kernel
theorem dX9_wrong_137 : decode cX9_wrong 137 = .ok (.getfield 33, 3) := by decide +kernel
theorem dX9_wrong_140 : decode cX9_wrong 140 = .ok (.aload_n 0, 1) := by decide +kernel
theorem dX9_wrong_141 : decode cX9_wrong 141 = .ok (.getfield 39, 3) := by decide +kernel
theorem dX9_wrong_144 : decode cX9_wrong 144 = .ok (.invokevirtual 171, 3) := by decide +kernel
theorem dX9_wrong_147 : decode cX9_wrong 147 = .ok (.aload_n 0, 1) := by decide +kernel
theorem dX9_wrong_148 : decode cX9_wrong 148 = .ok (.getfield 67, 3) := by decide +kernel
theorem dX9_wrong_151 : decode cX9_wrong 151 = .ok (.invokevirtual 177, 3) := by decide +kernel
theorem dX9_wrong_154 : decode cX9_wrong 154 = .ok (.ireturn, 1) := by decide +kernel
theorem dX9_wrong_155 : decode cX9_wrong 155 = .ok (.bipush (-102), 2) := by decide +kernel
theorem dX9_wrong_157 : decode cX9_wrong 157 = .ok (.ireturn, 1) := by decide +kernel
theorem dX9_to_0 : decode cX9_to 0 = .ok (.aload_n 0, 1) := by decide +kernel
theorem dX9_to_1 : decode cX9_to 1 = .ok (.getfield 26, 3) := by decide +kernel
theorem dX9_to_4 : decode cX9_to 4 = .ok (.iload_n 1, 1) := by decide +kernel
theorem dX9_to_5 : decode cX9_to 5 = .ok (.invokevirtual 114, 3) := by decide +kernel
theorem dX9_to_8 : decode cX9_to 8 = .ok (.ifCond .eq 19, 3) := by decide +kernel
theorem dX9_to_11 : decode cX9_to 11 = .ok (.aload_n 0, 1) := by decide +kernel
theorem dX9_to_12 : decode cX9_to 12 = .ok (.getfield 26, 3) := by decide +kernel
theorem dX9_to_15 : decode cX9_to 15 = .ok (.iload_n 2, 1) := by decide +kernel
theorem dX9_to_16 : decode cX9_to 16 = .ok (.invokevirtual 114, 3) := by decide +kernel
theorem dX9_to_19 : decode cX9_to 19 = .ok (.ifCond .eq 8, 3) := by decide +kernel
theorem dX9_to_22 : decode cX9_to 22 = .ok (.iload_n 1, 1) := by decide +kernel
theorem dX9_to_23 : decode cX9_to 23 = .ok (.iload_n 2, 1) := by decide +kernel
theorem dX9_to_24 : decode cX9_to 24 = .ok (.if_icmp .ne 6, 3) := by decide +kernel
theorem dX9_to_27 : decode cX9_to 27 = .ok (.bipush (-101), 2) := by decide +kernel
theorem dX9_to_29 : decode cX9_to 29 = .ok (.ireturn, 1) := by decide +kernel
theorem dX9_to_30 : decode cX9_to 30 = .ok (.aload_n 0, 1) := by decide +kernel
theorem dX9_to_31 : decode cX9_to 31 = .ok (.getfield 46, 3) := by decide +kernel
theorem dX9_to_34 : decode cX9_to 34 = .ok (.aload_n 0, 1) := by decide +kernel
theorem dX9_to_35 : decode cX9_to 35 = .ok (.getfield 26, 3) := by decide +kernel
theorem dX9_to_38 : decode cX9_to 38 = .ok (.aload_n 0, 1) := by decide +kernel
theorem dX9_to_39 : decode cX9_to 39 = .ok (.getfield 26, 3) := by decide +kernel
theorem dX9_to_42 : decode cX9_to 42 = .ok (.getfield 140, 3) := by decide +kernel
theorem dX9_to_45 : decode cX9_to 45 = .ok (.invokevirtual 143, 3) := by decide +kernel
theorem dX9_to_48 : decode cX9_to 48 = .ok (.aload_n 0, 1) := by decide +kernel
theorem dX9_to_49 : decode cX9_to 49 = .ok (.getfield 46, 3) := by decide +kernel
theorem dX9_to_52 : decode cX9_to 52 = .ok (.iload_n 1, 1) := by decide +kernel
theorem dX9_to_53 : decode cX9_to 53 = .ok (.iload_n 2, 1) := by decide +kernel
theorem dX9_to_54 : decode cX9_to 54 = .ok (.invokevirtual 180, 3) := by decide +kernel
theorem dX9_to_57 : decode cX9_to 57 = .ok (.ireturn, 1) := by decide +kernel
theorem dX9_sunday_0 : decode cX9_sunday 0 = .ok (.aload_n 0, 1) := by decide +kernel
theorem dX9_sunday_1 : decode cX9_sunday 1 = .ok (.getfield 26, 3) := by decide +kernel
theorem dX9_sunday_4 : decode cX9_sunday 4 = .ok (.invokevirtual 184, 3) := by decide +kernel
theorem dX9_sunday_7 : decode cX9_sunday 7 = .ok (.ifCond .ne 6, 3) := by decide +kernel
theorem dX9_sunday_10 : decode cX9_sunday 10 = .ok (.bipush (-103), 2) := by decide +kernel
theorem dX9_sunday_12 : decode cX9_sunday 12 = .ok (.ireturn, 1) := by decide +kernel
theorem dX9_sunday_13 : decode cX9_sunday 13 = .ok (.aload_n 0, 1) := by decide +kernel
theorem dX9_sunday_14 : decode cX9_sunday 14 = .ok (.getfield 26, 3) := by decide +kernel
theorem dX9_sunday_17 : decode cX9_sunday 17 = .ok (.getfield 187, 3) := by decide +kernel
theorem dX9_sunday_20 : decode cX9_sunday 20 = .ok (.sipush 999, 3) := by decide +kernel
theorem dX9_sunday_23 : decode cX9_sunday 23 = .ok (.if_icmp .lt 6, 3) := by decide +kernel
theorem dX9_sunday_26 : decode cX9_sunday 26 = .ok (.bipush (-104), 2) := by decide +kernel
theorem dX9_sunday_28 : decode cX9_sunday 28 = .ok (.ireturn, 1) := by decide +kernel
theorem dX9_sunday_29 : decode cX9_sunday 29 = .ok (.aload_n 0, 1) := by decide +kernel
theorem dX9_sunday_30 : decode cX9_sunday 30 = .ok (.getfield 26, 3) := by decide +kernel
theorem dX9_sunday_33 : decode cX9_sunday 33 = .ok (.aload_n 0, 1) := by decide +kernel
theorem dX9_sunday_34 : decode cX9_sunday 34 = .ok (.invokevirtual 129, 3) := by decide +kernel
theorem dX9_sunday_37 : decode cX9_sunday 37 = .ok (.invokevirtual 190, 3) := by decide +kernel
theorem dX9_sunday_40 : decode cX9_sunday 40 = .ok (.ireturn, 1) := by decide +kernel
theorem dX9_forgive_0 : decode cX9_forgive 0 = .ok (.aload_n 0, 1) := by decide +kernel
theorem dX9_forgive_1 : decode cX9_forgive 1 = .ok (.getfield 26, 3) := by decide +kernel
theorem dX9_forgive_4 : decode cX9_forgive 4 = .ok (.iload_n 1, 1) := by decide +kernel
theorem dX9_forgive_5 : decode cX9_forgive 5 = .ok (.invokevirtual 156, 3) := by decide +kernel
theorem dX9_forgive_8 : decode cX9_forgive 8 = .ok (.ifCond .ne 6, 3) := by decide +kernel
theorem dX9_forgive_11 : decode cX9_forgive 11 = .ok (.bipush (-101), 2) := by decide +kernel
theorem dX9_forgive_13 : decode cX9_forgive 13 = .ok (.ireturn, 1) := by decide +kernel
theorem dX9_forgive_14 : decode cX9_forgive 14 = .ok (.aload_n 0, 1) := by decide +kernel
theorem dX9_forgive_15 : decode cX9_forgive 15 = .ok (.getfield 26, 3) := by decide +kernel
theorem dX9_forgive_18 : decode cX9_forgive 18 = .ok (.iload_n 1, 1) := by decide +kernel
theorem dX9_forgive_19 : decode cX9_forgive 19 = .ok (.invokevirtual 168, 3) := by decide +kernel
theorem dX9_forgive_22 : decode cX9_forgive 22 = .ok (.ifCond .eq 6, 3) := by decide +kernel
theorem dX9_forgive_25 : decode cX9_forgive 25 = .ok (.bipush (-103), 2) := by decide +kernel
theorem dX9_forgive_27 : decode cX9_forgive 27 = .ok (.ireturn, 1) := by decide +kernel
theorem dX9_forgive_28 : decode cX9_forgive 28 = .ok (.aload_n 0, 1) := by decide +kernel
theorem dX9_forgive_29 : decode cX9_forgive 29 = .ok (.getfield 26, 3) := by decide +kernel
theorem dX9_forgive_32 : decode cX9_forgive 32 = .ok (.dup, 1) := by decide +kernel
theorem dX9_forgive_33 : decode cX9_forgive 33 = .ok (.getfield 140, 3) := by decide +kernel
theorem dX9_forgive_36 : decode cX9_forgive 36 = .ok (.iconst 1, 1) := by decide +kernel
theorem dX9_forgive_37 : decode cX9_forgive 37 = .ok (.iload_n 1, 1) := by decide +kernel
theorem dX9_forgive_38 : decode cX9_forgive 38 = .ok (.ishl, 1) := by decide +kernel
theorem dX9_forgive_39 : decode cX9_forgive 39 = .ok (.ior, 1) := by decide +kernel
theorem dX9_forgive_40 : decode cX9_forgive 40 = .ok (.putfield 140, 3) := by decide +kernel
theorem dX9_forgive_43 : decode cX9_forgive 43 = .ok (.aload_n 0, 1) := by decide +kernel
theorem dX9_forgive_44 : decode cX9_forgive 44 = .ok (.aload_n 0, 1) := by decide +kernel
theorem dX9_forgive_45 : decode cX9_forgive 45 = .ok (.getfield 26, 3) := by decide +kernel
theorem dX9_forgive_48 : decode cX9_forgive 48 = .ok (.getfield 159, 3) := by decide +kernel
theorem dX9_forgive_51 : decode cX9_forgive 51 = .ok (.iload_n 1, 1) := by decide +kernel
theorem dX9_forgive_52 : decode cX9_forgive 52 = .ok (.iaload, 1) := by decide +kernel
theorem dX9_forgive_53 : decode cX9_forgive 53 = .ok (.invokevirtual 125, 3) := by decide +kernel
theorem dX9_forgive_56 : decode cX9_forgive 56 = .ok (.ireturn, 1) := by decide +kernel
theorem dX9_again_0 : decode cX9_again 0 = .ok (.aload_n 0, 1) := by decide +kernel
theorem dX9_again_1 : decode cX9_again 1 = .ok (.getfield 26, 3) := by decide +kernel
theorem dX9_again_4 : decode cX9_again 4 = .ok (.iload_n 1, 1) := by decide +kernel
theorem dX9_again_5 : decode cX9_again 5 = .ok (.invokevirtual 156, 3) := by decide +kernel
theorem dX9_again_8 : decode cX9_again 8 = .ok (.ifCond .ne 6, 3) := by decide +kernel
theorem dX9_again_11 : decode cX9_again 11 = .ok (.bipush (-101), 2) := by decide +kernel
theorem dX9_again_13 : decode cX9_again 13 = .ok (.ireturn, 1) := by decide +kernel
theorem dX9_again_14 : decode cX9_again 14 = .ok (.iload_n 2, 1) := by decide +kernel
theorem dX9_again_15 : decode cX9_again 15 = .ok (.iconst 1, 1) := by decide +kernel
theorem dX9_again_16 : decode cX9_again 16 = .ok (.if_icmp .lt 9, 3) := by decide +kernel
theorem dX9_again_19 : decode cX9_again 19 = .ok (.iload_n 2, 1) := by decide +kernel
theorem dX9_again_20 : decode cX9_again 20 = .ok (.bipush 9, 2) := by decide +kernel
theorem dX9_again_22 : decode cX9_again 22 = .ok (.if_icmp .le 6, 3) := by decide +kernel
theorem dX9_again_25 : decode cX9_again 25 = .ok (.bipush (-102), 2) := by decide +kernel
theorem dX9_again_27 : decode cX9_again 27 = .ok (.ireturn, 1) := by decide +kernel
theorem dX9_again_28 : decode cX9_again 28 = .ok (.aload_n 0, 1) := by decide +kernel
theorem dX9_again_29 : decode cX9_again 29 = .ok (.getfield 26, 3) := by decide +kernel
theorem dX9_again_32 : decode cX9_again 32 = .ok (.getfield 165, 3) := by decide +kernel
theorem dX9_again_35 : decode cX9_again 35 = .ok (.iload_n 1, 1) := by decide +kernel
theorem dX9_again_36 : decode cX9_again 36 = .ok (.iload_n 2, 1) := by decide +kernel
theorem dX9_again_37 : decode cX9_again 37 = .ok (.iastore, 1) := by decide +kernel
theorem dX9_again_38 : decode cX9_again 38 = .ok (.aload_n 0, 1) := by decide +kernel
theorem dX9_again_39 : decode cX9_again 39 = .ok (.getfield 26, 3) := by decide +kernel
theorem dX9_again_42 : decode cX9_again 42 = .ok (.dup, 1) := by decide +kernel
theorem dX9_again_43 : decode cX9_again 43 = .ok (.getfield 140, 3) := by decide +kernel
theorem dX9_again_46 : decode cX9_again 46 = .ok (.iconst 1, 1) := by decide +kernel
theorem dX9_again_47 : decode cX9_again 47 = .ok (.iload_n 1, 1) := by decide +kernel
theorem dX9_again_48 : decode cX9_again 48 = .ok (.ishl, 1) := by decide +kernel
theorem dX9_again_49 : decode cX9_again 49 = .ok (.iconst (-1), 1) := by decide +kernel
theorem dX9_again_50 : decode cX9_again 50 = .ok (.ixor, 1) := by decide +kernel
theorem dX9_again_51 : decode cX9_again 51 = .ok (.iand, 1) := by decide +kernel
theorem dX9_again_52 : decode cX9_again 52 = .ok (.putfield 140, 3) := by decide +kernel
theorem dX9_again_55 : decode cX9_again 55 = .ok (.aload_n 0, 1) := by decide +kernel
theorem dX9_again_56 : decode cX9_again 56 = .ok (.aload_n 0, 1) := by decide +kernel
theorem dX9_again_57 : decode cX9_again 57 = .ok (.getfield 26, 3) := by decide +kernel
theorem dX9_again_60 : decode cX9_again 60 = .ok (.getfield 159, 3) := by decide +kernel
theorem dX9_again_63 : decode cX9_again 63 = .ok (.iload_n 1, 1) := by decide +kernel
theorem dX9_again_64 : decode cX9_again 64 = .ok (.iaload, 1) := by decide +kernel
theorem dX9_again_65 : decode cX9_again 65 = .ok (.invokevirtual 125, 3) := by decide +kernel
theorem dX9_again_68 : decode cX9_again 68 = .ok (.ireturn, 1) := by decide +kernel
theorem dX9_room_0 : decode cX9_room 0 = .ok (.iload_n 1, 1) := by decide +kernel
theorem dX9_room_1 : decode cX9_room 1 = .ok (.invokestatic 193, 3) := by decide +kernel
theorem dX9_room_4 : decode cX9_room 4 = .ok (.ifCond .ne 6, 3) := by decide +kernel
theorem dX9_room_7 : decode cX9_room 7 = .ok (.bipush (-102), 2) := by decide +kernel
theorem dX9_room_9 : decode cX9_room 9 = .ok (.ireturn, 1) := by decide +kernel
theorem dX9_room_10 : decode cX9_room 10 = .ok (.aload_n 0, 1) := by decide +kernel
theorem dX9_room_11 : decode cX9_room 11 = .ok (.getfield 26, 3) := by decide +kernel
theorem dX9_room_14 : decode cX9_room 14 = .ok (.invokevirtual 184, 3) := by decide +kernel
theorem dX9_room_17 : decode cX9_room 17 = .ok (.ifCond .ne 6, 3) := by decide +kernel
theorem dX9_room_20 : decode cX9_room 20 = .ok (.bipush (-103), 2) := by decide +kernel
theorem dX9_room_22 : decode cX9_room 22 = .ok (.ireturn, 1) := by decide +kernel
theorem dX9_room_23 : decode cX9_room 23 = .ok (.aload_n 0, 1) := by decide +kernel
theorem dX9_room_24 : decode cX9_room 24 = .ok (.getfield 26, 3) := by decide +kernel
theorem dX9_room_27 : decode cX9_room 27 = .ok (.getfield 196, 3) := by decide +kernel
theorem dX9_room_30 : decode cX9_room 30 = .ok (.istore_n 2, 1) := by decide +kernel
theorem dX9_room_31 : decode cX9_room 31 = .ok (.aload_n 0, 1) := by decide +kernel
theorem dX9_room_32 : decode cX9_room 32 = .ok (.getfield 26, 3) := by decide +kernel
theorem dX9_room_35 : decode cX9_room 35 = .ok (.iload_n 1, 1) := by decide +kernel
theorem dX9_room_36 : decode cX9_room 36 = .ok (.putfield 196, 3) := by decide +kernel
theorem dX9_room_39 : decode cX9_room 39 = .ok (.iload_n 2, 1) := by decide +kernel
theorem dX9_room_40 : decode cX9_room 40 = .ok (.ireturn, 1) := by decide +kernel
theorem dX9_change_0 : decode cX9_change 0 = .ok (.aload_n 0, 1) := by decide +kernel
theorem dX9_change_1 : decode cX9_change 1 = .ok (.getfield 26, 3) := by decide +kernel
theorem dX9_change_4 : decode cX9_change 4 = .ok (.iload_n 1, 1) := by decide +kernel
theorem dX9_change_5 : decode cX9_change 5 = .ok (.invokevirtual 114, 3) := by decide +kernel
theorem dX9_change_8 : decode cX9_change 8 = .ok (.ifCond .ne 6, 3) := by decide +kernel
theorem dX9_change_11 : decode cX9_change 11 = .ok (.bipush (-101), 2) := by decide +kernel
theorem dX9_change_13 : decode cX9_change 13 = .ok (.ireturn, 1) := by decide +kernel
theorem dX9_change_14 : decode cX9_change 14 = .ok (.iload_n 2, 1) := by decide +kernel
theorem dX9_change_15 : decode cX9_change 15 = .ok (.invokestatic 150, 3) := by decide +kernel
theorem dX9_change_18 : decode cX9_change 18 = .ok (.ifCond .eq 13, 3) := by decide +kernel
theorem dX9_change_21 : decode cX9_change 21 = .ok (.iload_n 3, 1) := by decide +kernel
theorem dX9_change_22 : decode cX9_change 22 = .ok (.ifCond .lt 9, 3) := by decide +kernel
theorem dX9_change_25 : decode cX9_change 25 = .ok (.iload_n 3, 1) := by decide +kernel
theorem dX9_change_26 : decode cX9_change 26 = .ok (.bipush 20, 2) := by decide +kernel
theorem dX9_change_28 : decode cX9_change 28 = .ok (.if_icmp .le 6, 3) := by decide +kernel
theorem dX9_change_31 : decode cX9_change 31 = .ok (.bipush (-102), 2) := by decide +kernel
theorem dX9_change_33 : decode cX9_change 33 = .ok (.ireturn, 1) := by decide +kernel
theorem dX9_change_34 : decode cX9_change 34 = .ok (.aload_n 0, 1) := by decide +kernel
theorem dX9_change_35 : decode cX9_change 35 = .ok (.getfield 26, 3) := by decide +kernel
theorem dX9_change_38 : decode cX9_change 38 = .ok (.getfield 118, 3) := by decide +kernel
theorem dX9_change_41 : decode cX9_change 41 = .ok (.iload_n 1, 1) := by decide +kernel
theorem dX9_change_42 : decode cX9_change 42 = .ok (.iaload, 1) := by decide +kernel
theorem dX9_change_43 : decode cX9_change 43 = .ok (.istore 4, 2) := by decide +kernel
theorem dX9_change_45 : decode cX9_change 45 = .ok (.aload_n 0, 1) := by decide +kernel
theorem dX9_change_46 : decode cX9_change 46 = .ok (.getfield 26, 3) := by decide +kernel
theorem dX9_change_49 : decode cX9_change 49 = .ok (.getfield 118, 3) := by decide +kernel
theorem dX9_change_52 : decode cX9_change 52 = .ok (.iload_n 1, 1) := by decide +kernel
theorem dX9_change_53 : decode cX9_change 53 = .ok (.iload_n 2, 1) := by decide +kernel
theorem dX9_change_54 : decode cX9_change 54 = .ok (.iastore, 1) := by decide +kernel
theorem dX9_change_55 : decode cX9_change 55 = .ok (.aload_n 0, 1) := by decide +kernel
theorem dX9_change_56 : decode cX9_change 56 = .ok (.getfield 26, 3) := by decide +kernel
theorem dX9_change_59 : decode cX9_change 59 = .ok (.getfield 122, 3) := by decide +kernel
theorem dX9_change_62 : decode cX9_change 62 = .ok (.iload_n 1, 1) := by decide +kernel
theorem dX9_change_63 : decode cX9_change 63 = .ok (.iload_n 3, 1) := by decide +kernel
theorem dX9_change_64 : decode cX9_change 64 = .ok (.iastore, 1) := by decide +kernel
theorem dX9_change_65 : decode cX9_change 65 = .ok (.iload 4, 2) := by decide +kernel
theorem dX9_change_67 : decode cX9_change 67 = .ok (.ireturn, 1) := by decide +kernel
theorem dX9_leave_0 : decode cX9_leave 0 = .ok (.iload_n 1, 1) := by decide +kernel
theorem dX9_leave_1 : decode cX9_leave 1 = .ok (.iconst 1, 1) := by decide +kernel
theorem dX9_leave_2 : decode cX9_leave 2 = .ok (.if_icmp .lt 18, 3) := by decide +kernel
theorem dX9_leave_5 : decode cX9_leave 5 = .ok (.iload_n 1, 1) := by decide +kernel
theorem dX9_leave_6 : decode cX9_leave 6 = .ok (.bipush 6, 2) := by decide +kernel
theorem dX9_leave_8 : decode cX9_leave 8 = .ok (.if_icmp .gt 12, 3) := by decide +kernel
theorem dX9_leave_11 : decode cX9_leave 11 = .ok (.iload_n 2, 1) := by decide +kernel
theorem dX9_leave_12 : decode cX9_leave 12 = .ok (.ifCond .lt 8, 3) := by decide +kernel
theorem dX9_leave_15 : decode cX9_leave 15 = .ok (.iload_n 2, 1) := by decide +kernel
theorem dX9_leave_16 : decode cX9_leave 16 = .ok (.iconst 2, 1) := by decide +kernel
theorem dX9_leave_17 : decode cX9_leave 17 = .ok (.if_icmp .le 6, 3) := by decide +kernel
theorem dX9_leave_20 : decode cX9_leave 20 = .ok (.bipush (-102), 2) := by decide +kernel
theorem dX9_leave_22 : decode cX9_leave 22 = .ok (.ireturn, 1) := by decide +kernel
theorem dX9_leave_23 : decode cX9_leave 23 = .ok (.aload_n 0, 1) := by decide +kernel
theorem dX9_leave_24 : decode cX9_leave 24 = .ok (.getfield 26, 3) := by decide +kernel
theorem dX9_leave_27 : decode cX9_leave 27 = .ok (.invokevirtual 184, 3) := by decide +kernel
theorem dX9_leave_30 : decode cX9_leave 30 = .ok (.ifCond .eq 12, 3) := by decide +kernel
theorem dX9_leave_33 : decode cX9_leave 33 = .ok (.aload_n 0, 1) := by decide +kernel
theorem dX9_leave_34 : decode cX9_leave 34 = .ok (.getfield 86, 3) := by decide +kernel
theorem dX9_leave_37 : decode cX9_leave 37 = .ok (.bipush 20, 2) := by decide +kernel
theorem dX9_leave_39 : decode cX9_leave 39 = .ok (.if_icmp .lt 6, 3) := by decide +kernel
theorem dX9_leave_42 : decode cX9_leave 42 = .ok (.bipush (-103), 2) := by decide +kernel
theorem dX9_leave_44 : decode cX9_leave 44 = .ok (.ireturn, 1) := by decide +kernel
theorem dX9_leave_45 : decode cX9_leave 45 = .ok (.aload_n 0, 1) := by decide +kernel
theorem dX9_leave_46 : decode cX9_leave 46 = .ok (.dup, 1) := by decide +kernel
theorem dX9_leave_47 : decode cX9_leave 47 = .ok (.getfield 86, 3) := by decide +kernel
theorem dX9_leave_50 : decode cX9_leave 50 = .ok (.iconst 1, 1) := by decide +kernel
theorem dX9_leave_51 : decode cX9_leave 51 = .ok (.iadd, 1) := by decide +kernel
theorem dX9_leave_52 : decode cX9_leave 52 = .ok (.putfield 86, 3) := by decide +kernel
theorem dX9_leave_55 : decode cX9_leave 55 = .ok (.aload_n 0, 1) := by decide +kernel
theorem dX9_leave_56 : decode cX9_leave 56 = .ok (.getfield 53, 3) := by decide +kernel
theorem dX9_leave_59 : decode cX9_leave 59 = .ok (.aload_n 0, 1) := by decide +kernel
theorem dX9_leave_60 : decode cX9_leave 60 = .ok (.getfield 26, 3) := by decide +kernel
theorem dX9_leave_63 : decode cX9_leave 63 = .ok (.iload_n 1, 1) := by decide +kernel
theorem dX9_leave_64 : decode cX9_leave 64 = .ok (.aload_n 0, 1) := by decide +kernel
theorem dX9_leave_65 : decode cX9_leave 65 = .ok (.getfield 39, 3) := by decide +kernel
theorem dX9_leave_68 : decode cX9_leave 68 = .ok (.invokevirtual 199, 3) := by decide +kernel
theorem dX9_leave_71 : decode cX9_leave 71 = .ok (.iload_n 2, 1) := by decide +kernel
theorem dX9_leave_72 : decode cX9_leave 72 = .ok (.ifCond .ne 11, 3) := by decide +kernel
theorem dX9_leave_75 : decode cX9_leave 75 = .ok (.aload_n 0, 1) := by decide +kernel
theorem dX9_leave_76 : decode cX9_leave 76 = .ok (.getfield 53, 3) := by decide +kernel
theorem dX9_leave_79 : decode cX9_leave 79 = .ok (.getfield 203, 3) := by decide +kernel
theorem dX9_leave_82 : decode cX9_leave 82 = .ok (.ireturn, 1) := by decide +kernel
theorem dX9_leave_83 : decode cX9_leave 83 = .ok (.iload_n 2, 1) := by decide +kernel
theorem dX9_leave_84 : decode cX9_leave 84 = .ok (.iconst 1, 1) := by decide +kernel
theorem dX9_leave_85 : decode cX9_leave 85 = .ok (.if_icmp .ne 13, 3) := by decide +kernel
theorem dX9_leave_88 : decode cX9_leave 88 = .ok (.aload_n 0, 1) := by decide +kernel
theorem dX9_leave_89 : decode cX9_leave 89 = .ok (.getfield 53, 3) := by decide +kernel
theorem dX9_leave_92 : decode cX9_leave 92 = .ok (.getfield 206, 3) := by decide +kernel
theorem dX9_leave_95 : decode cX9_leave 95 = .ok (.goto 10, 3) := by decide +kernel
theorem dX9_leave_98 : decode cX9_leave 98 = .ok (.aload_n 0, 1) := by decide +kernel
theorem dX9_leave_99 : decode cX9_leave 99 = .ok (.getfield 53, 3) := by decide +kernel
theorem dX9_leave_102 : decode cX9_leave 102 = .ok (.getfield 209, 3) := by decide +kernel
theorem dX9_leave_105 : decode cX9_leave 105 = .ok (.ireturn, 1) := by decide +kernel
theorem dX9_ring_0 : decode cX9_ring 0 = .ok (.aload_n 0, 1) := by decide +kernel
theorem dX9_ring_1 : decode cX9_ring 1 = .ok (.getfield 26, 3) := by decide +kernel
theorem dX9_ring_4 : decode cX9_ring 4 = .ok (.invokevirtual 184, 3) := by decide +kernel
theorem dX9_ring_7 : decode cX9_ring 7 = .ok (.ifCond .ne 6, 3) := by decide +kernel
theorem dX9_ring_10 : decode cX9_ring 10 = .ok (.bipush (-103), 2) := by decide +kernel
theorem dX9_ring_12 : decode cX9_ring 12 = .ok (.ireturn, 1) := by decide +kernel
theorem dX9_ring_13 : decode cX9_ring 13 = .ok (.aload_n 0, 1) := by decide +kernel
theorem dX9_ring_14 : decode cX9_ring 14 = .ok (.getfield 46, 3) := by decide +kernel
theorem dX9_ring_17 : decode cX9_ring 17 = .ok (.aload_n 0, 1) := by decide +kernel
theorem dX9_ring_18 : decode cX9_ring 18 = .ok (.getfield 26, 3) := by decide +kernel
theorem dX9_ring_21 : decode cX9_ring 21 = .ok (.aload_n 0, 1) := by decide +kernel
theorem dX9_ring_22 : decode cX9_ring 22 = .ok (.getfield 26, 3) := by decide +kernel
theorem dX9_ring_25 : decode cX9_ring 25 = .ok (.getfield 140, 3) := by decide +kernel
theorem dX9_ring_28 : decode cX9_ring 28 = .ok (.invokevirtual 143, 3) := by decide +kernel
theorem dX9_ring_31 : decode cX9_ring 31 = .ok (.aload_n 0, 1) := by decide +kernel
theorem dX9_ring_32 : decode cX9_ring 32 = .ok (.getfield 46, 3) := by decide +kernel
theorem dX9_ring_35 : decode cX9_ring 35 = .ok (.invokevirtual 212, 3) := by decide +kernel
theorem dX9_ring_38 : decode cX9_ring 38 = .ok (.ireturn, 1) := by decide +kernel
theorem dX9_peace_0 : decode cX9_peace 0 = .ok (.iload_n 1, 1) := by decide +kernel
theorem dX9_peace_1 : decode cX9_peace 1 = .ok (.ifCond .lt 8, 3) := by decide +kernel
theorem dX9_peace_4 : decode cX9_peace 4 = .ok (.iload_n 1, 1) := by decide +kernel
theorem dX9_peace_5 : decode cX9_peace 5 = .ok (.iconst 1, 1) := by decide +kernel
theorem dX9_peace_6 : decode cX9_peace 6 = .ok (.if_icmp .le 6, 3) := by decide +kernel
theorem dX9_peace_9 : decode cX9_peace 9 = .ok (.bipush (-102), 2) := by decide +kernel
theorem dX9_peace_11 : decode cX9_peace 11 = .ok (.ireturn, 1) := by decide +kernel
theorem dX9_peace_12 : decode cX9_peace 12 = .ok (.aload_n 0, 1) := by decide +kernel
theorem dX9_peace_13 : decode cX9_peace 13 = .ok (.getfield 26, 3) := by decide +kernel
theorem dX9_peace_16 : decode cX9_peace 16 = .ok (.invokevirtual 184, 3) := by decide +kernel
theorem dX9_peace_19 : decode cX9_peace 19 = .ok (.ifCond .ne 6, 3) := by decide +kernel
theorem dX9_peace_22 : decode cX9_peace 22 = .ok (.bipush (-103), 2) := by decide +kernel
theorem dX9_peace_24 : decode cX9_peace 24 = .ok (.ireturn, 1) := by decide +kernel
theorem dX9_peace_25 : decode cX9_peace 25 = .ok (.aload_n 0, 1) := by decide +kernel
theorem dX9_peace_26 : decode cX9_peace 26 = .ok (.getfield 46, 3) := by decide +kernel
theorem dX9_peace_29 : decode cX9_peace 29 = .ok (.aload_n 0, 1) := by decide +kernel
theorem dX9_peace_30 : decode cX9_peace 30 = .ok (.getfield 26, 3) := by decide +kernel
theorem dX9_peace_33 : decode cX9_peace 33 = .ok (.invokevirtual 215, 3) := by decide +kernel
theorem dX9_peace_36 : decode cX9_peace 36 = .ok (.istore_n 2, 1) := by decide +kernel
theorem dX9_peace_37 : decode cX9_peace 37 = .ok (.iload_n 1, 1) := by decide +kernel
theorem dX9_peace_38 : decode cX9_peace 38 = .ok (.ifCond .ne 10, 3) := by decide +kernel
theorem dX9_peace_41 : decode cX9_peace 41 = .ok (.iload_n 2, 1) := by decide +kernel
theorem dX9_peace_42 : decode cX9_peace 42 = .ok (.invokestatic 219, 3) := by decide +kernel
theorem dX9_peace_45 : decode cX9_peace 45 = .ok (.goto 4, 3) := by decide +kernel
theorem dX9_peace_48 : decode cX9_peace 48 = .ok (.iload_n 2, 1) := by decide +kernel
theorem dX9_peace_49 : decode cX9_peace 49 = .ok (.ireturn, 1) := by decide +kernel
theorem dX9_odds_0 : decode cX9_odds 0 = .ok (.aload_n 0, 1) := by decide +kernel
theorem dX9_odds_1 : decode cX9_odds 1 = .ok (.getfield 26, 3) := by decide +kernel
theorem dX9_odds_4 : decode cX9_odds 4 = .ok (.iload_n 1, 1) := by decide +kernel
theorem dX9_odds_5 : decode cX9_odds 5 = .ok (.invokevirtual 114, 3) := by decide +kernel
theorem dX9_odds_8 : decode cX9_odds 8 = .ok (.ifCond .ne 6, 3) := by decide +kernel
theorem dX9_odds_11 : decode cX9_odds 11 = .ok (.bipush (-101), 2) := by decide +kernel
theorem dX9_odds_13 : decode cX9_odds 13 = .ok (.ireturn, 1) := by decide +kernel
theorem dX9_odds_14 : decode cX9_odds 14 = .ok (.iload_n 2, 1) := by decide +kernel
theorem dX9_odds_15 : decode cX9_odds 15 = .ok (.ifCond .lt 18, 3) := by decide +kernel
theorem dX9_odds_18 : decode cX9_odds 18 = .ok (.iload_n 2, 1) := by decide +kernel
theorem dX9_odds_19 : decode cX9_odds 19 = .ok (.bipush 10, 2) := by decide +kernel
theorem dX9_odds_21 : decode cX9_odds 21 = .ok (.if_icmp .gt 12, 3) := by decide +kernel
theorem dX9_odds_24 : decode cX9_odds 24 = .ok (.iload_n 3, 1) := by decide +kernel
theorem dX9_odds_25 : decode cX9_odds 25 = .ok (.ifCond .lt 8, 3) := by decide +kernel
theorem dX9_odds_28 : decode cX9_odds 28 = .ok (.iload_n 3, 1) := by decide +kernel
theorem dX9_odds_29 : decode cX9_odds 29 = .ok (.iconst 1, 1) := by decide +kernel
theorem dX9_odds_30 : decode cX9_odds 30 = .ok (.if_icmp .le 6, 3) := by decide +kernel
theorem dX9_odds_33 : decode cX9_odds 33 = .ok (.bipush (-102), 2) := by decide +kernel
theorem dX9_odds_35 : decode cX9_odds 35 = .ok (.ireturn, 1) := by decide +kernel
theorem dX9_odds_36 : decode cX9_odds 36 = .ok (.aload_n 0, 1) := by decide +kernel
theorem dX9_odds_37 : decode cX9_odds 37 = .ok (.getfield 60, 3) := by decide +kernel
theorem dX9_odds_40 : decode cX9_odds 40 = .ok (.aload_n 0, 1) := by decide +kernel
theorem dX9_odds_41 : decode cX9_odds 41 = .ok (.getfield 26, 3) := by decide +kernel
theorem dX9_odds_44 : decode cX9_odds 44 = .ok (.iload_n 2, 1) := by decide +kernel
theorem dX9_odds_45 : decode cX9_odds 45 = .ok (.aload_n 0, 1) := by decide +kernel
theorem dX9_odds_46 : decode cX9_odds 46 = .ok (.getfield 39, 3) := by decide +kernel
theorem dX9_odds_49 : decode cX9_odds 49 = .ok (.invokevirtual 224, 3) := by decide +kernel
theorem dX9_odds_52 : decode cX9_odds 52 = .ok (.iload_n 3, 1) := by decide +kernel
theorem dX9_odds_53 : decode cX9_odds 53 = .ok (.ifCond .ne 14, 3) := by decide +kernel
theorem dX9_odds_56 : decode cX9_odds 56 = .ok (.aload_n 0, 1) := by decide +kernel
theorem dX9_odds_57 : decode cX9_odds 57 = .ok (.getfield 60, 3) := by decide +kernel
theorem dX9_odds_60 : decode cX9_odds 60 = .ok (.iload_n 1, 1) := by decide +kernel
theorem dX9_odds_61 : decode cX9_odds 61 = .ok (.invokevirtual 226, 3) := by decide +kernel
theorem dX9_odds_64 : decode cX9_odds 64 = .ok (.goto 11, 3) := by decide +kernel
theorem dX9_odds_67 : decode cX9_odds 67 = .ok (.aload_n 0, 1) := by decide +kernel
theorem dX9_odds_68 : decode cX9_odds 68 = .ok (.getfield 60, 3) := by decide +kernel
theorem dX9_odds_71 : decode cX9_odds 71 = .ok (.iload_n 1, 1) := by decide +kernel
theorem dX9_odds_72 : decode cX9_odds 72 = .ok (.invokevirtual 229, 3) := by decide +kernel
theorem dX9_odds_75 : decode cX9_odds 75 = .ok (.ireturn, 1) := by decide +kernel
theorem dX9_see_0 : decode cX9_see 0 = .ok (.aload_n 0, 1) := by decide +kernel
theorem dX9_see_1 : decode cX9_see 1 = .ok (.getfield 26, 3) := by decide +kernel
theorem dX9_see_4 : decode cX9_see 4 = .ok (.iload_n 1, 1) := by decide +kernel
theorem dX9_see_5 : decode cX9_see 5 = .ok (.invokevirtual 156, 3) := by decide +kernel
theorem dX9_see_8 : decode cX9_see 8 = .ok (.ifCond .ne 6, 3) := by decide +kernel
theorem dX9_see_11 : decode cX9_see 11 = .ok (.bipush (-101), 2) := by decide +kernel
theorem dX9_see_13 : decode cX9_see 13 = .ok (.ireturn, 1) := by decide +kernel
theorem dX9_see_14 : decode cX9_see 14 = .ok (.iload_n 2, 1) := by decide +kernel
theorem dX9_see_15 : decode cX9_see 15 = .ok (.invokestatic 193, 3) := by decide +kernel
theorem dX9_see_18 : decode cX9_see 18 = .ok (.ifCond .ne 6, 3) := by decide +kernel
theorem dX9_see_21 : decode cX9_see 21 = .ok (.bipush (-102), 2) := by decide +kernel
theorem dX9_see_23 : decode cX9_see 23 = .ok (.ireturn, 1) := by decide +kernel
theorem dX9_see_24 : decode cX9_see 24 = .ok (.aload_n 0, 1) := by decide +kernel
theorem dX9_see_25 : decode cX9_see 25 = .ok (.getfield 26, 3) := by decide +kernel
theorem dX9_see_28 : decode cX9_see 28 = .ok (.getfield 232, 3) := by decide +kernel
theorem dX9_see_31 : decode cX9_see 31 = .ok (.bipush 6, 2) := by decide +kernel
theorem dX9_see_33 : decode cX9_see 33 = .ok (.if_icmp .lt 6, 3) := by decide +kernel
theorem dX9_see_36 : decode cX9_see 36 = .ok (.bipush (-104), 2) := by decide +kernel
theorem dX9_see_38 : decode cX9_see 38 = .ok (.ireturn, 1) := by decide +kernel
theorem dX9_see_39 : decode cX9_see 39 = .ok (.aload_n 0, 1) := by decide +kernel
theorem dX9_see_40 : decode cX9_see 40 = .ok (.getfield 26, 3) := by decide +kernel
theorem dX9_see_43 : decode cX9_see 43 = .ok (.iload_n 1, 1) := by decide +kernel
theorem dX9_see_44 : decode cX9_see 44 = .ok (.iload_n 2, 1) := by decide +kernel
theorem dX9_see_45 : decode cX9_see 45 = .ok (.iload_n 3, 1) := by decide +kernel
theorem dX9_see_46 : decode cX9_see 46 = .ok (.invokevirtual 235, 3) := by decide +kernel
theorem dX9_see_49 : decode cX9_see 49 = .ok (.aload_n 0, 1) := by decide +kernel
theorem dX9_see_50 : decode cX9_see 50 = .ok (.getfield 26, 3) := by decide +kernel
theorem dX9_see_53 : decode cX9_see 53 = .ok (.getfield 232, 3) := by decide +kernel
theorem dX9_see_56 : decode cX9_see 56 = .ok (.ireturn, 1) := by decide +kernel
theorem dX9_forget_0 : decode cX9_forget 0 = .ok (.aload_n 0, 1) := by decide +kernel
theorem dX9_forget_1 : decode cX9_forget 1 = .ok (.getfield 26, 3) := by decide +kernel
theorem dX9_forget_4 : decode cX9_forget 4 = .ok (.getfield 232, 3) := by decide +kernel
theorem dX9_forget_7 : decode cX9_forget 7 = .ok (.istore_n 1, 1) := by decide +kernel
theorem dX9_forget_8 : decode cX9_forget 8 = .ok (.aload_n 0, 1) := by decide +kernel
theorem dX9_forget_9 : decode cX9_forget 9 = .ok (.getfield 26, 3) := by decide +kernel
theorem dX9_forget_12 : decode cX9_forget 12 = .ok (.iconst 0, 1) := by decide +kernel
theorem dX9_forget_13 : decode cX9_forget 13 = .ok (.putfield 232, 3) := by decide +kernel
theorem dX9_forget_16 : decode cX9_forget 16 = .ok (.iload_n 1, 1) := by decide +kernel
theorem dX9_forget_17 : decode cX9_forget 17 = .ok (.ireturn, 1) := by decide +kernel
theorem dX9_winters_0 : decode cX9_winters 0 = .ok (.iload_n 1, 1) := by decide +kernel
theorem dX9_winters_1 : decode cX9_winters 1 = .ok (.iconst 1, 1) := by decide +kernel
theorem dX9_winters_2 : decode cX9_winters 2 = .ok (.if_icmp .lt 22, 3) := by decide +kernel
theorem dX9_winters_5 : decode cX9_winters 5 = .ok (.iload_n 1, 1) := by decide +kernel
theorem dX9_winters_6 : decode cX9_winters 6 = .ok (.bipush 60, 2) := by decide +kernel
theorem dX9_winters_8 : decode cX9_winters 8 = .ok (.if_icmp .gt 16, 3) := by decide +kernel
theorem dX9_winters_11 : decode cX9_winters 11 = .ok (.iload_n 2, 1) := by decide +kernel
theorem dX9_winters_12 : decode cX9_winters 12 = .ok (.ifCond .lt 12, 3) := by decide +kernel
theorem dX9_winters_15 : decode cX9_winters 15 = .ok (.iload_n 3, 1) := by decide +kernel
theorem dX9_winters_16 : decode cX9_winters 16 = .ok (.ifCond .lt 8, 3) := by decide +kernel
theorem dX9_winters_19 : decode cX9_winters 19 = .ok (.iload_n 3, 1) := by decide +kernel
theorem dX9_winters_20 : decode cX9_winters 20 = .ok (.iconst 2, 1) := by decide +kernel
theorem dX9_winters_21 : decode cX9_winters 21 = .ok (.if_icmp .le 6, 3) := by decide +kernel
theorem dX9_winters_24 : decode cX9_winters 24 = .ok (.bipush (-102), 2) := by decide +kernel
theorem dX9_winters_26 : decode cX9_winters 26 = .ok (.ireturn, 1) := by decide +kernel
theorem dX9_winters_27 : decode cX9_winters 27 = .ok (.aload_n 0, 1) := by decide +kernel
theorem dX9_winters_28 : decode cX9_winters 28 = .ok (.getfield 26, 3) := by decide +kernel
theorem dX9_winters_31 : decode cX9_winters 31 = .ok (.invokevirtual 184, 3) := by decide +kernel
theorem dX9_winters_34 : decode cX9_winters 34 = .ok (.ifCond .ne 6, 3) := by decide +kernel
theorem dX9_winters_37 : decode cX9_winters 37 = .ok (.bipush (-103), 2) := by decide +kernel
theorem dX9_winters_39 : decode cX9_winters 39 = .ok (.ireturn, 1) := by decide +kernel
theorem dX9_winters_40 : decode cX9_winters 40 = .ok (.aload_n 0, 1) := by decide +kernel
theorem dX9_winters_41 : decode cX9_winters 41 = .ok (.getfield 33, 3) := by decide +kernel
theorem dX9_winters_44 : decode cX9_winters 44 = .ok (.aload_n 0, 1) := by decide +kernel
theorem dX9_winters_45 : decode cX9_winters 45 = .ok (.getfield 26, 3) := by decide +kernel
theorem dX9_winters_48 : decode cX9_winters 48 = .ok (.invokevirtual 107, 3) := by decide +kernel
theorem dX9_winters_51 : decode cX9_winters 51 = .ok (.aload_n 0, 1) := by decide +kernel
theorem dX9_winters_52 : decode cX9_winters 52 = .ok (.getfield 74, 3) := by decide +kernel
theorem dX9_winters_55 : decode cX9_winters 55 = .ok (.aload_n 0, 1) := by decide +kernel
theorem dX9_winters_56 : decode cX9_winters 56 = .ok (.getfield 33, 3) := by decide +kernel
theorem dX9_winters_59 : decode cX9_winters 59 = .ok (.iload_n 1, 1) := by decide +kernel
theorem dX9_winters_60 : decode cX9_winters 60 = .ok (.iload_n 2, 1) := by decide +kernel
theorem dX9_winters_61 : decode cX9_winters 61 = .ok (.aload_n 0, 1) := by decide +kernel
theorem dX9_winters_62 : decode cX9_winters 62 = .ok (.getfield 39, 3) := by decide +kernel
theorem dX9_winters_65 : decode cX9_winters 65 = .ok (.invokevirtual 239, 3) := by decide +kernel
theorem dX9_winters_68 : decode cX9_winters 68 = .ok (.iload_n 3, 1) := by decide +kernel
theorem dX9_winters_69 : decode cX9_winters 69 = .ok (.ifCond .ne 11, 3) := by decide +kernel
theorem dX9_winters_72 : decode cX9_winters 72 = .ok (.aload_n 0, 1) := by decide +kernel
theorem dX9_winters_73 : decode cX9_winters 73 = .ok (.getfield 74, 3) := by decide +kernel
theorem dX9_winters_76 : decode cX9_winters 76 = .ok (.getfield 243, 3) := by decide +kernel
theorem dX9_winters_79 : decode cX9_winters 79 = .ok (.ireturn, 1) := by decide +kernel
theorem dX9_winters_80 : decode cX9_winters 80 = .ok (.iload_n 3, 1) := by decide +kernel
theorem dX9_winters_81 : decode cX9_winters 81 = .ok (.iconst 1, 1) := by decide +kernel
theorem dX9_winters_82 : decode cX9_winters 82 = .ok (.if_icmp .ne 13, 3) := by decide +kernel
theorem dX9_winters_85 : decode cX9_winters 85 = .ok (.aload_n 0, 1) := by decide +kernel
theorem dX9_winters_86 : decode cX9_winters 86 = .ok (.getfield 33, 3) := by decide +kernel
theorem dX9_winters_89 : decode cX9_winters 89 = .ok (.invokevirtual 244, 3) := by decide +kernel
theorem dX9_winters_92 : decode cX9_winters 92 = .ok (.goto 10, 3) := by decide +kernel
theorem dX9_winters_95 : decode cX9_winters 95 = .ok (.aload_n 0, 1) := by decide +kernel
theorem dX9_winters_96 : decode cX9_winters 96 = .ok (.getfield 74, 3) := by decide +kernel
theorem dX9_winters_99 : decode cX9_winters 99 = .ok (.getfield 247, 3) := by decide +kernel
theorem dX9_winters_102 : decode cX9_winters 102 = .ok (.ireturn, 1) := by decide +kernel
theorem dX9_image_0 : decode cX9_image 0 = .ok (.aload_n 0, 1) := by decide +kernel
theorem dX9_image_1 : decode cX9_image 1 = .ok (.getfield 26, 3) := by decide +kernel
theorem dX9_image_4 : decode cX9_image 4 = .ok (.invokevirtual 184, 3) := by decide +kernel
theorem dX9_image_7 : decode cX9_image 7 = .ok (.ifCond .ne 6, 3) := by decide +kernel
theorem dX9_image_10 : decode cX9_image 10 = .ok (.bipush (-103), 2) := by decide +kernel
theorem dX9_image_12 : decode cX9_image 12 = .ok (.ireturn, 1) := by decide +kernel
theorem dX9_image_13 : decode cX9_image 13 = .ok (.aload_n 0, 1) := by decide +kernel
theorem dX9_image_14 : decode cX9_image 14 = .ok (.getfield 30, 3) := by decide +kernel
theorem dX9_image_17 : decode cX9_image 17 = .ok (.aload_n 0, 1) := by decide +kernel
theorem dX9_image_18 : decode cX9_image 18 = .ok (.getfield 26, 3) := by decide +kernel
theorem dX9_image_21 : decode cX9_image 21 = .ok (.invokevirtual 107, 3) := by decide +kernel
theorem dX9_image_24 : decode cX9_image 24 = .ok (.aload_n 0, 1) := by decide +kernel
theorem dX9_image_25 : decode cX9_image 25 = .ok (.iconst 1, 1) := by decide +kernel
theorem dX9_image_26 : decode cX9_image 26 = .ok (.putfield 78, 3) := by decide +kernel
theorem dX9_image_29 : decode cX9_image 29 = .ok (.aload_n 0, 1) := by decide +kernel
theorem dX9_image_30 : decode cX9_image 30 = .ok (.getfield 26, 3) := by decide +kernel
theorem dX9_image_33 : decode cX9_image 33 = .ok (.getfield 187, 3) := by decide +kernel
theorem dX9_image_36 : decode cX9_image 36 = .ok (.ireturn, 1) := by decide +kernel
theorem dX9_restore_0 : decode cX9_restore 0 = .ok (.aload_n 0, 1) := by decide +kernel
theorem dX9_restore_1 : decode cX9_restore 1 = .ok (.getfield 78, 3) := by decide +kernel
theorem dX9_restore_4 : decode cX9_restore 4 = .ok (.ifCond .ne 6, 3) := by decide +kernel
theorem dX9_restore_7 : decode cX9_restore 7 = .ok (.bipush (-103), 2) := by decide +kernel
theorem dX9_restore_9 : decode cX9_restore 9 = .ok (.ireturn, 1) := by decide +kernel
theorem dX9_restore_10 : decode cX9_restore 10 = .ok (.aload_n 0, 1) := by decide +kernel
theorem dX9_restore_11 : decode cX9_restore 11 = .ok (.getfield 26, 3) := by decide +kernel
theorem dX9_restore_14 : decode cX9_restore 14 = .ok (.aload_n 0, 1) := by decide +kernel
theorem dX9_restore_15 : decode cX9_restore 15 = .ok (.getfield 30, 3) := by decide +kernel
theorem dX9_restore_18 : decode cX9_restore 18 = .ok (.invokevirtual 107, 3) := by decide +kernel
theorem dX9_restore_21 : decode cX9_restore 21 = .ok (.aload_n 0, 1) := by decide +kernel
theorem dX9_restore_22 : decode cX9_restore 22 = .ok (.getfield 26, 3) := by decide +kernel
theorem dX9_restore_25 : decode cX9_restore 25 = .ok (.getfield 187, 3) := by decide +kernel
theorem dX9_restore_28 : decode cX9_restore 28 = .ok (.ireturn, 1) := by decide +kernel
theorem dX9_count_0 : decode cX9_count 0 = .ok (.iload_n 1, 1) := by decide +kernel
theorem dX9_count_1 : decode cX9_count 1 = .ok (.tableswitch 186 0 12 #[67, 75, 83, 91, 99, 107, 133, 144, 152, 160, 168, 176, 181], 67) := by decide +kernel
theorem dX9_count_68 : decode cX9_count 68 = .ok (.aload_n 0, 1) := by decide +kernel
theorem dX9_count_69 : decode cX9_count 69 = .ok (.getfield 26, 3) := by decide +kernel
theorem dX9_count_72 : decode cX9_count 72 = .ok (.getfield 111, 3) := by decide +kernel
theorem dX9_count_75 : decode cX9_count 75 = .ok (.ireturn, 1) := by decide +kernel
theorem dX9_count_76 : decode cX9_count 76 = .ok (.aload_n 0, 1) := by decide +kernel
theorem dX9_count_77 : decode cX9_count 77 = .ok (.getfield 26, 3) := by decide +kernel
theorem dX9_count_80 : decode cX9_count 80 = .ok (.getfield 250, 3) := by decide +kernel
theorem dX9_count_83 : decode cX9_count 83 = .ok (.ireturn, 1) := by decide +kernel
theorem dX9_count_84 : decode cX9_count 84 = .ok (.aload_n 0, 1) := by decide +kernel
theorem dX9_count_85 : decode cX9_count 85 = .ok (.getfield 26, 3) := by decide +kernel
theorem dX9_count_88 : decode cX9_count 88 = .ok (.getfield 196, 3) := by decide +kernel
theorem dX9_count_91 : decode cX9_count 91 = .ok (.ireturn, 1) := by decide +kernel
theorem dX9_count_92 : decode cX9_count 92 = .ok (.aload_n 0, 1) := by decide +kernel
theorem dX9_count_93 : decode cX9_count 93 = .ok (.invokevirtual 129, 3) := by decide +kernel
theorem dX9_count_96 : decode cX9_count 96 = .ok (.invokestatic 219, 3) := by decide +kernel
theorem dX9_count_99 : decode cX9_count 99 = .ok (.ireturn, 1) := by decide +kernel
theorem dX9_count_100 : decode cX9_count 100 = .ok (.aload_n 0, 1) := by decide +kernel
theorem dX9_count_101 : decode cX9_count 101 = .ok (.getfield 26, 3) := by decide +kernel
theorem dX9_count_104 : decode cX9_count 104 = .ok (.invokevirtual 244, 3) := by decide +kernel
theorem dX9_count_107 : decode cX9_count 107 = .ok (.ireturn, 1) := by decide +kernel
theorem dX9_count_108 : decode cX9_count 108 = .ok (.aload_n 0, 1) := by decide +kernel
theorem dX9_count_109 : decode cX9_count 109 = .ok (.getfield 39, 3) := by decide +kernel
theorem dX9_count_112 : decode cX9_count 112 = .ok (.aload_n 0, 1) := by decide +kernel
theorem dX9_count_113 : decode cX9_count 113 = .ok (.getfield 26, 3) := by decide +kernel
theorem dX9_count_116 : decode cX9_count 116 = .ok (.aload_n 0, 1) := by decide +kernel
theorem dX9_count_117 : decode cX9_count 117 = .ok (.getfield 26, 3) := by decide +kernel
theorem dX9_count_120 : decode cX9_count 120 = .ok (.getfield 140, 3) := by decide +kernel
theorem dX9_count_123 : decode cX9_count 123 = .ok (.invokevirtual 253, 3) := by decide +kernel
theorem dX9_count_126 : decode cX9_count 126 = .ok (.aload_n 0, 1) := by decide +kernel
theorem dX9_count_127 : decode cX9_count 127 = .ok (.getfield 39, 3) := by decide +kernel
theorem dX9_count_130 : decode cX9_count 130 = .ok (.invokevirtual 254, 3) := by decide +kernel
theorem dX9_count_133 : decode cX9_count 133 = .ok (.ireturn, 1) := by decide +kernel
theorem dX9_count_134 : decode cX9_count 134 = .ok (.aload_n 0, 1) := by decide +kernel
theorem dX9_count_135 : decode cX9_count 135 = .ok (.getfield 26, 3) := by decide +kernel
theorem dX9_count_138 : decode cX9_count 138 = .ok (.getfield 140, 3) := by decide +kernel
theorem dX9_count_141 : decode cX9_count 141 = .ok (.invokestatic 219, 3) := by decide +kernel
theorem dX9_count_144 : decode cX9_count 144 = .ok (.ireturn, 1) := by decide +kernel
theorem dX9_count_145 : decode cX9_count 145 = .ok (.aload_n 0, 1) := by decide +kernel
theorem dX9_count_146 : decode cX9_count 146 = .ok (.getfield 26, 3) := by decide +kernel
theorem dX9_count_149 : decode cX9_count 149 = .ok (.getfield 187, 3) := by decide +kernel
theorem dX9_count_152 : decode cX9_count 152 = .ok (.ireturn, 1) := by decide +kernel
theorem dX9_count_153 : decode cX9_count 153 = .ok (.aload_n 0, 1) := by decide +kernel
theorem dX9_count_154 : decode cX9_count 154 = .ok (.getfield 26, 3) := by decide +kernel
theorem dX9_count_157 : decode cX9_count 157 = .ok (.invokevirtual 257, 3) := by decide +kernel
theorem dX9_count_160 : decode cX9_count 160 = .ok (.ireturn, 1) := by decide +kernel
theorem dX9_count_161 : decode cX9_count 161 = .ok (.aload_n 0, 1) := by decide +kernel
theorem dX9_count_162 : decode cX9_count 162 = .ok (.getfield 26, 3) := by decide +kernel
theorem dX9_count_165 : decode cX9_count 165 = .ok (.getfield 232, 3) := by decide +kernel
theorem dX9_count_168 : decode cX9_count 168 = .ok (.ireturn, 1) := by decide +kernel
theorem dX9_count_169 : decode cX9_count 169 = .ok (.aload_n 0, 1) := by decide +kernel
theorem dX9_count_170 : decode cX9_count 170 = .ok (.getfield 10, 3) := by decide +kernel
theorem dX9_count_173 : decode cX9_count 173 = .ok (.getfield 89, 3) := by decide +kernel
theorem dX9_count_176 : decode cX9_count 176 = .ok (.ireturn, 1) := by decide +kernel
theorem dX9_count_177 : decode cX9_count 177 = .ok (.aload_n 0, 1) := by decide +kernel
theorem dX9_count_178 : decode cX9_count 178 = .ok (.getfield 82, 3) := by decide +kernel
theorem dX9_count_181 : decode cX9_count 181 = .ok (.ireturn, 1) := by decide +kernel
theorem dX9_count_182 : decode cX9_count 182 = .ok (.aload_n 0, 1) := by decide +kernel
theorem dX9_count_183 : decode cX9_count 183 = .ok (.getfield 86, 3) := by decide +kernel
theorem dX9_count_186 : decode cX9_count 186 = .ok (.ireturn, 1) := by decide +kernel
theorem dX9_count_187 : decode cX9_count 187 = .ok (.bipush (-102), 2) := by decide +kernel
theorem dX9_count_189 : decode cX9_count 189 = .ok (.ireturn, 1) := by decide +kernel
theorem dX9_digest_0 : decode cX9_digest 0 = .ok (.aload_n 0, 1) := by decide +kernel
theorem dX9_digest_1 : decode cX9_digest 1 = .ok (.aload_n 0, 1) := by decide +kernel
theorem dX9_digest_2 : decode cX9_digest 2 = .ok (.ldc2_w 260, 3) := by decide +kernel
theorem dX9_digest_5 : decode cX9_digest 5 = .ok (.invokevirtual 262, 3) := by decide +kernel
theorem dX9_digest_8 : decode cX9_digest 8 = .ok (.invokevirtual 266, 3) := by decide +kernel
theorem dX9_digest_11 : decode cX9_digest 11 = .ok (.lstore_n 1, 1) := by decide +kernel
theorem dX9_digest_12 : decode cX9_digest 12 = .ok (.aload_n 0, 1) := by decide +kernel
theorem dX9_digest_13 : decode cX9_digest 13 = .ok (.getfield 26, 3) := by decide +kernel
theorem dX9_digest_16 : decode cX9_digest 16 = .ok (.invokevirtual 184, 3) := by decide +kernel
theorem dX9_digest_19 : decode cX9_digest 19 = .ok (.ifCond .eq 9, 3) := by decide +kernel
theorem dX9_digest_22 : decode cX9_digest 22 = .ok (.aload_n 0, 1) := by decide +kernel
theorem dX9_digest_23 : decode cX9_digest 23 = .ok (.lload_n 1, 1) := by decide +kernel
theorem dX9_digest_24 : decode cX9_digest 24 = .ok (.invokevirtual 269, 3) := by decide +kernel
theorem dX9_digest_27 : decode cX9_digest 27 = .ok (.lstore_n 1, 1) := by decide +kernel
theorem dX9_digest_28 : decode cX9_digest 28 = .ok (.iconst 0, 1) := by decide +kernel
theorem dX9_digest_29 : decode cX9_digest 29 = .ok (.istore_n 3, 1) := by decide +kernel
theorem dX9_digest_30 : decode cX9_digest 30 = .ok (.iload_n 3, 1) := by decide +kernel
theorem dX9_digest_31 : decode cX9_digest 31 = .ok (.aload_n 0, 1) := by decide +kernel
theorem dX9_digest_32 : decode cX9_digest 32 = .ok (.getfield 10, 3) := by decide +kernel
theorem dX9_digest_35 : decode cX9_digest 35 = .ok (.getfield 89, 3) := by decide +kernel
theorem dX9_digest_38 : decode cX9_digest 38 = .ok (.if_icmp .ge 26, 3) := by decide +kernel
theorem dX9_digest_41 : decode cX9_digest 41 = .ok (.ldc2_w 272, 3) := by decide +kernel
theorem dX9_digest_44 : decode cX9_digest 44 = .ok (.lload_n 1, 1) := by decide +kernel
theorem dX9_digest_45 : decode cX9_digest 45 = .ok (.lmul, 1) := by decide +kernel
theorem dX9_digest_46 : decode cX9_digest 46 = .ok (.aload_n 0, 1) := by decide +kernel
theorem dX9_digest_47 : decode cX9_digest 47 = .ok (.getfield 10, 3) := by decide +kernel
theorem dX9_digest_50 : decode cX9_digest 50 = .ok (.getfield 274, 3) := by decide +kernel
theorem dX9_digest_53 : decode cX9_digest 53 = .ok (.iload_n 3, 1) := by decide +kernel
theorem dX9_digest_54 : decode cX9_digest 54 = .ok (.iaload, 1) := by decide +kernel
theorem dX9_digest_55 : decode cX9_digest 55 = .ok (.i2l, 1) := by decide +kernel
theorem dX9_digest_56 : decode cX9_digest 56 = .ok (.ladd, 1) := by decide +kernel
theorem dX9_digest_57 : decode cX9_digest 57 = .ok (.lstore_n 1, 1) := by decide +kernel
theorem dX9_digest_58 : decode cX9_digest 58 = .ok (.iinc 3 1, 3) := by decide +kernel
theorem dX9_digest_61 : decode cX9_digest 61 = .ok (.goto (-31), 3) := by decide +kernel
theorem dX9_digest_64 : decode cX9_digest 64 = .ok (.iconst 0, 1) := by decide +kernel
theorem dX9_digest_65 : decode cX9_digest 65 = .ok (.istore_n 3, 1) := by decide +kernel
theorem dX9_digest_66 : decode cX9_digest 66 = .ok (.iload_n 3, 1) := by decide +kernel
theorem dX9_digest_67 : decode cX9_digest 67 = .ok (.bipush 12, 2) := by decide +kernel
theorem dX9_digest_69 : decode cX9_digest 69 = .ok (.if_icmp .gt 22, 3) := by decide +kernel
theorem dX9_digest_72 : decode cX9_digest 72 = .ok (.ldc2_w 272, 3) := by decide +kernel
theorem dX9_digest_75 : decode cX9_digest 75 = .ok (.lload_n 1, 1) := by decide +kernel
theorem dX9_digest_76 : decode cX9_digest 76 = .ok (.lmul, 1) := by decide +kernel
theorem dX9_digest_77 : decode cX9_digest 77 = .ok (.aload_n 0, 1) := by decide +kernel
theorem dX9_digest_78 : decode cX9_digest 78 = .ok (.iload_n 3, 1) := by decide +kernel
theorem dX9_digest_79 : decode cX9_digest 79 = .ok (.invokevirtual 277, 3) := by decide +kernel
theorem dX9_digest_82 : decode cX9_digest 82 = .ok (.i2l, 1) := by decide +kernel
theorem dX9_digest_83 : decode cX9_digest 83 = .ok (.ladd, 1) := by decide +kernel
theorem dX9_digest_84 : decode cX9_digest 84 = .ok (.lstore_n 1, 1) := by decide +kernel
theorem dX9_digest_85 : decode cX9_digest 85 = .ok (.iinc 3 1, 3) := by decide +kernel
theorem dX9_digest_88 : decode cX9_digest 88 = .ok (.goto (-22), 3) := by decide +kernel
theorem dX9_digest_91 : decode cX9_digest 91 = .ok (.lload_n 1, 1) := by decide +kernel
theorem dX9_digest_92 : decode cX9_digest 92 = .ok (.lreturn, 1) := by decide +kernel
theorem dX9_digestPeople_0 : decode cX9_digestPeople 0 = .ok (.lload_n 1, 1) := by decide +kernel
theorem dX9_digestPeople_1 : decode cX9_digestPeople 1 = .ok (.lstore_n 3, 1) := by decide +kernel
theorem dX9_digestPeople_2 : decode cX9_digestPeople 2 = .ok (.aload_n 0, 1) := by decide +kernel
theorem dX9_digestPeople_3 : decode cX9_digestPeople 3 = .ok (.getfield 60, 3) := by decide +kernel
theorem dX9_digestPeople_6 : decode cX9_digestPeople 6 = .ok (.aload_n 0, 1) := by decide +kernel
theorem dX9_digestPeople_7 : decode cX9_digestPeople 7 = .ok (.getfield 26, 3) := by decide +kernel
theorem dX9_digestPeople_10 : decode cX9_digestPeople 10 = .ok (.iconst 4, 1) := by decide +kernel
theorem dX9_digestPeople_11 : decode cX9_digestPeople 11 = .ok (.aload_n 0, 1) := by decide +kernel
theorem dX9_digestPeople_12 : decode cX9_digestPeople 12 = .ok (.getfield 39, 3) := by decide +kernel
theorem dX9_digestPeople_15 : decode cX9_digestPeople 15 = .ok (.invokevirtual 224, 3) := by decide +kernel
theorem dX9_digestPeople_18 : decode cX9_digestPeople 18 = .ok (.iconst 0, 1) := by decide +kernel
theorem dX9_digestPeople_19 : decode cX9_digestPeople 19 = .ok (.istore 5, 2) := by decide +kernel
theorem dX9_digestPeople_21 : decode cX9_digestPeople 21 = .ok (.iload 5, 2) := by decide +kernel
theorem dX9_digestPeople_23 : decode cX9_digestPeople 23 = .ok (.aload_n 0, 1) := by decide +kernel
theorem dX9_digestPeople_24 : decode cX9_digestPeople 24 = .ok (.getfield 26, 3) := by decide +kernel
theorem dX9_digestPeople_27 : decode cX9_digestPeople 27 = .ok (.getfield 111, 3) := by decide +kernel
theorem dX9_digestPeople_30 : decode cX9_digestPeople 30 = .ok (.if_icmp .ge 74, 3) := by decide +kernel
theorem dX9_digestPeople_33 : decode cX9_digestPeople 33 = .ok (.iconst 0, 1) := by decide +kernel
theorem dX9_digestPeople_34 : decode cX9_digestPeople 34 = .ok (.istore 6, 2) := by decide +kernel
theorem dX9_digestPeople_36 : decode cX9_digestPeople 36 = .ok (.iload 6, 2) := by decide +kernel
theorem dX9_digestPeople_38 : decode cX9_digestPeople 38 = .ok (.iconst 5, 1) := by decide +kernel
theorem dX9_digestPeople_39 : decode cX9_digestPeople 39 = .ok (.if_icmp .gt 25, 3) := by decide +kernel
theorem dX9_digestPeople_42 : decode cX9_digestPeople 42 = .ok (.ldc2_w 272, 3) := by decide +kernel
theorem dX9_digestPeople_45 : decode cX9_digestPeople 45 = .ok (.lload_n 3, 1) := by decide +kernel
theorem dX9_digestPeople_46 : decode cX9_digestPeople 46 = .ok (.lmul, 1) := by decide +kernel
theorem dX9_digestPeople_47 : decode cX9_digestPeople 47 = .ok (.aload_n 0, 1) := by decide +kernel
theorem dX9_digestPeople_48 : decode cX9_digestPeople 48 = .ok (.iload 5, 2) := by decide +kernel
theorem dX9_digestPeople_50 : decode cX9_digestPeople 50 = .ok (.iload 6, 2) := by decide +kernel
theorem dX9_digestPeople_52 : decode cX9_digestPeople 52 = .ok (.invokevirtual 280, 3) := by decide +kernel
theorem dX9_digestPeople_55 : decode cX9_digestPeople 55 = .ok (.i2l, 1) := by decide +kernel
theorem dX9_digestPeople_56 : decode cX9_digestPeople 56 = .ok (.ladd, 1) := by decide +kernel
theorem dX9_digestPeople_57 : decode cX9_digestPeople 57 = .ok (.lstore_n 3, 1) := by decide +kernel
theorem dX9_digestPeople_58 : decode cX9_digestPeople 58 = .ok (.iinc 6 1, 3) := by decide +kernel
theorem dX9_digestPeople_61 : decode cX9_digestPeople 61 = .ok (.goto (-25), 3) := by decide +kernel
theorem dX9_digestPeople_64 : decode cX9_digestPeople 64 = .ok (.ldc2_w 272, 3) := by decide +kernel
theorem dX9_digestPeople_67 : decode cX9_digestPeople 67 = .ok (.lload_n 3, 1) := by decide +kernel
theorem dX9_digestPeople_68 : decode cX9_digestPeople 68 = .ok (.lmul, 1) := by decide +kernel
theorem dX9_digestPeople_69 : decode cX9_digestPeople 69 = .ok (.aload_n 0, 1) := by decide +kernel
theorem dX9_digestPeople_70 : decode cX9_digestPeople 70 = .ok (.getfield 60, 3) := by decide +kernel
theorem dX9_digestPeople_73 : decode cX9_digestPeople 73 = .ok (.iload 5, 2) := by decide +kernel
theorem dX9_digestPeople_75 : decode cX9_digestPeople 75 = .ok (.invokevirtual 226, 3) := by decide +kernel
theorem dX9_digestPeople_78 : decode cX9_digestPeople 78 = .ok (.i2l, 1) := by decide +kernel
theorem dX9_digestPeople_79 : decode cX9_digestPeople 79 = .ok (.ladd, 1) := by decide +kernel
theorem dX9_digestPeople_80 : decode cX9_digestPeople 80 = .ok (.lstore_n 3, 1) := by decide +kernel
theorem dX9_digestPeople_81 : decode cX9_digestPeople 81 = .ok (.ldc2_w 272, 3) := by decide +kernel
theorem dX9_digestPeople_84 : decode cX9_digestPeople 84 = .ok (.lload_n 3, 1) := by decide +kernel
theorem dX9_digestPeople_85 : decode cX9_digestPeople 85 = .ok (.lmul, 1) := by decide +kernel
theorem dX9_digestPeople_86 : decode cX9_digestPeople 86 = .ok (.aload_n 0, 1) := by decide +kernel
theorem dX9_digestPeople_87 : decode cX9_digestPeople 87 = .ok (.getfield 60, 3) := by decide +kernel
theorem dX9_digestPeople_90 : decode cX9_digestPeople 90 = .ok (.iload 5, 2) := by decide +kernel
theorem dX9_digestPeople_92 : decode cX9_digestPeople 92 = .ok (.invokevirtual 229, 3) := by decide +kernel
theorem dX9_digestPeople_95 : decode cX9_digestPeople 95 = .ok (.i2l, 1) := by decide +kernel
theorem dX9_digestPeople_96 : decode cX9_digestPeople 96 = .ok (.ladd, 1) := by decide +kernel
theorem dX9_digestPeople_97 : decode cX9_digestPeople 97 = .ok (.lstore_n 3, 1) := by decide +kernel
theorem dX9_digestPeople_98 : decode cX9_digestPeople 98 = .ok (.iinc 5 1, 3) := by decide +kernel
theorem dX9_digestPeople_101 : decode cX9_digestPeople 101 = .ok (.goto (-80), 3) := by decide +kernel
theorem dX9_digestPeople_104 : decode cX9_digestPeople 104 = .ok (.lload_n 3, 1) := by decide +kernel
theorem dX9_digestPeople_105 : decode cX9_digestPeople 105 = .ok (.lreturn, 1) := by decide +kernel
theorem dX9_digestWrongs_0 : decode cX9_digestWrongs 0 = .ok (.lload_n 1, 1) := by decide +kernel
theorem dX9_digestWrongs_1 : decode cX9_digestWrongs 1 = .ok (.lstore_n 3, 1) := by decide +kernel
theorem dX9_digestWrongs_2 : decode cX9_digestWrongs 2 = .ok (.iconst 0, 1) := by decide +kernel
theorem dX9_digestWrongs_3 : decode cX9_digestWrongs 3 = .ok (.istore 5, 2) := by decide +kernel
theorem dX9_digestWrongs_5 : decode cX9_digestWrongs 5 = .ok (.iload 5, 2) := by decide +kernel
theorem dX9_digestWrongs_7 : decode cX9_digestWrongs 7 = .ok (.aload_n 0, 1) := by decide +kernel
theorem dX9_digestWrongs_8 : decode cX9_digestWrongs 8 = .ok (.getfield 26, 3) := by decide +kernel
theorem dX9_digestWrongs_11 : decode cX9_digestWrongs 11 = .ok (.getfield 250, 3) := by decide +kernel
theorem dX9_digestWrongs_14 : decode cX9_digestWrongs 14 = .ok (.if_icmp .ge 40, 3) := by decide +kernel
theorem dX9_digestWrongs_17 : decode cX9_digestWrongs 17 = .ok (.iconst 0, 1) := by decide +kernel
theorem dX9_digestWrongs_18 : decode cX9_digestWrongs 18 = .ok (.istore 6, 2) := by decide +kernel
theorem dX9_digestWrongs_20 : decode cX9_digestWrongs 20 = .ok (.iload 6, 2) := by decide +kernel
theorem dX9_digestWrongs_22 : decode cX9_digestWrongs 22 = .ok (.iconst 5, 1) := by decide +kernel
theorem dX9_digestWrongs_23 : decode cX9_digestWrongs 23 = .ok (.if_icmp .gt 25, 3) := by decide +kernel
theorem dX9_digestWrongs_26 : decode cX9_digestWrongs 26 = .ok (.ldc2_w 272, 3) := by decide +kernel
theorem dX9_digestWrongs_29 : decode cX9_digestWrongs 29 = .ok (.lload_n 3, 1) := by decide +kernel
theorem dX9_digestWrongs_30 : decode cX9_digestWrongs 30 = .ok (.lmul, 1) := by decide +kernel
theorem dX9_digestWrongs_31 : decode cX9_digestWrongs 31 = .ok (.aload_n 0, 1) := by decide +kernel
theorem dX9_digestWrongs_32 : decode cX9_digestWrongs 32 = .ok (.iload 5, 2) := by decide +kernel
theorem dX9_digestWrongs_34 : decode cX9_digestWrongs 34 = .ok (.iload 6, 2) := by decide +kernel
theorem dX9_digestWrongs_36 : decode cX9_digestWrongs 36 = .ok (.invokevirtual 283, 3) := by decide +kernel
theorem dX9_digestWrongs_39 : decode cX9_digestWrongs 39 = .ok (.i2l, 1) := by decide +kernel
theorem dX9_digestWrongs_40 : decode cX9_digestWrongs 40 = .ok (.ladd, 1) := by decide +kernel
theorem dX9_digestWrongs_41 : decode cX9_digestWrongs 41 = .ok (.lstore_n 3, 1) := by decide +kernel
theorem dX9_digestWrongs_42 : decode cX9_digestWrongs 42 = .ok (.iinc 6 1, 3) := by decide +kernel
theorem dX9_digestWrongs_45 : decode cX9_digestWrongs 45 = .ok (.goto (-25), 3) := by decide +kernel
theorem dX9_digestWrongs_48 : decode cX9_digestWrongs 48 = .ok (.iinc 5 1, 3) := by decide +kernel
theorem dX9_digestWrongs_51 : decode cX9_digestWrongs 51 = .ok (.goto (-46), 3) := by decide +kernel
theorem dX9_digestWrongs_54 : decode cX9_digestWrongs 54 = .ok (.lload_n 3, 1) := by decide +kernel
theorem dX9_digestWrongs_55 : decode cX9_digestWrongs 55 = .ok (.lreturn, 1) := by decide +kernel
theorem dX9_digestGrudges_0 : decode cX9_digestGrudges 0 = .ok (.lload_n 1, 1) := by decide +kernel
theorem dX9_digestGrudges_1 : decode cX9_digestGrudges 1 = .ok (.lstore_n 3, 1) := by decide +kernel
theorem dX9_digestGrudges_2 : decode cX9_digestGrudges 2 = .ok (.ldc2_w 272, 3) := by decide +kernel
theorem dX9_digestGrudges_5 : decode cX9_digestGrudges 5 = .ok (.lload_n 3, 1) := by decide +kernel
theorem dX9_digestGrudges_6 : decode cX9_digestGrudges 6 = .ok (.lmul, 1) := by decide +kernel
theorem dX9_digestGrudges_7 : decode cX9_digestGrudges 7 = .ok (.aload_n 0, 1) := by decide +kernel
theorem dX9_digestGrudges_8 : decode cX9_digestGrudges 8 = .ok (.iconst 0, 1) := by decide +kernel
theorem dX9_digestGrudges_9 : decode cX9_digestGrudges 9 = .ok (.iconst 1, 1) := by decide +kernel
theorem dX9_digestGrudges_10 : decode cX9_digestGrudges 10 = .ok (.invokevirtual 286, 3) := by decide +kernel
theorem dX9_digestGrudges_13 : decode cX9_digestGrudges 13 = .ok (.i2l, 1) := by decide +kernel
theorem dX9_digestGrudges_14 : decode cX9_digestGrudges 14 = .ok (.ladd, 1) := by decide +kernel
theorem dX9_digestGrudges_15 : decode cX9_digestGrudges 15 = .ok (.lstore_n 3, 1) := by decide +kernel
theorem dX9_digestGrudges_16 : decode cX9_digestGrudges 16 = .ok (.ldc2_w 272, 3) := by decide +kernel
theorem dX9_digestGrudges_19 : decode cX9_digestGrudges 19 = .ok (.lload_n 3, 1) := by decide +kernel
theorem dX9_digestGrudges_20 : decode cX9_digestGrudges 20 = .ok (.lmul, 1) := by decide +kernel
theorem dX9_digestGrudges_21 : decode cX9_digestGrudges 21 = .ok (.aload_n 0, 1) := by decide +kernel
theorem dX9_digestGrudges_22 : decode cX9_digestGrudges 22 = .ok (.iconst 1, 1) := by decide +kernel
theorem dX9_digestGrudges_23 : decode cX9_digestGrudges 23 = .ok (.iconst 0, 1) := by decide +kernel
theorem dX9_digestGrudges_24 : decode cX9_digestGrudges 24 = .ok (.invokevirtual 286, 3) := by decide +kernel
theorem dX9_digestGrudges_27 : decode cX9_digestGrudges 27 = .ok (.i2l, 1) := by decide +kernel
theorem dX9_digestGrudges_28 : decode cX9_digestGrudges 28 = .ok (.ladd, 1) := by decide +kernel
theorem dX9_digestGrudges_29 : decode cX9_digestGrudges 29 = .ok (.lstore_n 3, 1) := by decide +kernel
theorem dX9_digestGrudges_30 : decode cX9_digestGrudges 30 = .ok (.ldc2_w 272, 3) := by decide +kernel
theorem dX9_digestGrudges_33 : decode cX9_digestGrudges 33 = .ok (.lload_n 3, 1) := by decide +kernel
theorem dX9_digestGrudges_34 : decode cX9_digestGrudges 34 = .ok (.lmul, 1) := by decide +kernel
theorem dX9_digestGrudges_35 : decode cX9_digestGrudges 35 = .ok (.aload_n 0, 1) := by decide +kernel
theorem dX9_digestGrudges_36 : decode cX9_digestGrudges 36 = .ok (.invokevirtual 289, 3) := by decide +kernel
theorem dX9_digestGrudges_39 : decode cX9_digestGrudges 39 = .ok (.i2l, 1) := by decide +kernel
theorem dX9_digestGrudges_40 : decode cX9_digestGrudges 40 = .ok (.ladd, 1) := by decide +kernel
theorem dX9_digestGrudges_41 : decode cX9_digestGrudges 41 = .ok (.lstore_n 3, 1) := by decide +kernel
theorem dX9_digestGrudges_42 : decode cX9_digestGrudges 42 = .ok (.aload_n 0, 1) := by decide +kernel
theorem dX9_digestGrudges_43 : decode cX9_digestGrudges 43 = .ok (.getfield 46, 3) := by decide +kernel
theorem dX9_digestGrudges_46 : decode cX9_digestGrudges 46 = .ok (.aload_n 0, 1) := by decide +kernel
theorem dX9_digestGrudges_47 : decode cX9_digestGrudges 47 = .ok (.getfield 26, 3) := by decide +kernel
theorem dX9_digestGrudges_50 : decode cX9_digestGrudges 50 = .ok (.invokevirtual 215, 3) := by decide +kernel
theorem dX9_digestGrudges_53 : decode cX9_digestGrudges 53 = .ok (.istore 5, 2) := by decide +kernel
theorem dX9_digestGrudges_55 : decode cX9_digestGrudges 55 = .ok (.ldc2_w 272, 3) := by decide +kernel
theorem dX9_digestGrudges_58 : decode cX9_digestGrudges 58 = .ok (.lload_n 3, 1) := by decide +kernel
theorem dX9_digestGrudges_59 : decode cX9_digestGrudges 59 = .ok (.lmul, 1) := by decide +kernel
theorem dX9_digestGrudges_60 : decode cX9_digestGrudges 60 = .ok (.iload 5, 2) := by decide +kernel
theorem dX9_digestGrudges_62 : decode cX9_digestGrudges 62 = .ok (.invokestatic 219, 3) := by decide +kernel
theorem dX9_digestGrudges_65 : decode cX9_digestGrudges 65 = .ok (.i2l, 1) := by decide +kernel
theorem dX9_digestGrudges_66 : decode cX9_digestGrudges 66 = .ok (.ladd, 1) := by decide +kernel
theorem dX9_digestGrudges_67 : decode cX9_digestGrudges 67 = .ok (.lstore_n 3, 1) := by decide +kernel
theorem dX9_digestGrudges_68 : decode cX9_digestGrudges 68 = .ok (.ldc2_w 272, 3) := by decide +kernel
theorem dX9_digestGrudges_71 : decode cX9_digestGrudges 71 = .ok (.lload_n 3, 1) := by decide +kernel
theorem dX9_digestGrudges_72 : decode cX9_digestGrudges 72 = .ok (.lmul, 1) := by decide +kernel
theorem dX9_digestGrudges_73 : decode cX9_digestGrudges 73 = .ok (.iload 5, 2) := by decide +kernel
theorem dX9_digestGrudges_75 : decode cX9_digestGrudges 75 = .ok (.i2l, 1) := by decide +kernel
theorem dX9_digestGrudges_76 : decode cX9_digestGrudges 76 = .ok (.ladd, 1) := by decide +kernel
theorem dX9_digestGrudges_77 : decode cX9_digestGrudges 77 = .ok (.lreturn, 1) := by decide +kernel
theorem dX9_guiltOf_0 : decode cX9_guiltOf 0 = .ok (.aload_n 0, 1) := by decide +kernel
theorem dX9_guiltOf_1 : decode cX9_guiltOf 1 = .ok (.getfield 39, 3) := by decide +kernel
theorem dX9_guiltOf_4 : decode cX9_guiltOf 4 = .ok (.aload_n 0, 1) := by decide +kernel
theorem dX9_guiltOf_5 : decode cX9_guiltOf 5 = .ok (.getfield 26, 3) := by decide +kernel
theorem dX9_guiltOf_8 : decode cX9_guiltOf 8 = .ok (.aload_n 0, 1) := by decide +kernel
theorem dX9_guiltOf_9 : decode cX9_guiltOf 9 = .ok (.getfield 26, 3) := by decide +kernel
theorem dX9_guiltOf_12 : decode cX9_guiltOf 12 = .ok (.getfield 140, 3) := by decide +kernel
theorem dX9_guiltOf_15 : decode cX9_guiltOf 15 = .ok (.invokevirtual 253, 3) := by decide +kernel
theorem dX9_guiltOf_18 : decode cX9_guiltOf 18 = .ok (.aload_n 0, 1) := by decide +kernel
theorem dX9_guiltOf_19 : decode cX9_guiltOf 19 = .ok (.getfield 39, 3) := by decide +kernel
theorem dX9_guiltOf_22 : decode cX9_guiltOf 22 = .ok (.getfield 292, 3) := by decide +kernel
theorem dX9_guiltOf_25 : decode cX9_guiltOf 25 = .ok (.iload_n 1, 1) := by decide +kernel
theorem dX9_guiltOf_26 : decode cX9_guiltOf 26 = .ok (.iaload, 1) := by decide +kernel
theorem dX9_guiltOf_27 : decode cX9_guiltOf 27 = .ok (.ireturn, 1) := by decide +kernel
theorem dX9_sittersNow_0 : decode cX9_sittersNow 0 = .ok (.aload_n 0, 1) := by decide +kernel
theorem dX9_sittersNow_1 : decode cX9_sittersNow 1 = .ok (.getfield 39, 3) := by decide +kernel
theorem dX9_sittersNow_4 : decode cX9_sittersNow 4 = .ok (.aload_n 0, 1) := by decide +kernel
theorem dX9_sittersNow_5 : decode cX9_sittersNow 5 = .ok (.getfield 26, 3) := by decide +kernel
theorem dX9_sittersNow_8 : decode cX9_sittersNow 8 = .ok (.aload_n 0, 1) := by decide +kernel
theorem dX9_sittersNow_9 : decode cX9_sittersNow 9 = .ok (.getfield 26, 3) := by decide +kernel
theorem dX9_sittersNow_12 : decode cX9_sittersNow 12 = .ok (.getfield 140, 3) := by decide +kernel
theorem dX9_sittersNow_15 : decode cX9_sittersNow 15 = .ok (.invokevirtual 253, 3) := by decide +kernel
theorem dX9_sittersNow_18 : decode cX9_sittersNow 18 = .ok (.aload_n 0, 1) := by decide +kernel
theorem dX9_sittersNow_19 : decode cX9_sittersNow 19 = .ok (.getfield 39, 3) := by decide +kernel
theorem dX9_sittersNow_22 : decode cX9_sittersNow 22 = .ok (.aload_n 0, 1) := by decide +kernel
theorem dX9_sittersNow_23 : decode cX9_sittersNow 23 = .ok (.getfield 26, 3) := by decide +kernel
theorem dX9_sittersNow_26 : decode cX9_sittersNow 26 = .ok (.getfield 196, 3) := by decide +kernel
theorem dX9_sittersNow_29 : decode cX9_sittersNow 29 = .ok (.invokevirtual 295, 3) := by decide +kernel
theorem dX9_sittersNow_32 : decode cX9_sittersNow 32 = .ok (.ireturn, 1) := by decide +kernel
theorem dX9_isRoom_0 : decode cX9_isRoom 0 = .ok (.iload_n 0, 1) := by decide +kernel
theorem dX9_isRoom_1 : decode cX9_isRoom 1 = .ok (.iconst 1, 1) := by decide +kernel
theorem dX9_isRoom_2 : decode cX9_isRoom 2 = .ok (.if_icmp .lt 13, 3) := by decide +kernel
theorem dX9_isRoom_5 : decode cX9_isRoom 5 = .ok (.iload_n 0, 1) := by decide +kernel
theorem dX9_isRoom_6 : decode cX9_isRoom 6 = .ok (.bipush 6, 2) := by decide +kernel
theorem dX9_isRoom_8 : decode cX9_isRoom 8 = .ok (.if_icmp .gt 7, 3) := by decide +kernel
theorem dX9_isRoom_11 : decode cX9_isRoom 11 = .ok (.iconst 1, 1) := by decide +kernel
theorem dX9_isRoom_12 : decode cX9_isRoom 12 = .ok (.goto 4, 3) := by decide +kernel
theorem dX9_isRoom_15 : decode cX9_isRoom 15 = .ok (.iconst 0, 1) := by decide +kernel
theorem dX9_isRoom_16 : decode cX9_isRoom 16 = .ok (.ireturn, 1) := by decide +kernel
theorem dX9_isKind_0 : decode cX9_isKind 0 = .ok (.iload_n 0, 1) := by decide +kernel
theorem dX9_isKind_1 : decode cX9_isKind 1 = .ok (.ifCond .lt 12, 3) := by decide +kernel
theorem dX9_isKind_4 : decode cX9_isKind 4 = .ok (.iload_n 0, 1) := by decide +kernel
theorem dX9_isKind_5 : decode cX9_isKind 5 = .ok (.iconst 4, 1) := by decide +kernel
theorem dX9_isKind_6 : decode cX9_isKind 6 = .ok (.if_icmp .gt 7, 3) := by decide +kernel
theorem dX9_isKind_9 : decode cX9_isKind 9 = .ok (.iconst 1, 1) := by decide +kernel
theorem dX9_isKind_10 : decode cX9_isKind 10 = .ok (.goto 4, 3) := by decide +kernel
theorem dX9_isKind_13 : decode cX9_isKind 13 = .ok (.iconst 0, 1) := by decide +kernel
theorem dX9_isKind_14 : decode cX9_isKind 14 = .ok (.ireturn, 1) := by decide +kernel
theorem dX9_isA_0 : decode cX9_isA 0 = .ok (.iload_n 1, 1) := by decide +kernel
theorem dX9_isA_1 : decode cX9_isA 1 = .ok (.ifCond .eq 18, 3) := by decide +kernel
theorem dX9_isA_4 : decode cX9_isA 4 = .ok (.iload_n 1, 1) := by decide +kernel
theorem dX9_isA_5 : decode cX9_isA 5 = .ok (.iload_n 0, 1) := by decide +kernel
theorem dX9_isA_6 : decode cX9_isA 6 = .ok (.if_icmp .eq 13, 3) := by decide +kernel
theorem dX9_isA_9 : decode cX9_isA 9 = .ok (.iload_n 1, 1) := by decide +kernel
theorem dX9_isA_10 : decode cX9_isA 10 = .ok (.iconst 1, 1) := by decide +kernel
theorem dX9_isA_11 : decode cX9_isA 11 = .ok (.if_icmp .ne 12, 3) := by decide +kernel
theorem dX9_isA_14 : decode cX9_isA 14 = .ok (.iload_n 0, 1) := by decide +kernel
theorem dX9_isA_15 : decode cX9_isA 15 = .ok (.iconst 4, 1) := by decide +kernel
theorem dX9_isA_16 : decode cX9_isA 16 = .ok (.if_icmp .ne 7, 3) := by decide +kernel
theorem dX9_isA_19 : decode cX9_isA 19 = .ok (.iconst 1, 1) := by decide +kernel
theorem dX9_isA_20 : decode cX9_isA 20 = .ok (.goto 4, 3) := by decide +kernel
theorem dX9_isA_23 : decode cX9_isA 23 = .ok (.iconst 0, 1) := by decide +kernel
theorem dX9_isA_24 : decode cX9_isA 24 = .ok (.ireturn, 1) := by decide +kernel
theorem dX9_hasBit_0 : decode cX9_hasBit 0 = .ok (.iload_n 0, 1) := by decide +kernel
theorem dX9_hasBit_1 : decode cX9_hasBit 1 = .ok (.iload_n 1, 1) := by decide +kernel
theorem dX9_hasBit_2 : decode cX9_hasBit 2 = .ok (.ishr, 1) := by decide +kernel
theorem dX9_hasBit_3 : decode cX9_hasBit 3 = .ok (.iconst 1, 1) := by decide +kernel
theorem dX9_hasBit_4 : decode cX9_hasBit 4 = .ok (.iand, 1) := by decide +kernel
theorem dX9_hasBit_5 : decode cX9_hasBit 5 = .ok (.ifCond .eq 7, 3) := by decide +kernel
theorem dX9_hasBit_8 : decode cX9_hasBit 8 = .ok (.iconst 1, 1) := by decide +kernel
theorem dX9_hasBit_9 : decode cX9_hasBit 9 = .ok (.goto 4, 3) := by decide +kernel
theorem dX9_hasBit_12 : decode cX9_hasBit 12 = .ok (.iconst 0, 1) := by decide +kernel
theorem dX9_hasBit_13 : decode cX9_hasBit 13 = .ok (.ireturn, 1) := by decide +kernel
theorem dX9_nextWarm_0 : decode cX9_nextWarm 0 = .ok (.iload_n 1, 1) := by decide +kernel
theorem dX9_nextWarm_1 : decode cX9_nextWarm 1 = .ok (.ifCond .eq 14, 3) := by decide +kernel
theorem dX9_nextWarm_4 : decode cX9_nextWarm 4 = .ok (.bipush 20, 2) := by decide +kernel
theorem dX9_nextWarm_6 : decode cX9_nextWarm 6 = .ok (.iload_n 0, 1) := by decide +kernel
theorem dX9_nextWarm_7 : decode cX9_nextWarm 7 = .ok (.iconst 2, 1) := by decide +kernel
theorem dX9_nextWarm_8 : decode cX9_nextWarm 8 = .ok (.iadd, 1) := by decide +kernel
theorem dX9_nextWarm_9 : decode cX9_nextWarm 9 = .ok (.invokestatic 298, 3) := by decide +kernel
theorem dX9_nextWarm_12 : decode cX9_nextWarm 12 = .ok (.goto 10, 3) := by decide +kernel
theorem dX9_nextWarm_15 : decode cX9_nextWarm 15 = .ok (.iconst 0, 1) := by decide +kernel
theorem dX9_nextWarm_16 : decode cX9_nextWarm 16 = .ok (.iload_n 0, 1) := by decide +kernel
theorem dX9_nextWarm_17 : decode cX9_nextWarm 17 = .ok (.iconst 1, 1) := by decide +kernel
theorem dX9_nextWarm_18 : decode cX9_nextWarm 18 = .ok (.isub, 1) := by decide +kernel
theorem dX9_nextWarm_19 : decode cX9_nextWarm 19 = .ok (.invokestatic 303, 3) := by decide +kernel
theorem dX9_nextWarm_22 : decode cX9_nextWarm 22 = .ok (.ireturn, 1) := by decide +kernel
theorem dX9_digitOf_0 : decode cX9_digitOf 0 = .ok (.iload_n 0, 1) := by decide +kernel
theorem dX9_digitOf_1 : decode cX9_digitOf 1 = .ok (.bipush 48, 2) := by decide +kernel
theorem dX9_digitOf_3 : decode cX9_digitOf 3 = .ok (.if_icmp .lt 16, 3) := by decide +kernel
theorem dX9_digitOf_6 : decode cX9_digitOf 6 = .ok (.iload_n 0, 1) := by decide +kernel
theorem dX9_digitOf_7 : decode cX9_digitOf 7 = .ok (.bipush 57, 2) := by decide +kernel
theorem dX9_digitOf_9 : decode cX9_digitOf 9 = .ok (.if_icmp .gt 10, 3) := by decide +kernel
theorem dX9_digitOf_12 : decode cX9_digitOf 12 = .ok (.iload_n 0, 1) := by decide +kernel
theorem dX9_digitOf_13 : decode cX9_digitOf 13 = .ok (.bipush 48, 2) := by decide +kernel
theorem dX9_digitOf_15 : decode cX9_digitOf 15 = .ok (.isub, 1) := by decide +kernel
theorem dX9_digitOf_16 : decode cX9_digitOf 16 = .ok (.goto 4, 3) := by decide +kernel
theorem dX9_digitOf_19 : decode cX9_digitOf 19 = .ok (.iconst (-1), 1) := by decide +kernel
theorem dX9_digitOf_20 : decode cX9_digitOf 20 = .ok (.ireturn, 1) := by decide +kernel
theorem dX10_init_0 : decode cX10_init 0 = .ok (.aload_n 0, 1) := by decide +kernel
theorem dX10_init_1 : decode cX10_init 1 = .ok (.invokespecial 1, 3) := by decide +kernel
theorem dX10_init_4 : decode cX10_init 4 = .ok (.aload_n 0, 1) := by decide +kernel
theorem dX10_init_5 : decode cX10_init 5 = .ok (.bipush 54, 2) := by decide +kernel
theorem dX10_init_7 : decode cX10_init 7 = .ok (.newarray .int, 2) := by decide +kernel
theorem dX10_init_9 : decode cX10_init 9 = .ok (.putfield 7, 3) := by decide +kernel
theorem dX10_init_12 : decode cX10_init 12 = .ok (.aload_n 0, 1) := by decide +kernel
theorem dX10_init_13 : decode cX10_init 13 = .ok (.bipush 6, 2) := by decide +kernel
theorem dX10_init_15 : decode cX10_init 15 = .ok (.newarray .int, 2) := by decide +kernel
theorem dX10_init_17 : decode cX10_init 17 = .ok (.putfield 13, 3) := by decide +kernel
theorem dX10_init_20 : decode cX10_init 20 = .ok (.aload_n 0, 1) := by decide +kernel
theorem dX10_init_21 : decode cX10_init 21 = .ok (.bipush 6, 2) := by decide +kernel
theorem dX10_init_23 : decode cX10_init 23 = .ok (.newarray .int, 2) := by decide +kernel
theorem dX10_init_25 : decode cX10_init 25 = .ok (.putfield 16, 3) := by decide +kernel
theorem dX10_init_28 : decode cX10_init 28 = .ok (.aload_n 0, 1) := by decide +kernel
theorem dX10_init_29 : decode cX10_init 29 = .ok (.bipush 6, 2) := by decide +kernel
theorem dX10_init_31 : decode cX10_init 31 = .ok (.newarray .int, 2) := by decide +kernel
theorem dX10_init_33 : decode cX10_init 33 = .ok (.putfield 19, 3) := by decide +kernel
theorem dX10_init_36 : decode cX10_init 36 = .ok (.aload_n 0, 1) := by decide +kernel
theorem dX10_init_37 : decode cX10_init 37 = .ok (.bipush 8, 2) := by decide +kernel
theorem dX10_init_39 : decode cX10_init 39 = .ok (.newarray .int, 2) := by decide +kernel
theorem dX10_init_41 : decode cX10_init 41 = .ok (.putfield 22, 3) := by decide +kernel
theorem dX10_init_44 : decode cX10_init 44 = .ok (.aload_n 0, 1) := by decide +kernel
theorem dX10_init_45 : decode cX10_init 45 = .ok (.bipush 8, 2) := by decide +kernel
theorem dX10_init_47 : decode cX10_init 47 = .ok (.newarray .int, 2) := by decide +kernel
theorem dX10_init_49 : decode cX10_init 49 = .ok (.putfield 25, 3) := by decide +kernel
theorem dX10_init_52 : decode cX10_init 52 = .ok (.aload_n 0, 1) := by decide +kernel
theorem dX10_init_53 : decode cX10_init 53 = .ok (.bipush 8, 2) := by decide +kernel
theorem dX10_init_55 : decode cX10_init 55 = .ok (.newarray .int, 2) := by decide +kernel
theorem dX10_init_57 : decode cX10_init 57 = .ok (.putfield 28, 3) := by decide +kernel
theorem dX10_init_60 : decode cX10_init 60 = .ok (.aload_n 0, 1) := by decide +kernel
theorem dX10_init_61 : decode cX10_init 61 = .ok (.bipush 6, 2) := by decide +kernel
theorem dX10_init_63 : decode cX10_init 63 = .ok (.newarray .int, 2) := by decide +kernel
theorem dX10_init_65 : decode cX10_init 65 = .ok (.putfield 31, 3) := by decide +kernel
theorem dX10_init_68 : decode cX10_init 68 = .ok (.aload_n 0, 1) := by decide +kernel
theorem dX10_init_69 : decode cX10_init 69 = .ok (.bipush 6, 2) := by decide +kernel
theorem dX10_init_71 : decode cX10_init 71 = .ok (.newarray .int, 2) := by decide +kernel
theorem dX10_init_73 : decode cX10_init 73 = .ok (.putfield 34, 3) := by decide +kernel
theorem dX10_init_76 : decode cX10_init 76 = .ok (.aload_n 0, 1) := by decide +kernel
theorem dX10_init_77 : decode cX10_init 77 = .ok (.bipush 18, 2) := by decide +kernel
theorem dX10_init_79 : decode cX10_init 79 = .ok (.newarray .int, 2) := by decide +kernel
theorem dX10_init_81 : decode cX10_init 81 = .ok (.putfield 37, 3) := by decide +kernel
theorem dX10_init_84 : decode cX10_init 84 = .ok (.aload_n 0, 1) := by decide +kernel
theorem dX10_init_85 : decode cX10_init 85 = .ok (.bipush 6, 2) := by decide +kernel
theorem dX10_init_87 : decode cX10_init 87 = .ok (.newarray .int, 2) := by decide +kernel
theorem dX10_init_89 : decode cX10_init 89 = .ok (.putfield 40, 3) := by decide +kernel
theorem dX10_init_92 : decode cX10_init 92 = .ok (.aload_n 0, 1) := by decide +kernel
theorem dX10_init_93 : decode cX10_init 93 = .ok (.bipush 6, 2) := by decide +kernel
theorem dX10_init_95 : decode cX10_init 95 = .ok (.newarray .int, 2) := by decide +kernel
theorem dX10_init_97 : decode cX10_init 97 = .ok (.putfield 43, 3) := by decide +kernel
theorem dX10_init_100 : decode cX10_init 100 = .ok (.aload_n 0, 1) := by decide +kernel
theorem dX10_init_101 : decode cX10_init 101 = .ok (.bipush 6, 2) := by decide +kernel
theorem dX10_init_103 : decode cX10_init 103 = .ok (.newarray .int, 2) := by decide +kernel
theorem dX10_init_105 : decode cX10_init 105 = .ok (.putfield 46, 3) := by decide +kernel
theorem dX10_init_108 : decode cX10_init 108 = .ok (.aload_n 0, 1) := by decide +kernel
theorem dX10_init_109 : decode cX10_init 109 = .ok (.bipush 8, 2) := by decide +kernel
theorem dX10_init_111 : decode cX10_init 111 = .ok (.newarray .int, 2) := by decide +kernel
theorem dX10_init_113 : decode cX10_init 113 = .ok (.putfield 49, 3) := by decide +kernel
theorem dX10_init_116 : decode cX10_init 116 = .ok (.aload_n 0, 1) := by decide +kernel
theorem dX10_init_117 : decode cX10_init 117 = .ok (.bipush 18, 2) := by decide +kernel
theorem dX10_init_119 : decode cX10_init 119 = .ok (.newarray .int, 2) := by decide +kernel
theorem dX10_init_121 : decode cX10_init 121 = .ok (.putfield 52, 3) := by decide +kernel
theorem dX10_init_124 : decode cX10_init 124 = .ok (.aload_n 0, 1) := by decide +kernel
theorem dX10_init_125 : decode cX10_init 125 = .ok (.iconst (-1), 1) := by decide +kernel
theorem dX10_init_126 : decode cX10_init 126 = .ok (.putfield 55, 3) := by decide +kernel
theorem dX10_init_129 : decode cX10_init 129 = .ok (.return_, 1) := by decide +kernel
theorem dX10_in_0 : decode cX10_in 0 = .ok (.lload_n 0, 1) := by decide +kernel
theorem dX10_in_1 : decode cX10_in 1 = .ok (.lload_n 2, 1) := by decide +kernel
theorem dX10_in_2 : decode cX10_in 2 = .ok (.lcmp, 1) := by decide +kernel
theorem dX10_in_3 : decode cX10_in 3 = .ok (.ifCond .lt 14, 3) := by decide +kernel
theorem dX10_in_6 : decode cX10_in 6 = .ok (.lload_n 0, 1) := by decide +kernel
theorem dX10_in_7 : decode cX10_in 7 = .ok (.lload 4, 2) := by decide +kernel
theorem dX10_in_9 : decode cX10_in 9 = .ok (.lcmp, 1) := by decide +kernel
theorem dX10_in_10 : decode cX10_in 10 = .ok (.ifCond .gt 7, 3) := by decide +kernel
theorem dX10_in_13 : decode cX10_in 13 = .ok (.iconst 1, 1) := by decide +kernel
theorem dX10_in_14 : decode cX10_in 14 = .ok (.goto 4, 3) := by decide +kernel
theorem dX10_in_17 : decode cX10_in 17 = .ok (.iconst 0, 1) := by decide +kernel
theorem dX10_in_18 : decode cX10_in 18 = .ok (.ireturn, 1) := by decide +kernel
theorem dX10_copy_0 : decode cX10_copy 0 = .ok (.iconst 0, 1) := by decide +kernel
theorem dX10_copy_1 : decode cX10_copy 1 = .ok (.istore_n 2, 1) := by decide +kernel
theorem dX10_copy_2 : decode cX10_copy 2 = .ok (.iload_n 2, 1) := by decide +kernel
theorem dX10_copy_3 : decode cX10_copy 3 = .ok (.aload_n 0, 1) := by decide +kernel
theorem dX10_copy_4 : decode cX10_copy 4 = .ok (.arraylength, 1) := by decide +kernel
theorem dX10_copy_5 : decode cX10_copy 5 = .ok (.if_icmp .ge 15, 3) := by decide +kernel
theorem dX10_copy_8 : decode cX10_copy 8 = .ok (.aload_n 1, 1) := by decide +kernel
theorem dX10_copy_9 : decode cX10_copy 9 = .ok (.iload_n 2, 1) := by decide +kernel
theorem dX10_copy_10 : decode cX10_copy 10 = .ok (.aload_n 0, 1) := by decide +kernel
theorem dX10_copy_11 : decode cX10_copy 11 = .ok (.iload_n 2, 1) := by decide +kernel
theorem dX10_copy_12 : decode cX10_copy 12 = .ok (.iaload, 1) := by decide +kernel
theorem dX10_copy_13 : decode cX10_copy 13 = .ok (.iastore, 1) := by decide +kernel
theorem dX10_copy_14 : decode cX10_copy 14 = .ok (.iinc 2 1, 3) := by decide +kernel
theorem dX10_copy_17 : decode cX10_copy 17 = .ok (.goto (-15), 3) := by decide +kernel
theorem dX10_copy_20 : decode cX10_copy 20 = .ok (.return_, 1) := by decide +kernel
theorem dX10_ones_0 : decode cX10_ones 0 = .ok (.iconst 0, 1) := by decide +kernel
theorem dX10_ones_1 : decode cX10_ones 1 = .ok (.istore_n 1, 1) := by decide +kernel
theorem dX10_ones_2 : decode cX10_ones 2 = .ok (.iconst 0, 1) := by decide +kernel
theorem dX10_ones_3 : decode cX10_ones 3 = .ok (.istore_n 2, 1) := by decide +kernel
theorem dX10_ones_4 : decode cX10_ones 4 = .ok (.iload_n 2, 1) := by decide +kernel
theorem dX10_ones_5 : decode cX10_ones 5 = .ok (.bipush 9, 2) := by decide +kernel
theorem dX10_ones_7 : decode cX10_ones 7 = .ok (.if_icmp .ge 17, 3) := by decide +kernel
theorem dX10_ones_10 : decode cX10_ones 10 = .ok (.iload_n 1, 1) := by decide +kernel
theorem dX10_ones_11 : decode cX10_ones 11 = .ok (.iload_n 0, 1) := by decide +kernel
theorem dX10_ones_12 : decode cX10_ones 12 = .ok (.iload_n 2, 1) := by decide +kernel
theorem dX10_ones_13 : decode cX10_ones 13 = .ok (.ishr, 1) := by decide +kernel
theorem dX10_ones_14 : decode cX10_ones 14 = .ok (.iconst 1, 1) := by decide +kernel
theorem dX10_ones_15 : decode cX10_ones 15 = .ok (.iand, 1) := by decide +kernel
theorem dX10_ones_16 : decode cX10_ones 16 = .ok (.iadd, 1) := by decide +kernel
theorem dX10_ones_17 : decode cX10_ones 17 = .ok (.istore_n 1, 1) := by decide +kernel
theorem dX10_ones_18 : decode cX10_ones 18 = .ok (.iinc 2 1, 3) := by decide +kernel
theorem dX10_ones_21 : decode cX10_ones 21 = .ok (.goto (-17), 3) := by decide +kernel
theorem dX10_ones_24 : decode cX10_ones 24 = .ok (.iload_n 1, 1) := by decide +kernel
theorem dX10_ones_25 : decode cX10_ones 25 = .ok (.ireturn, 1) := by decide +kernel
theorem dX10_letter_0 : decode cX10_letter 0 = .ok (.iload_n 1, 1) := by decide +kernel
theorem dX10_letter_1 : decode cX10_letter 1 = .ok (.i2l, 1) := by decide +kernel
theorem dX10_letter_2 : decode cX10_letter 2 = .ok (.lconst 1, 1) := by decide +kernel
theorem dX10_letter_3 : decode cX10_letter 3 = .ok (.ldc2_w 59, 3) := by decide +kernel
theorem dX10_letter_6 : decode cX10_letter 6 = .ok (.invokestatic 61, 3) := by decide +kernel
theorem dX10_letter_9 : decode cX10_letter 9 = .ok (.ifCond .ne 6, 3) := by decide +kernel
theorem dX10_letter_12 : decode cX10_letter 12 = .ok (.bipush (-102), 2) := by decide +kernel
theorem dX10_letter_14 : decode cX10_letter 14 = .ok (.ireturn, 1) := by decide +kernel
theorem dX10_letter_15 : decode cX10_letter 15 = .ok (.aload_n 0, 1) := by decide +kernel
theorem dX10_letter_16 : decode cX10_letter 16 = .ok (.getfield 65, 3) := by decide +kernel
theorem dX10_letter_19 : decode cX10_letter 19 = .ok (.bipush 54, 2) := by decide +kernel
theorem dX10_letter_21 : decode cX10_letter 21 = .ok (.if_icmp .ne 6, 3) := by decide +kernel
theorem dX10_letter_24 : decode cX10_letter 24 = .ok (.bipush (-104), 2) := by decide +kernel
theorem dX10_letter_26 : decode cX10_letter 26 = .ok (.ireturn, 1) := by decide +kernel
theorem dX10_letter_27 : decode cX10_letter 27 = .ok (.aload_n 0, 1) := by decide +kernel
theorem dX10_letter_28 : decode cX10_letter 28 = .ok (.getfield 7, 3) := by decide +kernel
theorem dX10_letter_31 : decode cX10_letter 31 = .ok (.aload_n 0, 1) := by decide +kernel
theorem dX10_letter_32 : decode cX10_letter 32 = .ok (.getfield 65, 3) := by decide +kernel
theorem dX10_letter_35 : decode cX10_letter 35 = .ok (.iload_n 1, 1) := by decide +kernel
theorem dX10_letter_36 : decode cX10_letter 36 = .ok (.iastore, 1) := by decide +kernel
theorem dX10_letter_37 : decode cX10_letter 37 = .ok (.aload_n 0, 1) := by decide +kernel
theorem dX10_letter_38 : decode cX10_letter 38 = .ok (.dup, 1) := by decide +kernel
theorem dX10_letter_39 : decode cX10_letter 39 = .ok (.getfield 65, 3) := by decide +kernel
theorem dX10_letter_42 : decode cX10_letter 42 = .ok (.iconst 1, 1) := by decide +kernel
theorem dX10_letter_43 : decode cX10_letter 43 = .ok (.iadd, 1) := by decide +kernel
theorem dX10_letter_44 : decode cX10_letter 44 = .ok (.putfield 65, 3) := by decide +kernel
theorem dX10_letter_47 : decode cX10_letter 47 = .ok (.aload_n 0, 1) := by decide +kernel
theorem dX10_letter_48 : decode cX10_letter 48 = .ok (.getfield 65, 3) := by decide +kernel
theorem dX10_letter_51 : decode cX10_letter 51 = .ok (.ireturn, 1) := by decide +kernel
theorem dX10_blank_0 : decode cX10_blank 0 = .ok (.aload_n 0, 1) := by decide +kernel
theorem dX10_blank_1 : decode cX10_blank 1 = .ok (.getfield 65, 3) := by decide +kernel
theorem dX10_blank_4 : decode cX10_blank 4 = .ok (.istore_n 1, 1) := by decide +kernel
theorem dX10_blank_5 : decode cX10_blank 5 = .ok (.aload_n 0, 1) := by decide +kernel
theorem dX10_blank_6 : decode cX10_blank 6 = .ok (.iconst 0, 1) := by decide +kernel
theorem dX10_blank_7 : decode cX10_blank 7 = .ok (.putfield 65, 3) := by decide +kernel
theorem dX10_blank_10 : decode cX10_blank 10 = .ok (.iload_n 1, 1) := by decide +kernel
theorem dX10_blank_11 : decode cX10_blank 11 = .ok (.ireturn, 1) := by decide +kernel
theorem dX10_kindBy_0 : decode cX10_kindBy 0 = .ok (.iload_n 0, 1) := by decide +kernel
theorem dX10_kindBy_1 : decode cX10_kindBy 1 = .ok (.lookupswitch 61 #[(98, 57), (103, 53), (104, 55), (112, 51), (115, 59)], 51) := by decide +kernel
theorem dX10_kindBy_52 : decode cX10_kindBy 52 = .ok (.iconst 0, 1) := by decide +kernel
theorem dX10_kindBy_53 : decode cX10_kindBy 53 = .ok (.ireturn, 1) := by decide +kernel
theorem dX10_kindBy_54 : decode cX10_kindBy 54 = .ok (.iconst 1, 1) := by decide +kernel
theorem dX10_kindBy_55 : decode cX10_kindBy 55 = .ok (.ireturn, 1) := by decide +kernel
theorem dX10_kindBy_56 : decode cX10_kindBy 56 = .ok (.iconst 2, 1) := by decide +kernel
theorem dX10_kindBy_57 : decode cX10_kindBy 57 = .ok (.ireturn, 1) := by decide +kernel
theorem dX10_kindBy_58 : decode cX10_kindBy 58 = .ok (.iconst 3, 1) := by decide +kernel
theorem dX10_kindBy_59 : decode cX10_kindBy 59 = .ok (.ireturn, 1) := by decide +kernel
theorem dX10_kindBy_60 : decode cX10_kindBy 60 = .ok (.iconst 4, 1) := by decide +kernel
theorem dX10_kindBy_61 : decode cX10_kindBy 61 = .ok (.ireturn, 1) := by decide +kernel
theorem dX10_kindBy_62 : decode cX10_kindBy 62 = .ok (.iconst (-1), 1) := by decide +kernel
theorem dX10_kindBy_63 : decode cX10_kindBy 63 = .ok (.ireturn, 1) := by decide +kernel
theorem dX10_isPersonLetter_0 : decode cX10_isPersonLetter 0 = .ok (.aload_n 0, 1) := by decide +kernel
theorem dX10_isPersonLetter_1 : decode cX10_isPersonLetter 1 = .ok (.getfield 7, 3) := by decide +kernel
theorem dX10_isPersonLetter_4 : decode cX10_isPersonLetter 4 = .ok (.iload_n 1, 1) := by decide +kernel
theorem dX10_isPersonLetter_5 : decode cX10_isPersonLetter 5 = .ok (.iaload, 1) := by decide +kernel
theorem dX10_isPersonLetter_6 : decode cX10_isPersonLetter 6 = .ok (.istore_n 2, 1) := by decide +kernel
theorem dX10_isPersonLetter_7 : decode cX10_isPersonLetter 7 = .ok (.iload_n 1, 1) := by decide +kernel
theorem dX10_isPersonLetter_8 : decode cX10_isPersonLetter 8 = .ok (.iconst 2, 1) := by decide +kernel
theorem dX10_isPersonLetter_9 : decode cX10_isPersonLetter 9 = .ok (.isub, 1) := by decide +kernel
theorem dX10_isPersonLetter_10 : decode cX10_isPersonLetter 10 = .ok (.istore_n 3, 1) := by decide +kernel
theorem dX10_isPersonLetter_11 : decode cX10_isPersonLetter 11 = .ok (.iload_n 3, 1) := by decide +kernel
theorem dX10_isPersonLetter_12 : decode cX10_isPersonLetter 12 = .ok (.iconst 3, 1) := by decide +kernel
theorem dX10_isPersonLetter_13 : decode cX10_isPersonLetter 13 = .ok (.irem, 1) := by decide +kernel
theorem dX10_isPersonLetter_14 : decode cX10_isPersonLetter 14 = .ok (.lookupswitch 52 #[(0, 26), (1, 40)], 26) := by decide +kernel
theorem dX10_isPersonLetter_40 : decode cX10_isPersonLetter 40 = .ok (.iload_n 2, 1) := by decide +kernel
theorem dX10_isPersonLetter_41 : decode cX10_isPersonLetter 41 = .ok (.invokestatic 68, 3) := by decide +kernel
theorem dX10_isPersonLetter_44 : decode cX10_isPersonLetter 44 = .ok (.iconst (-1), 1) := by decide +kernel
theorem dX10_isPersonLetter_45 : decode cX10_isPersonLetter 45 = .ok (.if_icmp .eq 7, 3) := by decide +kernel
theorem dX10_isPersonLetter_48 : decode cX10_isPersonLetter 48 = .ok (.iconst 1, 1) := by decide +kernel
theorem dX10_isPersonLetter_49 : decode cX10_isPersonLetter 49 = .ok (.goto 4, 3) := by decide +kernel
theorem dX10_isPersonLetter_52 : decode cX10_isPersonLetter 52 = .ok (.iconst 0, 1) := by decide +kernel
theorem dX10_isPersonLetter_53 : decode cX10_isPersonLetter 53 = .ok (.ireturn, 1) := by decide +kernel
theorem dX10_isPersonLetter_54 : decode cX10_isPersonLetter 54 = .ok (.iload_n 2, 1) := by decide +kernel
theorem dX10_isPersonLetter_55 : decode cX10_isPersonLetter 55 = .ok (.i2l, 1) := by decide +kernel
theorem dX10_isPersonLetter_56 : decode cX10_isPersonLetter 56 = .ok (.ldc2_w 72, 3) := by decide +kernel
theorem dX10_isPersonLetter_59 : decode cX10_isPersonLetter 59 = .ok (.ldc2_w 74, 3) := by decide +kernel
theorem dX10_isPersonLetter_62 : decode cX10_isPersonLetter 62 = .ok (.invokestatic 61, 3) := by decide +kernel
theorem dX10_isPersonLetter_65 : decode cX10_isPersonLetter 65 = .ok (.ireturn, 1) := by decide +kernel
theorem dX10_isPersonLetter_66 : decode cX10_isPersonLetter 66 = .ok (.iload_n 2, 1) := by decide +kernel
theorem dX10_isPersonLetter_67 : decode cX10_isPersonLetter 67 = .ok (.bipush 59, 2) := by decide +kernel
