theorem dX10_isPersonLetter_69 : decode cX10_isPersonLetter 69 = .ok (.if_icmp .ne 15, 3) := by decide +kernel
theorem dX10_isPersonLetter_72 : decode cX10_isPersonLetter 72 = .ok (.iload_n 3, 1) := by decide +kernel
theorem dX10_isPersonLetter_73 : decode cX10_isPersonLetter 73 = .ok (.iconst 2, 1) := by decide +kernel
theorem dX10_isPersonLetter_74 : decode cX10_isPersonLetter 74 = .ok (.if_icmp .le 10, 3) := by decide +kernel
theorem dX10_isPersonLetter_77 : decode cX10_isPersonLetter 77 = .ok (.aload_n 0, 1) := by decide +kernel
theorem dX10_isPersonLetter_78 : decode cX10_isPersonLetter 78 = .ok (.iload_n 1, 1) := by decide +kernel
theorem dX10_isPersonLetter_79 : decode cX10_isPersonLetter 79 = .ok (.putfield 76, 3) := by decide +kernel
theorem dX10_isPersonLetter_82 : decode cX10_isPersonLetter 82 = .ok (.iconst 1, 1) := by decide +kernel
theorem dX10_isPersonLetter_83 : decode cX10_isPersonLetter 83 = .ok (.ireturn, 1) := by decide +kernel
theorem dX10_isPersonLetter_84 : decode cX10_isPersonLetter 84 = .ok (.iload_n 2, 1) := by decide +kernel
theorem dX10_isPersonLetter_85 : decode cX10_isPersonLetter 85 = .ok (.bipush 44, 2) := by decide +kernel
theorem dX10_isPersonLetter_87 : decode cX10_isPersonLetter 87 = .ok (.if_icmp .ne 13, 3) := by decide +kernel
theorem dX10_isPersonLetter_90 : decode cX10_isPersonLetter 90 = .ok (.iload_n 3, 1) := by decide +kernel
theorem dX10_isPersonLetter_91 : decode cX10_isPersonLetter 91 = .ok (.bipush 17, 2) := by decide +kernel
theorem dX10_isPersonLetter_93 : decode cX10_isPersonLetter 93 = .ok (.if_icmp .ge 7, 3) := by decide +kernel
theorem dX10_isPersonLetter_96 : decode cX10_isPersonLetter 96 = .ok (.iconst 1, 1) := by decide +kernel
theorem dX10_isPersonLetter_97 : decode cX10_isPersonLetter 97 = .ok (.goto 4, 3) := by decide +kernel
theorem dX10_isPersonLetter_100 : decode cX10_isPersonLetter 100 = .ok (.iconst 0, 1) := by decide +kernel
theorem dX10_isPersonLetter_101 : decode cX10_isPersonLetter 101 = .ok (.ireturn, 1) := by decide +kernel
theorem dX10_isPersonDigit_0 : decode cX10_isPersonDigit 0 = .ok (.iload_n 1, 1) := by decide +kernel
theorem dX10_isPersonDigit_1 : decode cX10_isPersonDigit 1 = .ok (.i2l, 1) := by decide +kernel
theorem dX10_isPersonDigit_2 : decode cX10_isPersonDigit 2 = .ok (.ldc2_w 72, 3) := by decide +kernel
theorem dX10_isPersonDigit_5 : decode cX10_isPersonDigit 5 = .ok (.bipush 48, 2) := by decide +kernel
theorem dX10_isPersonDigit_7 : decode cX10_isPersonDigit 7 = .ok (.aload_n 0, 1) := by decide +kernel
theorem dX10_isPersonDigit_8 : decode cX10_isPersonDigit 8 = .ok (.getfield 76, 3) := by decide +kernel
theorem dX10_isPersonDigit_11 : decode cX10_isPersonDigit 11 = .ok (.iconst 1, 1) := by decide +kernel
theorem dX10_isPersonDigit_12 : decode cX10_isPersonDigit 12 = .ok (.isub, 1) := by decide +kernel
theorem dX10_isPersonDigit_13 : decode cX10_isPersonDigit 13 = .ok (.iconst 3, 1) := by decide +kernel
theorem dX10_isPersonDigit_14 : decode cX10_isPersonDigit 14 = .ok (.idiv, 1) := by decide +kernel
theorem dX10_isPersonDigit_15 : decode cX10_isPersonDigit 15 = .ok (.iadd, 1) := by decide +kernel
theorem dX10_isPersonDigit_16 : decode cX10_isPersonDigit 16 = .ok (.iconst 1, 1) := by decide +kernel
theorem dX10_isPersonDigit_17 : decode cX10_isPersonDigit 17 = .ok (.isub, 1) := by decide +kernel
theorem dX10_isPersonDigit_18 : decode cX10_isPersonDigit 18 = .ok (.i2l, 1) := by decide +kernel
theorem dX10_isPersonDigit_19 : decode cX10_isPersonDigit 19 = .ok (.invokestatic 61, 3) := by decide +kernel
theorem dX10_isPersonDigit_22 : decode cX10_isPersonDigit 22 = .ok (.ireturn, 1) := by decide +kernel
theorem dX10_isWrongLetter_0 : decode cX10_isWrongLetter 0 = .ok (.aload_n 0, 1) := by decide +kernel
theorem dX10_isWrongLetter_1 : decode cX10_isWrongLetter 1 = .ok (.getfield 7, 3) := by decide +kernel
theorem dX10_isWrongLetter_4 : decode cX10_isWrongLetter 4 = .ok (.iload_n 1, 1) := by decide +kernel
theorem dX10_isWrongLetter_5 : decode cX10_isWrongLetter 5 = .ok (.iaload, 1) := by decide +kernel
theorem dX10_isWrongLetter_6 : decode cX10_isWrongLetter 6 = .ok (.istore_n 2, 1) := by decide +kernel
theorem dX10_isWrongLetter_7 : decode cX10_isWrongLetter 7 = .ok (.iload_n 1, 1) := by decide +kernel
theorem dX10_isWrongLetter_8 : decode cX10_isWrongLetter 8 = .ok (.aload_n 0, 1) := by decide +kernel
theorem dX10_isWrongLetter_9 : decode cX10_isWrongLetter 9 = .ok (.getfield 76, 3) := by decide +kernel
theorem dX10_isWrongLetter_12 : decode cX10_isWrongLetter 12 = .ok (.isub, 1) := by decide +kernel
theorem dX10_isWrongLetter_13 : decode cX10_isWrongLetter 13 = .ok (.iconst 1, 1) := by decide +kernel
theorem dX10_isWrongLetter_14 : decode cX10_isWrongLetter 14 = .ok (.isub, 1) := by decide +kernel
theorem dX10_isWrongLetter_15 : decode cX10_isWrongLetter 15 = .ok (.istore_n 3, 1) := by decide +kernel
theorem dX10_isWrongLetter_16 : decode cX10_isWrongLetter 16 = .ok (.iload_n 3, 1) := by decide +kernel
theorem dX10_isWrongLetter_17 : decode cX10_isWrongLetter 17 = .ok (.iconst 4, 1) := by decide +kernel
theorem dX10_isWrongLetter_18 : decode cX10_isWrongLetter 18 = .ok (.irem, 1) := by decide +kernel
theorem dX10_isWrongLetter_19 : decode cX10_isWrongLetter 19 = .ok (.tableswitch 69 0 2 #[25, 31, 57], 25) := by decide +kernel
theorem dX10_isWrongLetter_44 : decode cX10_isWrongLetter 44 = .ok (.aload_n 0, 1) := by decide +kernel
theorem dX10_isWrongLetter_45 : decode cX10_isWrongLetter 45 = .ok (.iload_n 2, 1) := by decide +kernel
theorem dX10_isWrongLetter_46 : decode cX10_isWrongLetter 46 = .ok (.invokevirtual 79, 3) := by decide +kernel
theorem dX10_isWrongLetter_49 : decode cX10_isWrongLetter 49 = .ok (.ireturn, 1) := by decide +kernel
theorem dX10_isWrongLetter_50 : decode cX10_isWrongLetter 50 = .ok (.aload_n 0, 1) := by decide +kernel
theorem dX10_isWrongLetter_51 : decode cX10_isWrongLetter 51 = .ok (.iload_n 2, 1) := by decide +kernel
theorem dX10_isWrongLetter_52 : decode cX10_isWrongLetter 52 = .ok (.invokevirtual 79, 3) := by decide +kernel
theorem dX10_isWrongLetter_55 : decode cX10_isWrongLetter 55 = .ok (.ifCond .eq 19, 3) := by decide +kernel
theorem dX10_isWrongLetter_58 : decode cX10_isWrongLetter 58 = .ok (.iload_n 2, 1) := by decide +kernel
theorem dX10_isWrongLetter_59 : decode cX10_isWrongLetter 59 = .ok (.aload_n 0, 1) := by decide +kernel
theorem dX10_isWrongLetter_60 : decode cX10_isWrongLetter 60 = .ok (.getfield 7, 3) := by decide +kernel
theorem dX10_isWrongLetter_63 : decode cX10_isWrongLetter 63 = .ok (.iload_n 1, 1) := by decide +kernel
theorem dX10_isWrongLetter_64 : decode cX10_isWrongLetter 64 = .ok (.iconst 1, 1) := by decide +kernel
theorem dX10_isWrongLetter_65 : decode cX10_isWrongLetter 65 = .ok (.isub, 1) := by decide +kernel
theorem dX10_isWrongLetter_66 : decode cX10_isWrongLetter 66 = .ok (.iaload, 1) := by decide +kernel
theorem dX10_isWrongLetter_67 : decode cX10_isWrongLetter 67 = .ok (.if_icmp .eq 7, 3) := by decide +kernel
theorem dX10_isWrongLetter_70 : decode cX10_isWrongLetter 70 = .ok (.iconst 1, 1) := by decide +kernel
theorem dX10_isWrongLetter_71 : decode cX10_isWrongLetter 71 = .ok (.goto 4, 3) := by decide +kernel
theorem dX10_isWrongLetter_74 : decode cX10_isWrongLetter 74 = .ok (.iconst 0, 1) := by decide +kernel
theorem dX10_isWrongLetter_75 : decode cX10_isWrongLetter 75 = .ok (.ireturn, 1) := by decide +kernel
theorem dX10_isWrongLetter_76 : decode cX10_isWrongLetter 76 = .ok (.iload_n 2, 1) := by decide +kernel
theorem dX10_isWrongLetter_77 : decode cX10_isWrongLetter 77 = .ok (.i2l, 1) := by decide +kernel
theorem dX10_isWrongLetter_78 : decode cX10_isWrongLetter 78 = .ok (.ldc2_w 83, 3) := by decide +kernel
theorem dX10_isWrongLetter_81 : decode cX10_isWrongLetter 81 = .ok (.ldc2_w 74, 3) := by decide +kernel
theorem dX10_isWrongLetter_84 : decode cX10_isWrongLetter 84 = .ok (.invokestatic 61, 3) := by decide +kernel
theorem dX10_isWrongLetter_87 : decode cX10_isWrongLetter 87 = .ok (.ireturn, 1) := by decide +kernel
theorem dX10_isWrongLetter_88 : decode cX10_isWrongLetter 88 = .ok (.iload_n 2, 1) := by decide +kernel
theorem dX10_isWrongLetter_89 : decode cX10_isWrongLetter 89 = .ok (.bipush 44, 2) := by decide +kernel
theorem dX10_isWrongLetter_91 : decode cX10_isWrongLetter 91 = .ok (.if_icmp .ne 13, 3) := by decide +kernel
theorem dX10_isWrongLetter_94 : decode cX10_isWrongLetter 94 = .ok (.iload_n 3, 1) := by decide +kernel
theorem dX10_isWrongLetter_95 : decode cX10_isWrongLetter 95 = .ok (.bipush 31, 2) := by decide +kernel
theorem dX10_isWrongLetter_97 : decode cX10_isWrongLetter 97 = .ok (.if_icmp .ge 7, 3) := by decide +kernel
theorem dX10_isWrongLetter_100 : decode cX10_isWrongLetter 100 = .ok (.iconst 1, 1) := by decide +kernel
theorem dX10_isWrongLetter_101 : decode cX10_isWrongLetter 101 = .ok (.goto 4, 3) := by decide +kernel
theorem dX10_isWrongLetter_104 : decode cX10_isWrongLetter 104 = .ok (.iconst 0, 1) := by decide +kernel
theorem dX10_isWrongLetter_105 : decode cX10_isWrongLetter 105 = .ok (.ireturn, 1) := by decide +kernel
theorem dX10_isGood_0 : decode cX10_isGood 0 = .ok (.iload_n 1, 1) := by decide +kernel
theorem dX10_isGood_1 : decode cX10_isGood 1 = .ok (.iconst 2, 1) := by decide +kernel
theorem dX10_isGood_2 : decode cX10_isGood 2 = .ok (.if_icmp .ge 43, 3) := by decide +kernel
theorem dX10_isGood_5 : decode cX10_isGood 5 = .ok (.iload_n 1, 1) := by decide +kernel
theorem dX10_isGood_6 : decode cX10_isGood 6 = .ok (.ifCond .ne 22, 3) := by decide +kernel
theorem dX10_isGood_9 : decode cX10_isGood 9 = .ok (.aload_n 0, 1) := by decide +kernel
theorem dX10_isGood_10 : decode cX10_isGood 10 = .ok (.getfield 7, 3) := by decide +kernel
theorem dX10_isGood_13 : decode cX10_isGood 13 = .ok (.iconst 0, 1) := by decide +kernel
theorem dX10_isGood_14 : decode cX10_isGood 14 = .ok (.iaload, 1) := by decide +kernel
theorem dX10_isGood_15 : decode cX10_isGood 15 = .ok (.i2l, 1) := by decide +kernel
theorem dX10_isGood_16 : decode cX10_isGood 16 = .ok (.ldc2_w 83, 3) := by decide +kernel
theorem dX10_isGood_19 : decode cX10_isGood 19 = .ok (.ldc2_w 85, 3) := by decide +kernel
theorem dX10_isGood_22 : decode cX10_isGood 22 = .ok (.invokestatic 61, 3) := by decide +kernel
theorem dX10_isGood_25 : decode cX10_isGood 25 = .ok (.goto 19, 3) := by decide +kernel
theorem dX10_isGood_28 : decode cX10_isGood 28 = .ok (.aload_n 0, 1) := by decide +kernel
theorem dX10_isGood_29 : decode cX10_isGood 29 = .ok (.getfield 7, 3) := by decide +kernel
theorem dX10_isGood_32 : decode cX10_isGood 32 = .ok (.iconst 1, 1) := by decide +kernel
theorem dX10_isGood_33 : decode cX10_isGood 33 = .ok (.iaload, 1) := by decide +kernel
theorem dX10_isGood_34 : decode cX10_isGood 34 = .ok (.bipush 59, 2) := by decide +kernel
theorem dX10_isGood_36 : decode cX10_isGood 36 = .ok (.if_icmp .ne 7, 3) := by decide +kernel
theorem dX10_isGood_39 : decode cX10_isGood 39 = .ok (.iconst 1, 1) := by decide +kernel
theorem dX10_isGood_40 : decode cX10_isGood 40 = .ok (.goto 4, 3) := by decide +kernel
theorem dX10_isGood_43 : decode cX10_isGood 43 = .ok (.iconst 0, 1) := by decide +kernel
theorem dX10_isGood_44 : decode cX10_isGood 44 = .ok (.ireturn, 1) := by decide +kernel
theorem dX10_isGood_45 : decode cX10_isGood 45 = .ok (.aload_n 0, 1) := by decide +kernel
theorem dX10_isGood_46 : decode cX10_isGood 46 = .ok (.getfield 76, 3) := by decide +kernel
theorem dX10_isGood_49 : decode cX10_isGood 49 = .ok (.ifCond .ne 11, 3) := by decide +kernel
theorem dX10_isGood_52 : decode cX10_isGood 52 = .ok (.aload_n 0, 1) := by decide +kernel
theorem dX10_isGood_53 : decode cX10_isGood 53 = .ok (.iload_n 1, 1) := by decide +kernel
theorem dX10_isGood_54 : decode cX10_isGood 54 = .ok (.invokevirtual 87, 3) := by decide +kernel
theorem dX10_isGood_57 : decode cX10_isGood 57 = .ok (.goto 8, 3) := by decide +kernel
theorem dX10_isGood_60 : decode cX10_isGood 60 = .ok (.aload_n 0, 1) := by decide +kernel
theorem dX10_isGood_61 : decode cX10_isGood 61 = .ok (.iload_n 1, 1) := by decide +kernel
theorem dX10_isGood_62 : decode cX10_isGood 62 = .ok (.invokevirtual 90, 3) := by decide +kernel
theorem dX10_isGood_65 : decode cX10_isGood 65 = .ok (.ireturn, 1) := by decide +kernel
theorem dX10_faultOf_0 : decode cX10_faultOf 0 = .ok (.aload_n 0, 1) := by decide +kernel
theorem dX10_faultOf_1 : decode cX10_faultOf 1 = .ok (.iconst 0, 1) := by decide +kernel
theorem dX10_faultOf_2 : decode cX10_faultOf 2 = .ok (.putfield 76, 3) := by decide +kernel
theorem dX10_faultOf_5 : decode cX10_faultOf 5 = .ok (.iconst 0, 1) := by decide +kernel
theorem dX10_faultOf_6 : decode cX10_faultOf 6 = .ok (.istore_n 1, 1) := by decide +kernel
theorem dX10_faultOf_7 : decode cX10_faultOf 7 = .ok (.iload_n 1, 1) := by decide +kernel
theorem dX10_faultOf_8 : decode cX10_faultOf 8 = .ok (.aload_n 0, 1) := by decide +kernel
theorem dX10_faultOf_9 : decode cX10_faultOf 9 = .ok (.getfield 65, 3) := by decide +kernel
theorem dX10_faultOf_12 : decode cX10_faultOf 12 = .ok (.if_icmp .ge 17, 3) := by decide +kernel
theorem dX10_faultOf_15 : decode cX10_faultOf 15 = .ok (.aload_n 0, 1) := by decide +kernel
theorem dX10_faultOf_16 : decode cX10_faultOf 16 = .ok (.iload_n 1, 1) := by decide +kernel
theorem dX10_faultOf_17 : decode cX10_faultOf 17 = .ok (.invokevirtual 93, 3) := by decide +kernel
theorem dX10_faultOf_20 : decode cX10_faultOf 20 = .ok (.ifCond .eq 9, 3) := by decide +kernel
theorem dX10_faultOf_23 : decode cX10_faultOf 23 = .ok (.iinc 1 1, 3) := by decide +kernel
theorem dX10_faultOf_26 : decode cX10_faultOf 26 = .ok (.goto (-19), 3) := by decide +kernel
theorem dX10_faultOf_29 : decode cX10_faultOf 29 = .ok (.iload_n 1, 1) := by decide +kernel
theorem dX10_faultOf_30 : decode cX10_faultOf 30 = .ok (.ireturn, 1) := by decide +kernel
theorem dX10_fault_0 : decode cX10_fault 0 = .ok (.aload_n 0, 1) := by decide +kernel
theorem dX10_fault_1 : decode cX10_fault 1 = .ok (.invokevirtual 96, 3) := by decide +kernel
theorem dX10_fault_4 : decode cX10_fault 4 = .ok (.ireturn, 1) := by decide +kernel
theorem dX10_chapel_0 : decode cX10_chapel 0 = .ok (.aload_n 0, 1) := by decide +kernel
theorem dX10_chapel_1 : decode cX10_chapel 1 = .ok (.invokevirtual 96, 3) := by decide +kernel
theorem dX10_chapel_4 : decode cX10_chapel 4 = .ok (.aload_n 0, 1) := by decide +kernel
theorem dX10_chapel_5 : decode cX10_chapel 5 = .ok (.getfield 65, 3) := by decide +kernel
theorem dX10_chapel_8 : decode cX10_chapel 8 = .ok (.if_icmp .lt 24, 3) := by decide +kernel
theorem dX10_chapel_11 : decode cX10_chapel 11 = .ok (.aload_n 0, 1) := by decide +kernel
theorem dX10_chapel_12 : decode cX10_chapel 12 = .ok (.getfield 76, 3) := by decide +kernel
theorem dX10_chapel_15 : decode cX10_chapel 15 = .ok (.ifCond .eq 17, 3) := by decide +kernel
theorem dX10_chapel_18 : decode cX10_chapel 18 = .ok (.aload_n 0, 1) := by decide +kernel
theorem dX10_chapel_19 : decode cX10_chapel 19 = .ok (.getfield 65, 3) := by decide +kernel
theorem dX10_chapel_22 : decode cX10_chapel 22 = .ok (.aload_n 0, 1) := by decide +kernel
theorem dX10_chapel_23 : decode cX10_chapel 23 = .ok (.getfield 76, 3) := by decide +kernel
theorem dX10_chapel_26 : decode cX10_chapel 26 = .ok (.isub, 1) := by decide +kernel
theorem dX10_chapel_27 : decode cX10_chapel 27 = .ok (.iconst 4, 1) := by decide +kernel
theorem dX10_chapel_28 : decode cX10_chapel 28 = .ok (.irem, 1) := by decide +kernel
theorem dX10_chapel_29 : decode cX10_chapel 29 = .ok (.ifCond .eq 6, 3) := by decide +kernel
theorem dX10_chapel_32 : decode cX10_chapel 32 = .ok (.bipush (-103), 2) := by decide +kernel
theorem dX10_chapel_34 : decode cX10_chapel 34 = .ok (.ireturn, 1) := by decide +kernel
theorem dX10_chapel_35 : decode cX10_chapel 35 = .ok (.aload_n 0, 1) := by decide +kernel
theorem dX10_chapel_36 : decode cX10_chapel 36 = .ok (.aload_n 0, 1) := by decide +kernel
theorem dX10_chapel_37 : decode cX10_chapel 37 = .ok (.getfield 7, 3) := by decide +kernel
theorem dX10_chapel_40 : decode cX10_chapel 40 = .ok (.iconst 0, 1) := by decide +kernel
theorem dX10_chapel_41 : decode cX10_chapel 41 = .ok (.iaload, 1) := by decide +kernel
theorem dX10_chapel_42 : decode cX10_chapel 42 = .ok (.bipush 48, 2) := by decide +kernel
theorem dX10_chapel_44 : decode cX10_chapel 44 = .ok (.isub, 1) := by decide +kernel
theorem dX10_chapel_45 : decode cX10_chapel 45 = .ok (.putfield 100, 3) := by decide +kernel
theorem dX10_chapel_48 : decode cX10_chapel 48 = .ok (.aload_n 0, 1) := by decide +kernel
theorem dX10_chapel_49 : decode cX10_chapel 49 = .ok (.aload_n 0, 1) := by decide +kernel
theorem dX10_chapel_50 : decode cX10_chapel 50 = .ok (.getfield 76, 3) := by decide +kernel
theorem dX10_chapel_53 : decode cX10_chapel 53 = .ok (.iconst 1, 1) := by decide +kernel
theorem dX10_chapel_54 : decode cX10_chapel 54 = .ok (.isub, 1) := by decide +kernel
theorem dX10_chapel_55 : decode cX10_chapel 55 = .ok (.iconst 3, 1) := by decide +kernel
theorem dX10_chapel_56 : decode cX10_chapel 56 = .ok (.idiv, 1) := by decide +kernel
theorem dX10_chapel_57 : decode cX10_chapel 57 = .ok (.putfield 103, 3) := by decide +kernel
theorem dX10_chapel_60 : decode cX10_chapel 60 = .ok (.aload_n 0, 1) := by decide +kernel
theorem dX10_chapel_61 : decode cX10_chapel 61 = .ok (.aload_n 0, 1) := by decide +kernel
theorem dX10_chapel_62 : decode cX10_chapel 62 = .ok (.getfield 65, 3) := by decide +kernel
theorem dX10_chapel_65 : decode cX10_chapel 65 = .ok (.aload_n 0, 1) := by decide +kernel
theorem dX10_chapel_66 : decode cX10_chapel 66 = .ok (.getfield 76, 3) := by decide +kernel
theorem dX10_chapel_69 : decode cX10_chapel 69 = .ok (.isub, 1) := by decide +kernel
theorem dX10_chapel_70 : decode cX10_chapel 70 = .ok (.iconst 4, 1) := by decide +kernel
theorem dX10_chapel_71 : decode cX10_chapel 71 = .ok (.idiv, 1) := by decide +kernel
theorem dX10_chapel_72 : decode cX10_chapel 72 = .ok (.putfield 106, 3) := by decide +kernel
theorem dX10_chapel_75 : decode cX10_chapel 75 = .ok (.iconst 0, 1) := by decide +kernel
theorem dX10_chapel_76 : decode cX10_chapel 76 = .ok (.istore_n 1, 1) := by decide +kernel
theorem dX10_chapel_77 : decode cX10_chapel 77 = .ok (.iload_n 1, 1) := by decide +kernel
theorem dX10_chapel_78 : decode cX10_chapel 78 = .ok (.aload_n 0, 1) := by decide +kernel
theorem dX10_chapel_79 : decode cX10_chapel 79 = .ok (.getfield 103, 3) := by decide +kernel
theorem dX10_chapel_82 : decode cX10_chapel 82 = .ok (.if_icmp .ge 54, 3) := by decide +kernel
theorem dX10_chapel_85 : decode cX10_chapel 85 = .ok (.aload_n 0, 1) := by decide +kernel
theorem dX10_chapel_86 : decode cX10_chapel 86 = .ok (.getfield 13, 3) := by decide +kernel
theorem dX10_chapel_89 : decode cX10_chapel 89 = .ok (.iload_n 1, 1) := by decide +kernel
theorem dX10_chapel_90 : decode cX10_chapel 90 = .ok (.aload_n 0, 1) := by decide +kernel
theorem dX10_chapel_91 : decode cX10_chapel 91 = .ok (.getfield 7, 3) := by decide +kernel
theorem dX10_chapel_94 : decode cX10_chapel 94 = .ok (.iconst 2, 1) := by decide +kernel
theorem dX10_chapel_95 : decode cX10_chapel 95 = .ok (.iconst 3, 1) := by decide +kernel
theorem dX10_chapel_96 : decode cX10_chapel 96 = .ok (.iload_n 1, 1) := by decide +kernel
theorem dX10_chapel_97 : decode cX10_chapel 97 = .ok (.imul, 1) := by decide +kernel
theorem dX10_chapel_98 : decode cX10_chapel 98 = .ok (.iadd, 1) := by decide +kernel
theorem dX10_chapel_99 : decode cX10_chapel 99 = .ok (.iaload, 1) := by decide +kernel
theorem dX10_chapel_100 : decode cX10_chapel 100 = .ok (.invokestatic 68, 3) := by decide +kernel
theorem dX10_chapel_103 : decode cX10_chapel 103 = .ok (.iastore, 1) := by decide +kernel
theorem dX10_chapel_104 : decode cX10_chapel 104 = .ok (.aload_n 0, 1) := by decide +kernel
theorem dX10_chapel_105 : decode cX10_chapel 105 = .ok (.getfield 16, 3) := by decide +kernel
theorem dX10_chapel_108 : decode cX10_chapel 108 = .ok (.iload_n 1, 1) := by decide +kernel
theorem dX10_chapel_109 : decode cX10_chapel 109 = .ok (.aload_n 0, 1) := by decide +kernel
theorem dX10_chapel_110 : decode cX10_chapel 110 = .ok (.getfield 7, 3) := by decide +kernel
theorem dX10_chapel_113 : decode cX10_chapel 113 = .ok (.iconst 3, 1) := by decide +kernel
theorem dX10_chapel_114 : decode cX10_chapel 114 = .ok (.iconst 3, 1) := by decide +kernel
theorem dX10_chapel_115 : decode cX10_chapel 115 = .ok (.iload_n 1, 1) := by decide +kernel
theorem dX10_chapel_116 : decode cX10_chapel 116 = .ok (.imul, 1) := by decide +kernel
theorem dX10_chapel_117 : decode cX10_chapel 117 = .ok (.iadd, 1) := by decide +kernel
theorem dX10_chapel_118 : decode cX10_chapel 118 = .ok (.iaload, 1) := by decide +kernel
theorem dX10_chapel_119 : decode cX10_chapel 119 = .ok (.bipush 48, 2) := by decide +kernel
theorem dX10_chapel_121 : decode cX10_chapel 121 = .ok (.isub, 1) := by decide +kernel
theorem dX10_chapel_122 : decode cX10_chapel 122 = .ok (.iastore, 1) := by decide +kernel
theorem dX10_chapel_123 : decode cX10_chapel 123 = .ok (.aload_n 0, 1) := by decide +kernel
theorem dX10_chapel_124 : decode cX10_chapel 124 = .ok (.getfield 19, 3) := by decide +kernel
theorem dX10_chapel_127 : decode cX10_chapel 127 = .ok (.iload_n 1, 1) := by decide +kernel
theorem dX10_chapel_128 : decode cX10_chapel 128 = .ok (.iconst 0, 1) := by decide +kernel
theorem dX10_chapel_129 : decode cX10_chapel 129 = .ok (.iastore, 1) := by decide +kernel
theorem dX10_chapel_130 : decode cX10_chapel 130 = .ok (.iinc 1 1, 3) := by decide +kernel
theorem dX10_chapel_133 : decode cX10_chapel 133 = .ok (.goto (-56), 3) := by decide +kernel
theorem dX10_chapel_136 : decode cX10_chapel 136 = .ok (.iconst 0, 1) := by decide +kernel
theorem dX10_chapel_137 : decode cX10_chapel 137 = .ok (.istore_n 1, 1) := by decide +kernel
theorem dX10_chapel_138 : decode cX10_chapel 138 = .ok (.iload_n 1, 1) := by decide +kernel
theorem dX10_chapel_139 : decode cX10_chapel 139 = .ok (.aload_n 0, 1) := by decide +kernel
theorem dX10_chapel_140 : decode cX10_chapel 140 = .ok (.getfield 106, 3) := by decide +kernel
theorem dX10_chapel_143 : decode cX10_chapel 143 = .ok (.if_icmp .ge 69, 3) := by decide +kernel
theorem dX10_chapel_146 : decode cX10_chapel 146 = .ok (.aload_n 0, 1) := by decide +kernel
theorem dX10_chapel_147 : decode cX10_chapel 147 = .ok (.getfield 76, 3) := by decide +kernel
theorem dX10_chapel_150 : decode cX10_chapel 150 = .ok (.iconst 1, 1) := by decide +kernel
theorem dX10_chapel_151 : decode cX10_chapel 151 = .ok (.iadd, 1) := by decide +kernel
theorem dX10_chapel_152 : decode cX10_chapel 152 = .ok (.iconst 4, 1) := by decide +kernel
theorem dX10_chapel_153 : decode cX10_chapel 153 = .ok (.iload_n 1, 1) := by decide +kernel
theorem dX10_chapel_154 : decode cX10_chapel 154 = .ok (.imul, 1) := by decide +kernel
theorem dX10_chapel_155 : decode cX10_chapel 155 = .ok (.iadd, 1) := by decide +kernel
theorem dX10_chapel_156 : decode cX10_chapel 156 = .ok (.istore_n 2, 1) := by decide +kernel
theorem dX10_chapel_157 : decode cX10_chapel 157 = .ok (.aload_n 0, 1) := by decide +kernel
theorem dX10_chapel_158 : decode cX10_chapel 158 = .ok (.getfield 22, 3) := by decide +kernel
theorem dX10_chapel_161 : decode cX10_chapel 161 = .ok (.iload_n 1, 1) := by decide +kernel
theorem dX10_chapel_162 : decode cX10_chapel 162 = .ok (.aload_n 0, 1) := by decide +kernel
theorem dX10_chapel_163 : decode cX10_chapel 163 = .ok (.getfield 7, 3) := by decide +kernel
theorem dX10_chapel_166 : decode cX10_chapel 166 = .ok (.iload_n 2, 1) := by decide +kernel
theorem dX10_chapel_167 : decode cX10_chapel 167 = .ok (.iaload, 1) := by decide +kernel
theorem dX10_chapel_168 : decode cX10_chapel 168 = .ok (.bipush 48, 2) := by decide +kernel
theorem dX10_chapel_170 : decode cX10_chapel 170 = .ok (.isub, 1) := by decide +kernel
theorem dX10_chapel_171 : decode cX10_chapel 171 = .ok (.iastore, 1) := by decide +kernel
theorem dX10_chapel_172 : decode cX10_chapel 172 = .ok (.aload_n 0, 1) := by decide +kernel
theorem dX10_chapel_173 : decode cX10_chapel 173 = .ok (.getfield 25, 3) := by decide +kernel
theorem dX10_chapel_176 : decode cX10_chapel 176 = .ok (.iload_n 1, 1) := by decide +kernel
theorem dX10_chapel_177 : decode cX10_chapel 177 = .ok (.aload_n 0, 1) := by decide +kernel
theorem dX10_chapel_178 : decode cX10_chapel 178 = .ok (.getfield 7, 3) := by decide +kernel
theorem dX10_chapel_181 : decode cX10_chapel 181 = .ok (.iload_n 2, 1) := by decide +kernel
theorem dX10_chapel_182 : decode cX10_chapel 182 = .ok (.iconst 1, 1) := by decide +kernel
theorem dX10_chapel_183 : decode cX10_chapel 183 = .ok (.iadd, 1) := by decide +kernel
theorem dX10_chapel_184 : decode cX10_chapel 184 = .ok (.iaload, 1) := by decide +kernel
theorem dX10_chapel_185 : decode cX10_chapel 185 = .ok (.bipush 48, 2) := by decide +kernel
theorem dX10_chapel_187 : decode cX10_chapel 187 = .ok (.isub, 1) := by decide +kernel
theorem dX10_chapel_188 : decode cX10_chapel 188 = .ok (.iastore, 1) := by decide +kernel
theorem dX10_chapel_189 : decode cX10_chapel 189 = .ok (.aload_n 0, 1) := by decide +kernel
theorem dX10_chapel_190 : decode cX10_chapel 190 = .ok (.getfield 28, 3) := by decide +kernel
theorem dX10_chapel_193 : decode cX10_chapel 193 = .ok (.iload_n 1, 1) := by decide +kernel
theorem dX10_chapel_194 : decode cX10_chapel 194 = .ok (.aload_n 0, 1) := by decide +kernel
theorem dX10_chapel_195 : decode cX10_chapel 195 = .ok (.getfield 7, 3) := by decide +kernel
theorem dX10_chapel_198 : decode cX10_chapel 198 = .ok (.iload_n 2, 1) := by decide +kernel
theorem dX10_chapel_199 : decode cX10_chapel 199 = .ok (.iconst 2, 1) := by decide +kernel
theorem dX10_chapel_200 : decode cX10_chapel 200 = .ok (.iadd, 1) := by decide +kernel
theorem dX10_chapel_201 : decode cX10_chapel 201 = .ok (.iaload, 1) := by decide +kernel
theorem dX10_chapel_202 : decode cX10_chapel 202 = .ok (.bipush 48, 2) := by decide +kernel
theorem dX10_chapel_204 : decode cX10_chapel 204 = .ok (.isub, 1) := by decide +kernel
theorem dX10_chapel_205 : decode cX10_chapel 205 = .ok (.iastore, 1) := by decide +kernel
theorem dX10_chapel_206 : decode cX10_chapel 206 = .ok (.iinc 1 1, 3) := by decide +kernel
theorem dX10_chapel_209 : decode cX10_chapel 209 = .ok (.goto (-71), 3) := by decide +kernel
theorem dX10_chapel_212 : decode cX10_chapel 212 = .ok (.aload_n 0, 1) := by decide +kernel
theorem dX10_chapel_213 : decode cX10_chapel 213 = .ok (.iconst 0, 1) := by decide +kernel
theorem dX10_chapel_214 : decode cX10_chapel 214 = .ok (.putfield 109, 3) := by decide +kernel
theorem dX10_chapel_217 : decode cX10_chapel 217 = .ok (.aload_n 0, 1) := by decide +kernel
theorem dX10_chapel_218 : decode cX10_chapel 218 = .ok (.iconst 0, 1) := by decide +kernel
theorem dX10_chapel_219 : decode cX10_chapel 219 = .ok (.putfield 112, 3) := by decide +kernel
theorem dX10_chapel_222 : decode cX10_chapel 222 = .ok (.aload_n 0, 1) := by decide +kernel
theorem dX10_chapel_223 : decode cX10_chapel 223 = .ok (.iconst 0, 1) := by decide +kernel
theorem dX10_chapel_224 : decode cX10_chapel 224 = .ok (.putfield 115, 3) := by decide +kernel
theorem dX10_chapel_227 : decode cX10_chapel 227 = .ok (.aload_n 0, 1) := by decide +kernel
theorem dX10_chapel_228 : decode cX10_chapel 228 = .ok (.dup, 1) := by decide +kernel
theorem dX10_chapel_229 : decode cX10_chapel 229 = .ok (.getfield 118, 3) := by decide +kernel
theorem dX10_chapel_232 : decode cX10_chapel 232 = .ok (.iconst 1, 1) := by decide +kernel
theorem dX10_chapel_233 : decode cX10_chapel 233 = .ok (.iadd, 1) := by decide +kernel
theorem dX10_chapel_234 : decode cX10_chapel 234 = .ok (.putfield 118, 3) := by decide +kernel
theorem dX10_chapel_237 : decode cX10_chapel 237 = .ok (.aload_n 0, 1) := by decide +kernel
theorem dX10_chapel_238 : decode cX10_chapel 238 = .ok (.iconst 0, 1) := by decide +kernel
theorem dX10_chapel_239 : decode cX10_chapel 239 = .ok (.putfield 65, 3) := by decide +kernel
theorem dX10_chapel_242 : decode cX10_chapel 242 = .ok (.aload_n 0, 1) := by decide +kernel
theorem dX10_chapel_243 : decode cX10_chapel 243 = .ok (.getfield 103, 3) := by decide +kernel
theorem dX10_chapel_246 : decode cX10_chapel 246 = .ok (.ireturn, 1) := by decide +kernel
theorem dX10_lacks_0 : decode cX10_lacks 0 = .ok (.aload_n 0, 1) := by decide +kernel
theorem dX10_lacks_1 : decode cX10_lacks 1 = .ok (.getfield 103, 3) := by decide +kernel
theorem dX10_lacks_4 : decode cX10_lacks 4 = .ok (.ifCond .ne 7, 3) := by decide +kernel
theorem dX10_lacks_7 : decode cX10_lacks 7 = .ok (.iconst 1, 1) := by decide +kernel
theorem dX10_lacks_8 : decode cX10_lacks 8 = .ok (.goto 4, 3) := by decide +kernel
theorem dX10_lacks_11 : decode cX10_lacks 11 = .ok (.iconst 0, 1) := by decide +kernel
theorem dX10_lacks_12 : decode cX10_lacks 12 = .ok (.ireturn, 1) := by decide +kernel
theorem dX10_isPerson_0 : decode cX10_isPerson 0 = .ok (.iload_n 1, 1) := by decide +kernel
theorem dX10_isPerson_1 : decode cX10_isPerson 1 = .ok (.i2l, 1) := by decide +kernel
theorem dX10_isPerson_2 : decode cX10_isPerson 2 = .ok (.lconst 0, 1) := by decide +kernel
theorem dX10_isPerson_3 : decode cX10_isPerson 3 = .ok (.aload_n 0, 1) := by decide +kernel
theorem dX10_isPerson_4 : decode cX10_isPerson 4 = .ok (.getfield 103, 3) := by decide +kernel
theorem dX10_isPerson_7 : decode cX10_isPerson 7 = .ok (.iconst 1, 1) := by decide +kernel
theorem dX10_isPerson_8 : decode cX10_isPerson 8 = .ok (.isub, 1) := by decide +kernel
theorem dX10_isPerson_9 : decode cX10_isPerson 9 = .ok (.i2l, 1) := by decide +kernel
theorem dX10_isPerson_10 : decode cX10_isPerson 10 = .ok (.invokestatic 61, 3) := by decide +kernel
theorem dX10_isPerson_13 : decode cX10_isPerson 13 = .ok (.ireturn, 1) := by decide +kernel
theorem dX10_isWrong_0 : decode cX10_isWrong 0 = .ok (.iload_n 1, 1) := by decide +kernel
theorem dX10_isWrong_1 : decode cX10_isWrong 1 = .ok (.i2l, 1) := by decide +kernel
theorem dX10_isWrong_2 : decode cX10_isWrong 2 = .ok (.lconst 0, 1) := by decide +kernel
theorem dX10_isWrong_3 : decode cX10_isWrong 3 = .ok (.aload_n 0, 1) := by decide +kernel
theorem dX10_isWrong_4 : decode cX10_isWrong 4 = .ok (.getfield 106, 3) := by decide +kernel
theorem dX10_isWrong_7 : decode cX10_isWrong 7 = .ok (.iconst 1, 1) := by decide +kernel
theorem dX10_isWrong_8 : decode cX10_isWrong 8 = .ok (.isub, 1) := by decide +kernel
theorem dX10_isWrong_9 : decode cX10_isWrong 9 = .ok (.i2l, 1) := by decide +kernel
theorem dX10_isWrong_10 : decode cX10_isWrong 10 = .ok (.invokestatic 61, 3) := by decide +kernel
theorem dX10_isWrong_13 : decode cX10_isWrong 13 = .ok (.ireturn, 1) := by decide +kernel
theorem dX10_guiltBy_0 : decode cX10_guiltBy 0 = .ok (.iconst 0, 1) := by decide +kernel
theorem dX10_guiltBy_1 : decode cX10_guiltBy 1 = .ok (.istore_n 3, 1) := by decide +kernel
theorem dX10_guiltBy_2 : decode cX10_guiltBy 2 = .ok (.iconst 0, 1) := by decide +kernel
theorem dX10_guiltBy_3 : decode cX10_guiltBy 3 = .ok (.istore 4, 2) := by decide +kernel
theorem dX10_guiltBy_5 : decode cX10_guiltBy 5 = .ok (.iconst 0, 1) := by decide +kernel
theorem dX10_guiltBy_6 : decode cX10_guiltBy 6 = .ok (.istore 5, 2) := by decide +kernel
theorem dX10_guiltBy_8 : decode cX10_guiltBy 8 = .ok (.iload 5, 2) := by decide +kernel
theorem dX10_guiltBy_10 : decode cX10_guiltBy 10 = .ok (.aload_n 0, 1) := by decide +kernel
theorem dX10_guiltBy_11 : decode cX10_guiltBy 11 = .ok (.getfield 106, 3) := by decide +kernel
theorem dX10_guiltBy_14 : decode cX10_guiltBy 14 = .ok (.if_icmp .ge 88, 3) := by decide +kernel
theorem dX10_guiltBy_17 : decode cX10_guiltBy 17 = .ok (.aload_n 0, 1) := by decide +kernel
theorem dX10_guiltBy_18 : decode cX10_guiltBy 18 = .ok (.getfield 22, 3) := by decide +kernel
theorem dX10_guiltBy_21 : decode cX10_guiltBy 21 = .ok (.iload 5, 2) := by decide +kernel
theorem dX10_guiltBy_23 : decode cX10_guiltBy 23 = .ok (.iaload, 1) := by decide +kernel
theorem dX10_guiltBy_24 : decode cX10_guiltBy 24 = .ok (.iload_n 1, 1) := by decide +kernel
theorem dX10_guiltBy_25 : decode cX10_guiltBy 25 = .ok (.if_icmp .ne 7, 3) := by decide +kernel
theorem dX10_guiltBy_28 : decode cX10_guiltBy 28 = .ok (.iconst 1, 1) := by decide +kernel
theorem dX10_guiltBy_29 : decode cX10_guiltBy 29 = .ok (.goto 4, 3) := by decide +kernel
theorem dX10_guiltBy_32 : decode cX10_guiltBy 32 = .ok (.iconst 0, 1) := by decide +kernel
theorem dX10_guiltBy_33 : decode cX10_guiltBy 33 = .ok (.istore 6, 2) := by decide +kernel
theorem dX10_guiltBy_35 : decode cX10_guiltBy 35 = .ok (.iload_n 2, 1) := by decide +kernel
theorem dX10_guiltBy_36 : decode cX10_guiltBy 36 = .ok (.iload 5, 2) := by decide +kernel
theorem dX10_guiltBy_38 : decode cX10_guiltBy 38 = .ok (.ishr, 1) := by decide +kernel
theorem dX10_guiltBy_39 : decode cX10_guiltBy 39 = .ok (.iconst 1, 1) := by decide +kernel
theorem dX10_guiltBy_40 : decode cX10_guiltBy 40 = .ok (.iand, 1) := by decide +kernel
theorem dX10_guiltBy_41 : decode cX10_guiltBy 41 = .ok (.iconst 1, 1) := by decide +kernel
theorem dX10_guiltBy_42 : decode cX10_guiltBy 42 = .ok (.if_icmp .ne 7, 3) := by decide +kernel
theorem dX10_guiltBy_45 : decode cX10_guiltBy 45 = .ok (.iconst 1, 1) := by decide +kernel
theorem dX10_guiltBy_46 : decode cX10_guiltBy 46 = .ok (.goto 4, 3) := by decide +kernel
theorem dX10_guiltBy_49 : decode cX10_guiltBy 49 = .ok (.iconst 0, 1) := by decide +kernel
theorem dX10_guiltBy_50 : decode cX10_guiltBy 50 = .ok (.istore 7, 2) := by decide +kernel
theorem dX10_guiltBy_52 : decode cX10_guiltBy 52 = .ok (.iload_n 3, 1) := by decide +kernel
theorem dX10_guiltBy_53 : decode cX10_guiltBy 53 = .ok (.iload 6, 2) := by decide +kernel
theorem dX10_guiltBy_55 : decode cX10_guiltBy 55 = .ok (.ifCond .eq 18, 3) := by decide +kernel
theorem dX10_guiltBy_58 : decode cX10_guiltBy 58 = .ok (.iload 7, 2) := by decide +kernel
theorem dX10_guiltBy_60 : decode cX10_guiltBy 60 = .ok (.ifCond .ne 13, 3) := by decide +kernel
theorem dX10_guiltBy_63 : decode cX10_guiltBy 63 = .ok (.aload_n 0, 1) := by decide +kernel
theorem dX10_guiltBy_64 : decode cX10_guiltBy 64 = .ok (.getfield 28, 3) := by decide +kernel
theorem dX10_guiltBy_67 : decode cX10_guiltBy 67 = .ok (.iload 5, 2) := by decide +kernel
theorem dX10_guiltBy_69 : decode cX10_guiltBy 69 = .ok (.iaload, 1) := by decide +kernel
theorem dX10_guiltBy_70 : decode cX10_guiltBy 70 = .ok (.goto 4, 3) := by decide +kernel
theorem dX10_guiltBy_73 : decode cX10_guiltBy 73 = .ok (.iconst 0, 1) := by decide +kernel
theorem dX10_guiltBy_74 : decode cX10_guiltBy 74 = .ok (.iadd, 1) := by decide +kernel
theorem dX10_guiltBy_75 : decode cX10_guiltBy 75 = .ok (.istore_n 3, 1) := by decide +kernel
theorem dX10_guiltBy_76 : decode cX10_guiltBy 76 = .ok (.iload 4, 2) := by decide +kernel
theorem dX10_guiltBy_78 : decode cX10_guiltBy 78 = .ok (.iload 6, 2) := by decide +kernel
theorem dX10_guiltBy_80 : decode cX10_guiltBy 80 = .ok (.ifCond .eq 12, 3) := by decide +kernel
theorem dX10_guiltBy_83 : decode cX10_guiltBy 83 = .ok (.iload 7, 2) := by decide +kernel
theorem dX10_guiltBy_85 : decode cX10_guiltBy 85 = .ok (.ifCond .eq 7, 3) := by decide +kernel
theorem dX10_guiltBy_88 : decode cX10_guiltBy 88 = .ok (.iconst 1, 1) := by decide +kernel
theorem dX10_guiltBy_89 : decode cX10_guiltBy 89 = .ok (.goto 4, 3) := by decide +kernel
theorem dX10_guiltBy_92 : decode cX10_guiltBy 92 = .ok (.iconst 0, 1) := by decide +kernel
theorem dX10_guiltBy_93 : decode cX10_guiltBy 93 = .ok (.iadd, 1) := by decide +kernel
theorem dX10_guiltBy_94 : decode cX10_guiltBy 94 = .ok (.istore 4, 2) := by decide +kernel
theorem dX10_guiltBy_96 : decode cX10_guiltBy 96 = .ok (.iinc 5 1, 3) := by decide +kernel
theorem dX10_guiltBy_99 : decode cX10_guiltBy 99 = .ok (.goto (-91), 3) := by decide +kernel
theorem dX10_guiltBy_102 : decode cX10_guiltBy 102 = .ok (.aload_n 0, 1) := by decide +kernel
theorem dX10_guiltBy_103 : decode cX10_guiltBy 103 = .ok (.getfield 13, 3) := by decide +kernel
theorem dX10_guiltBy_106 : decode cX10_guiltBy 106 = .ok (.iload_n 1, 1) := by decide +kernel
theorem dX10_guiltBy_107 : decode cX10_guiltBy 107 = .ok (.iaload, 1) := by decide +kernel
theorem dX10_guiltBy_108 : decode cX10_guiltBy 108 = .ok (.tableswitch 54 1 4 #[32, 36, 41, 52], 32) := by decide +kernel
theorem dX10_guiltBy_140 : decode cX10_guiltBy 140 = .ok (.iload_n 3, 1) := by decide +kernel
theorem dX10_guiltBy_141 : decode cX10_guiltBy 141 = .ok (.iconst 2, 1) := by decide +kernel
theorem dX10_guiltBy_142 : decode cX10_guiltBy 142 = .ok (.idiv, 1) := by decide +kernel
theorem dX10_guiltBy_143 : decode cX10_guiltBy 143 = .ok (.ireturn, 1) := by decide +kernel
theorem dX10_guiltBy_144 : decode cX10_guiltBy 144 = .ok (.iload_n 3, 1) := by decide +kernel
theorem dX10_guiltBy_145 : decode cX10_guiltBy 145 = .ok (.iload 4, 2) := by decide +kernel
theorem dX10_guiltBy_147 : decode cX10_guiltBy 147 = .ok (.iadd, 1) := by decide +kernel
theorem dX10_guiltBy_148 : decode cX10_guiltBy 148 = .ok (.ireturn, 1) := by decide +kernel
theorem dX10_guiltBy_149 : decode cX10_guiltBy 149 = .ok (.iload_n 3, 1) := by decide +kernel
theorem dX10_guiltBy_150 : decode cX10_guiltBy 150 = .ok (.iconst 1, 1) := by decide +kernel
theorem dX10_guiltBy_151 : decode cX10_guiltBy 151 = .ok (.if_icmp .le 7, 3) := by decide +kernel
theorem dX10_guiltBy_154 : decode cX10_guiltBy 154 = .ok (.iload_n 3, 1) := by decide +kernel
theorem dX10_guiltBy_155 : decode cX10_guiltBy 155 = .ok (.goto 4, 3) := by decide +kernel
theorem dX10_guiltBy_158 : decode cX10_guiltBy 158 = .ok (.iconst 1, 1) := by decide +kernel
theorem dX10_guiltBy_159 : decode cX10_guiltBy 159 = .ok (.ireturn, 1) := by decide +kernel
theorem dX10_guiltBy_160 : decode cX10_guiltBy 160 = .ok (.iconst 0, 1) := by decide +kernel
theorem dX10_guiltBy_161 : decode cX10_guiltBy 161 = .ok (.ireturn, 1) := by decide +kernel
theorem dX10_guiltBy_162 : decode cX10_guiltBy 162 = .ok (.iload_n 3, 1) := by decide +kernel
theorem dX10_guiltBy_163 : decode cX10_guiltBy 163 = .ok (.ireturn, 1) := by decide +kernel
theorem dX10_sitsBy_0 : decode cX10_sitsBy 0 = .ok (.iconst 0, 1) := by decide +kernel
theorem dX10_sitsBy_1 : decode cX10_sitsBy 1 = .ok (.istore_n 3, 1) := by decide +kernel
theorem dX10_sitsBy_2 : decode cX10_sitsBy 2 = .ok (.iload_n 3, 1) := by decide +kernel
theorem dX10_sitsBy_3 : decode cX10_sitsBy 3 = .ok (.aload_n 0, 1) := by decide +kernel
theorem dX10_sitsBy_4 : decode cX10_sitsBy 4 = .ok (.getfield 103, 3) := by decide +kernel
theorem dX10_sitsBy_7 : decode cX10_sitsBy 7 = .ok (.if_icmp .ge 21, 3) := by decide +kernel
theorem dX10_sitsBy_10 : decode cX10_sitsBy 10 = .ok (.aload_n 0, 1) := by decide +kernel
theorem dX10_sitsBy_11 : decode cX10_sitsBy 11 = .ok (.getfield 31, 3) := by decide +kernel
theorem dX10_sitsBy_14 : decode cX10_sitsBy 14 = .ok (.iload_n 3, 1) := by decide +kernel
theorem dX10_sitsBy_15 : decode cX10_sitsBy 15 = .ok (.aload_n 0, 1) := by decide +kernel
theorem dX10_sitsBy_16 : decode cX10_sitsBy 16 = .ok (.iload_n 3, 1) := by decide +kernel
theorem dX10_sitsBy_17 : decode cX10_sitsBy 17 = .ok (.iload_n 1, 1) := by decide +kernel
theorem dX10_sitsBy_18 : decode cX10_sitsBy 18 = .ok (.invokevirtual 121, 3) := by decide +kernel
theorem dX10_sitsBy_21 : decode cX10_sitsBy 21 = .ok (.iastore, 1) := by decide +kernel
theorem dX10_sitsBy_22 : decode cX10_sitsBy 22 = .ok (.iinc 3 1, 3) := by decide +kernel
theorem dX10_sitsBy_25 : decode cX10_sitsBy 25 = .ok (.goto (-23), 3) := by decide +kernel
theorem dX10_sitsBy_28 : decode cX10_sitsBy 28 = .ok (.iconst 0, 1) := by decide +kernel
theorem dX10_sitsBy_29 : decode cX10_sitsBy 29 = .ok (.istore_n 3, 1) := by decide +kernel
theorem dX10_sitsBy_30 : decode cX10_sitsBy 30 = .ok (.iconst 0, 1) := by decide +kernel
theorem dX10_sitsBy_31 : decode cX10_sitsBy 31 = .ok (.istore 4, 2) := by decide +kernel
theorem dX10_sitsBy_33 : decode cX10_sitsBy 33 = .ok (.iload 4, 2) := by decide +kernel
theorem dX10_sitsBy_35 : decode cX10_sitsBy 35 = .ok (.aload_n 0, 1) := by decide +kernel
theorem dX10_sitsBy_36 : decode cX10_sitsBy 36 = .ok (.getfield 103, 3) := by decide +kernel
theorem dX10_sitsBy_39 : decode cX10_sitsBy 39 = .ok (.if_icmp .ge 108, 3) := by decide +kernel
theorem dX10_sitsBy_42 : decode cX10_sitsBy 42 = .ok (.iconst 0, 1) := by decide +kernel
theorem dX10_sitsBy_43 : decode cX10_sitsBy 43 = .ok (.istore 5, 2) := by decide +kernel
theorem dX10_sitsBy_45 : decode cX10_sitsBy 45 = .ok (.iconst 0, 1) := by decide +kernel
theorem dX10_sitsBy_46 : decode cX10_sitsBy 46 = .ok (.istore 6, 2) := by decide +kernel
theorem dX10_sitsBy_48 : decode cX10_sitsBy 48 = .ok (.iload 6, 2) := by decide +kernel
theorem dX10_sitsBy_50 : decode cX10_sitsBy 50 = .ok (.aload_n 0, 1) := by decide +kernel
theorem dX10_sitsBy_51 : decode cX10_sitsBy 51 = .ok (.getfield 103, 3) := by decide +kernel
theorem dX10_sitsBy_54 : decode cX10_sitsBy 54 = .ok (.if_icmp .ge 60, 3) := by decide +kernel
theorem dX10_sitsBy_57 : decode cX10_sitsBy 57 = .ok (.iload 5, 2) := by decide +kernel
theorem dX10_sitsBy_59 : decode cX10_sitsBy 59 = .ok (.aload_n 0, 1) := by decide +kernel
theorem dX10_sitsBy_60 : decode cX10_sitsBy 60 = .ok (.getfield 31, 3) := by decide +kernel
theorem dX10_sitsBy_63 : decode cX10_sitsBy 63 = .ok (.iload 6, 2) := by decide +kernel
theorem dX10_sitsBy_65 : decode cX10_sitsBy 65 = .ok (.iaload, 1) := by decide +kernel
theorem dX10_sitsBy_66 : decode cX10_sitsBy 66 = .ok (.aload_n 0, 1) := by decide +kernel
theorem dX10_sitsBy_67 : decode cX10_sitsBy 67 = .ok (.getfield 31, 3) := by decide +kernel
theorem dX10_sitsBy_70 : decode cX10_sitsBy 70 = .ok (.iload 4, 2) := by decide +kernel
theorem dX10_sitsBy_72 : decode cX10_sitsBy 72 = .ok (.iaload, 1) := by decide +kernel
theorem dX10_sitsBy_73 : decode cX10_sitsBy 73 = .ok (.if_icmp .gt 27, 3) := by decide +kernel
theorem dX10_sitsBy_76 : decode cX10_sitsBy 76 = .ok (.aload_n 0, 1) := by decide +kernel
theorem dX10_sitsBy_77 : decode cX10_sitsBy 77 = .ok (.getfield 31, 3) := by decide +kernel
theorem dX10_sitsBy_80 : decode cX10_sitsBy 80 = .ok (.iload 6, 2) := by decide +kernel
theorem dX10_sitsBy_82 : decode cX10_sitsBy 82 = .ok (.iaload, 1) := by decide +kernel
theorem dX10_sitsBy_83 : decode cX10_sitsBy 83 = .ok (.aload_n 0, 1) := by decide +kernel
theorem dX10_sitsBy_84 : decode cX10_sitsBy 84 = .ok (.getfield 31, 3) := by decide +kernel
theorem dX10_sitsBy_87 : decode cX10_sitsBy 87 = .ok (.iload 4, 2) := by decide +kernel
theorem dX10_sitsBy_89 : decode cX10_sitsBy 89 = .ok (.iaload, 1) := by decide +kernel
theorem dX10_sitsBy_90 : decode cX10_sitsBy 90 = .ok (.if_icmp .ne 14, 3) := by decide +kernel
theorem dX10_sitsBy_93 : decode cX10_sitsBy 93 = .ok (.iload 6, 2) := by decide +kernel
theorem dX10_sitsBy_95 : decode cX10_sitsBy 95 = .ok (.iload 4, 2) := by decide +kernel
theorem dX10_sitsBy_97 : decode cX10_sitsBy 97 = .ok (.if_icmp .ge 7, 3) := by decide +kernel
theorem dX10_sitsBy_100 : decode cX10_sitsBy 100 = .ok (.iconst 1, 1) := by decide +kernel
theorem dX10_sitsBy_101 : decode cX10_sitsBy 101 = .ok (.goto 4, 3) := by decide +kernel
theorem dX10_sitsBy_104 : decode cX10_sitsBy 104 = .ok (.iconst 0, 1) := by decide +kernel
theorem dX10_sitsBy_105 : decode cX10_sitsBy 105 = .ok (.iadd, 1) := by decide +kernel
theorem dX10_sitsBy_106 : decode cX10_sitsBy 106 = .ok (.istore 5, 2) := by decide +kernel
theorem dX10_sitsBy_108 : decode cX10_sitsBy 108 = .ok (.iinc 6 1, 3) := by decide +kernel
theorem dX10_sitsBy_111 : decode cX10_sitsBy 111 = .ok (.goto (-63), 3) := by decide +kernel
theorem dX10_sitsBy_114 : decode cX10_sitsBy 114 = .ok (.iload_n 3, 1) := by decide +kernel
theorem dX10_sitsBy_115 : decode cX10_sitsBy 115 = .ok (.aload_n 0, 1) := by decide +kernel
theorem dX10_sitsBy_116 : decode cX10_sitsBy 116 = .ok (.getfield 31, 3) := by decide +kernel
theorem dX10_sitsBy_119 : decode cX10_sitsBy 119 = .ok (.iload 4, 2) := by decide +kernel
theorem dX10_sitsBy_121 : decode cX10_sitsBy 121 = .ok (.iaload, 1) := by decide +kernel
theorem dX10_sitsBy_122 : decode cX10_sitsBy 122 = .ok (.ifCond .le 16, 3) := by decide +kernel
theorem dX10_sitsBy_125 : decode cX10_sitsBy 125 = .ok (.iload 5, 2) := by decide +kernel
theorem dX10_sitsBy_127 : decode cX10_sitsBy 127 = .ok (.iload_n 2, 1) := by decide +kernel
theorem dX10_sitsBy_128 : decode cX10_sitsBy 128 = .ok (.if_icmp .ge 10, 3) := by decide +kernel
theorem dX10_sitsBy_131 : decode cX10_sitsBy 131 = .ok (.iconst 1, 1) := by decide +kernel
theorem dX10_sitsBy_132 : decode cX10_sitsBy 132 = .ok (.iload 4, 2) := by decide +kernel
theorem dX10_sitsBy_134 : decode cX10_sitsBy 134 = .ok (.ishl, 1) := by decide +kernel
theorem dX10_sitsBy_135 : decode cX10_sitsBy 135 = .ok (.goto 4, 3) := by decide +kernel
theorem dX10_sitsBy_138 : decode cX10_sitsBy 138 = .ok (.iconst 0, 1) := by decide +kernel
theorem dX10_sitsBy_139 : decode cX10_sitsBy 139 = .ok (.ior, 1) := by decide +kernel
theorem dX10_sitsBy_140 : decode cX10_sitsBy 140 = .ok (.istore_n 3, 1) := by decide +kernel
theorem dX10_sitsBy_141 : decode cX10_sitsBy 141 = .ok (.iinc 4 1, 3) := by decide +kernel
theorem dX10_sitsBy_144 : decode cX10_sitsBy 144 = .ok (.goto (-111), 3) := by decide +kernel
theorem dX10_sitsBy_147 : decode cX10_sitsBy 147 = .ok (.iload_n 3, 1) := by decide +kernel
theorem dX10_sitsBy_148 : decode cX10_sitsBy 148 = .ok (.ireturn, 1) := by decide +kernel
theorem dX10_sitsNow_0 : decode cX10_sitsNow 0 = .ok (.aload_n 0, 1) := by decide +kernel
theorem dX10_sitsNow_1 : decode cX10_sitsNow 1 = .ok (.aload_n 0, 1) := by decide +kernel
theorem dX10_sitsNow_2 : decode cX10_sitsNow 2 = .ok (.getfield 109, 3) := by decide +kernel
theorem dX10_sitsNow_5 : decode cX10_sitsNow 5 = .ok (.aload_n 0, 1) := by decide +kernel
theorem dX10_sitsNow_6 : decode cX10_sitsNow 6 = .ok (.getfield 100, 3) := by decide +kernel
theorem dX10_sitsNow_9 : decode cX10_sitsNow 9 = .ok (.invokevirtual 125, 3) := by decide +kernel
theorem dX10_sitsNow_12 : decode cX10_sitsNow 12 = .ok (.ireturn, 1) := by decide +kernel
theorem dX10_sundayThen_0 : decode cX10_sundayThen 0 = .ok (.iconst 0, 1) := by decide +kernel
theorem dX10_sundayThen_1 : decode cX10_sundayThen 1 = .ok (.istore_n 2, 1) := by decide +kernel
theorem dX10_sundayThen_2 : decode cX10_sundayThen 2 = .ok (.iconst 0, 1) := by decide +kernel
theorem dX10_sundayThen_3 : decode cX10_sundayThen 3 = .ok (.istore_n 3, 1) := by decide +kernel
theorem dX10_sundayThen_4 : decode cX10_sundayThen 4 = .ok (.iload_n 3, 1) := by decide +kernel
theorem dX10_sundayThen_5 : decode cX10_sundayThen 5 = .ok (.aload_n 0, 1) := by decide +kernel
theorem dX10_sundayThen_6 : decode cX10_sundayThen 6 = .ok (.getfield 103, 3) := by decide +kernel
theorem dX10_sundayThen_9 : decode cX10_sundayThen 9 = .ok (.if_icmp .ge 92, 3) := by decide +kernel
theorem dX10_sundayThen_12 : decode cX10_sundayThen 12 = .ok (.iload_n 1, 1) := by decide +kernel
theorem dX10_sundayThen_13 : decode cX10_sundayThen 13 = .ok (.iload_n 3, 1) := by decide +kernel
theorem dX10_sundayThen_14 : decode cX10_sundayThen 14 = .ok (.ishr, 1) := by decide +kernel
theorem dX10_sundayThen_15 : decode cX10_sundayThen 15 = .ok (.iconst 1, 1) := by decide +kernel
theorem dX10_sundayThen_16 : decode cX10_sundayThen 16 = .ok (.iand, 1) := by decide +kernel
theorem dX10_sundayThen_17 : decode cX10_sundayThen 17 = .ok (.iconst 1, 1) := by decide +kernel
theorem dX10_sundayThen_18 : decode cX10_sundayThen 18 = .ok (.if_icmp .ne 7, 3) := by decide +kernel
theorem dX10_sundayThen_21 : decode cX10_sundayThen 21 = .ok (.iconst 1, 1) := by decide +kernel
theorem dX10_sundayThen_22 : decode cX10_sundayThen 22 = .ok (.goto 4, 3) := by decide +kernel
theorem dX10_sundayThen_25 : decode cX10_sundayThen 25 = .ok (.iconst 0, 1) := by decide +kernel
theorem dX10_sundayThen_26 : decode cX10_sundayThen 26 = .ok (.istore 4, 2) := by decide +kernel
theorem dX10_sundayThen_28 : decode cX10_sundayThen 28 = .ok (.aload_n 0, 1) := by decide +kernel
theorem dX10_sundayThen_29 : decode cX10_sundayThen 29 = .ok (.getfield 34, 3) := by decide +kernel
theorem dX10_sundayThen_32 : decode cX10_sundayThen 32 = .ok (.iload_n 3, 1) := by decide +kernel
theorem dX10_sundayThen_33 : decode cX10_sundayThen 33 = .ok (.iaload, 1) := by decide +kernel
theorem dX10_sundayThen_34 : decode cX10_sundayThen 34 = .ok (.iload 4, 2) := by decide +kernel
theorem dX10_sundayThen_36 : decode cX10_sundayThen 36 = .ok (.ifCond .eq 7, 3) := by decide +kernel
theorem dX10_sundayThen_39 : decode cX10_sundayThen 39 = .ok (.iconst 2, 1) := by decide +kernel
theorem dX10_sundayThen_40 : decode cX10_sundayThen 40 = .ok (.goto 4, 3) := by decide +kernel
theorem dX10_sundayThen_43 : decode cX10_sundayThen 43 = .ok (.iconst (-1), 1) := by decide +kernel
theorem dX10_sundayThen_44 : decode cX10_sundayThen 44 = .ok (.iadd, 1) := by decide +kernel
theorem dX10_sundayThen_45 : decode cX10_sundayThen 45 = .ok (.istore 5, 2) := by decide +kernel
theorem dX10_sundayThen_47 : decode cX10_sundayThen 47 = .ok (.aload_n 0, 1) := by decide +kernel
theorem dX10_sundayThen_48 : decode cX10_sundayThen 48 = .ok (.getfield 34, 3) := by decide +kernel
theorem dX10_sundayThen_51 : decode cX10_sundayThen 51 = .ok (.iload_n 3, 1) := by decide +kernel
theorem dX10_sundayThen_52 : decode cX10_sundayThen 52 = .ok (.iload 5, 2) := by decide +kernel
theorem dX10_sundayThen_54 : decode cX10_sundayThen 54 = .ok (.ifCond .ge 7, 3) := by decide +kernel
theorem dX10_sundayThen_57 : decode cX10_sundayThen 57 = .ok (.iconst 0, 1) := by decide +kernel
theorem dX10_sundayThen_58 : decode cX10_sundayThen 58 = .ok (.goto 17, 3) := by decide +kernel
theorem dX10_sundayThen_61 : decode cX10_sundayThen 61 = .ok (.iload 5, 2) := by decide +kernel
theorem dX10_sundayThen_63 : decode cX10_sundayThen 63 = .ok (.bipush 20, 2) := by decide +kernel
theorem dX10_sundayThen_65 : decode cX10_sundayThen 65 = .ok (.if_icmp .le 8, 3) := by decide +kernel
theorem dX10_sundayThen_68 : decode cX10_sundayThen 68 = .ok (.bipush 20, 2) := by decide +kernel
theorem dX10_sundayThen_70 : decode cX10_sundayThen 70 = .ok (.goto 5, 3) := by decide +kernel
theorem dX10_sundayThen_73 : decode cX10_sundayThen 73 = .ok (.iload 5, 2) := by decide +kernel
theorem dX10_sundayThen_75 : decode cX10_sundayThen 75 = .ok (.iastore, 1) := by decide +kernel
theorem dX10_sundayThen_76 : decode cX10_sundayThen 76 = .ok (.iload_n 2, 1) := by decide +kernel
theorem dX10_sundayThen_77 : decode cX10_sundayThen 77 = .ok (.aload_n 0, 1) := by decide +kernel
theorem dX10_sundayThen_78 : decode cX10_sundayThen 78 = .ok (.getfield 34, 3) := by decide +kernel
theorem dX10_sundayThen_81 : decode cX10_sundayThen 81 = .ok (.iload_n 3, 1) := by decide +kernel
theorem dX10_sundayThen_82 : decode cX10_sundayThen 82 = .ok (.iaload, 1) := by decide +kernel
theorem dX10_sundayThen_83 : decode cX10_sundayThen 83 = .ok (.ifCond .ne 9, 3) := by decide +kernel
theorem dX10_sundayThen_86 : decode cX10_sundayThen 86 = .ok (.iconst 1, 1) := by decide +kernel
theorem dX10_sundayThen_87 : decode cX10_sundayThen 87 = .ok (.iload_n 3, 1) := by decide +kernel
theorem dX10_sundayThen_88 : decode cX10_sundayThen 88 = .ok (.ishl, 1) := by decide +kernel
theorem dX10_sundayThen_89 : decode cX10_sundayThen 89 = .ok (.goto 4, 3) := by decide +kernel
theorem dX10_sundayThen_92 : decode cX10_sundayThen 92 = .ok (.iconst 0, 1) := by decide +kernel
theorem dX10_sundayThen_93 : decode cX10_sundayThen 93 = .ok (.ior, 1) := by decide +kernel
theorem dX10_sundayThen_94 : decode cX10_sundayThen 94 = .ok (.istore_n 2, 1) := by decide +kernel
theorem dX10_sundayThen_95 : decode cX10_sundayThen 95 = .ok (.iinc 3 1, 3) := by decide +kernel
theorem dX10_sundayThen_98 : decode cX10_sundayThen 98 = .ok (.goto (-94), 3) := by decide +kernel
theorem dX10_sundayThen_101 : decode cX10_sundayThen 101 = .ok (.iload_n 2, 1) := by decide +kernel
theorem dX10_sundayThen_102 : decode cX10_sundayThen 102 = .ok (.ireturn, 1) := by decide +kernel
theorem dX10_grudgesOf_0 : decode cX10_grudgesOf 0 = .ok (.iconst 0, 1) := by decide +kernel
theorem dX10_grudgesOf_1 : decode cX10_grudgesOf 1 = .ok (.istore_n 3, 1) := by decide +kernel
theorem dX10_grudgesOf_2 : decode cX10_grudgesOf 2 = .ok (.iconst 0, 1) := by decide +kernel
theorem dX10_grudgesOf_3 : decode cX10_grudgesOf 3 = .ok (.istore 4, 2) := by decide +kernel
theorem dX10_grudgesOf_5 : decode cX10_grudgesOf 5 = .ok (.iload 4, 2) := by decide +kernel
theorem dX10_grudgesOf_7 : decode cX10_grudgesOf 7 = .ok (.aload_n 0, 1) := by decide +kernel
theorem dX10_grudgesOf_8 : decode cX10_grudgesOf 8 = .ok (.getfield 106, 3) := by decide +kernel
theorem dX10_grudgesOf_11 : decode cX10_grudgesOf 11 = .ok (.if_icmp .ge 45, 3) := by decide +kernel
theorem dX10_grudgesOf_14 : decode cX10_grudgesOf 14 = .ok (.iload_n 3, 1) := by decide +kernel
theorem dX10_grudgesOf_15 : decode cX10_grudgesOf 15 = .ok (.aload_n 0, 1) := by decide +kernel
theorem dX10_grudgesOf_16 : decode cX10_grudgesOf 16 = .ok (.getfield 25, 3) := by decide +kernel
theorem dX10_grudgesOf_19 : decode cX10_grudgesOf 19 = .ok (.iload 4, 2) := by decide +kernel
theorem dX10_grudgesOf_21 : decode cX10_grudgesOf 21 = .ok (.iaload, 1) := by decide +kernel
theorem dX10_grudgesOf_22 : decode cX10_grudgesOf 22 = .ok (.iload_n 1, 1) := by decide +kernel
theorem dX10_grudgesOf_23 : decode cX10_grudgesOf 23 = .ok (.if_icmp .ne 24, 3) := by decide +kernel
theorem dX10_grudgesOf_26 : decode cX10_grudgesOf 26 = .ok (.iload_n 2, 1) := by decide +kernel
theorem dX10_grudgesOf_27 : decode cX10_grudgesOf 27 = .ok (.iload 4, 2) := by decide +kernel
theorem dX10_grudgesOf_29 : decode cX10_grudgesOf 29 = .ok (.ishr, 1) := by decide +kernel
theorem dX10_grudgesOf_30 : decode cX10_grudgesOf 30 = .ok (.iconst 1, 1) := by decide +kernel
theorem dX10_grudgesOf_31 : decode cX10_grudgesOf 31 = .ok (.iand, 1) := by decide +kernel
theorem dX10_grudgesOf_32 : decode cX10_grudgesOf 32 = .ok (.ifCond .ne 15, 3) := by decide +kernel
theorem dX10_grudgesOf_35 : decode cX10_grudgesOf 35 = .ok (.iconst 1, 1) := by decide +kernel
theorem dX10_grudgesOf_36 : decode cX10_grudgesOf 36 = .ok (.aload_n 0, 1) := by decide +kernel
theorem dX10_grudgesOf_37 : decode cX10_grudgesOf 37 = .ok (.getfield 22, 3) := by decide +kernel
theorem dX10_grudgesOf_40 : decode cX10_grudgesOf 40 = .ok (.iload 4, 2) := by decide +kernel
theorem dX10_grudgesOf_42 : decode cX10_grudgesOf 42 = .ok (.iaload, 1) := by decide +kernel
theorem dX10_grudgesOf_43 : decode cX10_grudgesOf 43 = .ok (.ishl, 1) := by decide +kernel
theorem dX10_grudgesOf_44 : decode cX10_grudgesOf 44 = .ok (.goto 4, 3) := by decide +kernel
theorem dX10_grudgesOf_47 : decode cX10_grudgesOf 47 = .ok (.iconst 0, 1) := by decide +kernel
theorem dX10_grudgesOf_48 : decode cX10_grudgesOf 48 = .ok (.ior, 1) := by decide +kernel
theorem dX10_grudgesOf_49 : decode cX10_grudgesOf 49 = .ok (.istore_n 3, 1) := by decide +kernel
theorem dX10_grudgesOf_50 : decode cX10_grudgesOf 50 = .ok (.iinc 4 1, 3) := by decide +kernel
theorem dX10_grudgesOf_53 : decode cX10_grudgesOf 53 = .ok (.goto (-48), 3) := by decide +kernel
theorem dX10_grudgesOf_56 : decode cX10_grudgesOf 56 = .ok (.iload_n 3, 1) := by decide +kernel
theorem dX10_grudgesOf_57 : decode cX10_grudgesOf 57 = .ok (.ireturn, 1) := by decide +kernel
theorem dX10_tellPerson_0 : decode cX10_tellPerson 0 = .ok (.iload_n 2, 1) := by decide +kernel
theorem dX10_tellPerson_1 : decode cX10_tellPerson 1 = .ok (.tableswitch 89 0 5 #[39, 46, 53, 63, 72, 79], 39) := by decide +kernel
theorem dX10_tellPerson_40 : decode cX10_tellPerson 40 = .ok (.aload_n 0, 1) := by decide +kernel
theorem dX10_tellPerson_41 : decode cX10_tellPerson 41 = .ok (.getfield 13, 3) := by decide +kernel
theorem dX10_tellPerson_44 : decode cX10_tellPerson 44 = .ok (.iload_n 1, 1) := by decide +kernel
theorem dX10_tellPerson_45 : decode cX10_tellPerson 45 = .ok (.iaload, 1) := by decide +kernel
theorem dX10_tellPerson_46 : decode cX10_tellPerson 46 = .ok (.ireturn, 1) := by decide +kernel
theorem dX10_tellPerson_47 : decode cX10_tellPerson 47 = .ok (.aload_n 0, 1) := by decide +kernel
theorem dX10_tellPerson_48 : decode cX10_tellPerson 48 = .ok (.getfield 16, 3) := by decide +kernel
theorem dX10_tellPerson_51 : decode cX10_tellPerson 51 = .ok (.iload_n 1, 1) := by decide +kernel
theorem dX10_tellPerson_52 : decode cX10_tellPerson 52 = .ok (.iaload, 1) := by decide +kernel
theorem dX10_tellPerson_53 : decode cX10_tellPerson 53 = .ok (.ireturn, 1) := by decide +kernel
theorem dX10_tellPerson_54 : decode cX10_tellPerson 54 = .ok (.aload_n 0, 1) := by decide +kernel
theorem dX10_tellPerson_55 : decode cX10_tellPerson 55 = .ok (.iload_n 1, 1) := by decide +kernel
theorem dX10_tellPerson_56 : decode cX10_tellPerson 56 = .ok (.aload_n 0, 1) := by decide +kernel
theorem dX10_tellPerson_57 : decode cX10_tellPerson 57 = .ok (.getfield 109, 3) := by decide +kernel
theorem dX10_tellPerson_60 : decode cX10_tellPerson 60 = .ok (.invokevirtual 121, 3) := by decide +kernel
theorem dX10_tellPerson_63 : decode cX10_tellPerson 63 = .ok (.ireturn, 1) := by decide +kernel
theorem dX10_tellPerson_64 : decode cX10_tellPerson 64 = .ok (.aload_n 0, 1) := by decide +kernel
theorem dX10_tellPerson_65 : decode cX10_tellPerson 65 = .ok (.invokevirtual 128, 3) := by decide +kernel
theorem dX10_tellPerson_68 : decode cX10_tellPerson 68 = .ok (.iload_n 1, 1) := by decide +kernel
theorem dX10_tellPerson_69 : decode cX10_tellPerson 69 = .ok (.ishr, 1) := by decide +kernel
theorem dX10_tellPerson_70 : decode cX10_tellPerson 70 = .ok (.iconst 1, 1) := by decide +kernel
theorem dX10_tellPerson_71 : decode cX10_tellPerson 71 = .ok (.iand, 1) := by decide +kernel
theorem dX10_tellPerson_72 : decode cX10_tellPerson 72 = .ok (.ireturn, 1) := by decide +kernel
theorem dX10_tellPerson_73 : decode cX10_tellPerson 73 = .ok (.aload_n 0, 1) := by decide +kernel
theorem dX10_tellPerson_74 : decode cX10_tellPerson 74 = .ok (.getfield 19, 3) := by decide +kernel
theorem dX10_tellPerson_77 : decode cX10_tellPerson 77 = .ok (.iload_n 1, 1) := by decide +kernel
theorem dX10_tellPerson_78 : decode cX10_tellPerson 78 = .ok (.iaload, 1) := by decide +kernel
theorem dX10_tellPerson_79 : decode cX10_tellPerson 79 = .ok (.ireturn, 1) := by decide +kernel
theorem dX10_tellPerson_80 : decode cX10_tellPerson 80 = .ok (.aload_n 0, 1) := by decide +kernel
theorem dX10_tellPerson_81 : decode cX10_tellPerson 81 = .ok (.iload_n 1, 1) := by decide +kernel
theorem dX10_tellPerson_82 : decode cX10_tellPerson 82 = .ok (.aload_n 0, 1) := by decide +kernel
theorem dX10_tellPerson_83 : decode cX10_tellPerson 83 = .ok (.getfield 109, 3) := by decide +kernel
theorem dX10_tellPerson_86 : decode cX10_tellPerson 86 = .ok (.invokevirtual 131, 3) := by decide +kernel
theorem dX10_tellPerson_89 : decode cX10_tellPerson 89 = .ok (.ireturn, 1) := by decide +kernel
theorem dX10_tellPerson_90 : decode cX10_tellPerson 90 = .ok (.bipush (-102), 2) := by decide +kernel
theorem dX10_tellPerson_92 : decode cX10_tellPerson 92 = .ok (.ireturn, 1) := by decide +kernel
theorem dX10_person_0 : decode cX10_person 0 = .ok (.aload_n 0, 1) := by decide +kernel
theorem dX10_person_1 : decode cX10_person 1 = .ok (.iload_n 1, 1) := by decide +kernel
theorem dX10_person_2 : decode cX10_person 2 = .ok (.invokevirtual 134, 3) := by decide +kernel
theorem dX10_person_5 : decode cX10_person 5 = .ok (.ifCond .eq 12, 3) := by decide +kernel
theorem dX10_person_8 : decode cX10_person 8 = .ok (.aload_n 0, 1) := by decide +kernel
theorem dX10_person_9 : decode cX10_person 9 = .ok (.iload_n 1, 1) := by decide +kernel
theorem dX10_person_10 : decode cX10_person 10 = .ok (.iload_n 2, 1) := by decide +kernel
theorem dX10_person_11 : decode cX10_person 11 = .ok (.invokevirtual 137, 3) := by decide +kernel
theorem dX10_person_14 : decode cX10_person 14 = .ok (.goto 5, 3) := by decide +kernel
theorem dX10_person_17 : decode cX10_person 17 = .ok (.bipush (-101), 2) := by decide +kernel
theorem dX10_person_19 : decode cX10_person 19 = .ok (.ireturn, 1) := by decide +kernel
theorem dX10_as_0 : decode cX10_as 0 = .ok (.aload_n 0, 1) := by decide +kernel
theorem dX10_as_1 : decode cX10_as 1 = .ok (.iload_n 1, 1) := by decide +kernel
theorem dX10_as_2 : decode cX10_as 2 = .ok (.invokevirtual 134, 3) := by decide +kernel
theorem dX10_as_5 : decode cX10_as 5 = .ok (.ifCond .ne 6, 3) := by decide +kernel
theorem dX10_as_8 : decode cX10_as 8 = .ok (.bipush (-101), 2) := by decide +kernel
theorem dX10_as_10 : decode cX10_as 10 = .ok (.ireturn, 1) := by decide +kernel
theorem dX10_as_11 : decode cX10_as 11 = .ok (.iload_n 2, 1) := by decide +kernel
theorem dX10_as_12 : decode cX10_as 12 = .ok (.i2l, 1) := by decide +kernel
theorem dX10_as_13 : decode cX10_as 13 = .ok (.lconst 0, 1) := by decide +kernel
theorem dX10_as_14 : decode cX10_as 14 = .ok (.ldc2_w 140, 3) := by decide +kernel
theorem dX10_as_17 : decode cX10_as 17 = .ok (.invokestatic 61, 3) := by decide +kernel
theorem dX10_as_20 : decode cX10_as 20 = .ok (.ifCond .ne 6, 3) := by decide +kernel
theorem dX10_as_23 : decode cX10_as 23 = .ok (.bipush (-102), 2) := by decide +kernel
theorem dX10_as_25 : decode cX10_as 25 = .ok (.ireturn, 1) := by decide +kernel
theorem dX10_as_26 : decode cX10_as 26 = .ok (.iload_n 2, 1) := by decide +kernel
theorem dX10_as_27 : decode cX10_as 27 = .ok (.ifCond .eq 28, 3) := by decide +kernel
theorem dX10_as_30 : decode cX10_as 30 = .ok (.iload_n 2, 1) := by decide +kernel
theorem dX10_as_31 : decode cX10_as 31 = .ok (.aload_n 0, 1) := by decide +kernel
theorem dX10_as_32 : decode cX10_as 32 = .ok (.getfield 13, 3) := by decide +kernel
theorem dX10_as_35 : decode cX10_as 35 = .ok (.iload_n 1, 1) := by decide +kernel
theorem dX10_as_36 : decode cX10_as 36 = .ok (.iaload, 1) := by decide +kernel
theorem dX10_as_37 : decode cX10_as 37 = .ok (.if_icmp .eq 18, 3) := by decide +kernel
theorem dX10_as_40 : decode cX10_as 40 = .ok (.iload_n 2, 1) := by decide +kernel
theorem dX10_as_41 : decode cX10_as 41 = .ok (.iconst 1, 1) := by decide +kernel
theorem dX10_as_42 : decode cX10_as 42 = .ok (.if_icmp .ne 17, 3) := by decide +kernel
theorem dX10_as_45 : decode cX10_as 45 = .ok (.aload_n 0, 1) := by decide +kernel
theorem dX10_as_46 : decode cX10_as 46 = .ok (.getfield 13, 3) := by decide +kernel
theorem dX10_as_49 : decode cX10_as 49 = .ok (.iload_n 1, 1) := by decide +kernel
theorem dX10_as_50 : decode cX10_as 50 = .ok (.iaload, 1) := by decide +kernel
theorem dX10_as_51 : decode cX10_as 51 = .ok (.iconst 4, 1) := by decide +kernel
theorem dX10_as_52 : decode cX10_as 52 = .ok (.if_icmp .ne 7, 3) := by decide +kernel
theorem dX10_as_55 : decode cX10_as 55 = .ok (.iconst 1, 1) := by decide +kernel
theorem dX10_as_56 : decode cX10_as 56 = .ok (.goto 4, 3) := by decide +kernel
theorem dX10_as_59 : decode cX10_as 59 = .ok (.iconst 0, 1) := by decide +kernel
theorem dX10_as_60 : decode cX10_as 60 = .ok (.istore_n 3, 1) := by decide +kernel
theorem dX10_as_61 : decode cX10_as 61 = .ok (.iload_n 3, 1) := by decide +kernel
theorem dX10_as_62 : decode cX10_as 62 = .ok (.ifCond .eq 7, 3) := by decide +kernel
theorem dX10_as_65 : decode cX10_as 65 = .ok (.iload_n 1, 1) := by decide +kernel
theorem dX10_as_66 : decode cX10_as 66 = .ok (.goto 4, 3) := by decide +kernel
theorem dX10_as_69 : decode cX10_as 69 = .ok (.iconst (-1), 1) := by decide +kernel
theorem dX10_as_70 : decode cX10_as 70 = .ok (.ireturn, 1) := by decide +kernel
theorem dX10_tellWrong_0 : decode cX10_tellWrong 0 = .ok (.iload_n 2, 1) := by decide +kernel
theorem dX10_tellWrong_1 : decode cX10_tellWrong 1 = .ok (.tableswitch 81 0 5 #[39, 46, 53, 60, 69, 75], 39) := by decide +kernel
theorem dX10_tellWrong_40 : decode cX10_tellWrong 40 = .ok (.aload_n 0, 1) := by decide +kernel
theorem dX10_tellWrong_41 : decode cX10_tellWrong 41 = .ok (.getfield 22, 3) := by decide +kernel
theorem dX10_tellWrong_44 : decode cX10_tellWrong 44 = .ok (.iload_n 1, 1) := by decide +kernel
theorem dX10_tellWrong_45 : decode cX10_tellWrong 45 = .ok (.iaload, 1) := by decide +kernel
theorem dX10_tellWrong_46 : decode cX10_tellWrong 46 = .ok (.ireturn, 1) := by decide +kernel
theorem dX10_tellWrong_47 : decode cX10_tellWrong 47 = .ok (.aload_n 0, 1) := by decide +kernel
theorem dX10_tellWrong_48 : decode cX10_tellWrong 48 = .ok (.getfield 25, 3) := by decide +kernel
theorem dX10_tellWrong_51 : decode cX10_tellWrong 51 = .ok (.iload_n 1, 1) := by decide +kernel
theorem dX10_tellWrong_52 : decode cX10_tellWrong 52 = .ok (.iaload, 1) := by decide +kernel
theorem dX10_tellWrong_53 : decode cX10_tellWrong 53 = .ok (.ireturn, 1) := by decide +kernel
theorem dX10_tellWrong_54 : decode cX10_tellWrong 54 = .ok (.aload_n 0, 1) := by decide +kernel
theorem dX10_tellWrong_55 : decode cX10_tellWrong 55 = .ok (.getfield 28, 3) := by decide +kernel
theorem dX10_tellWrong_58 : decode cX10_tellWrong 58 = .ok (.iload_n 1, 1) := by decide +kernel
theorem dX10_tellWrong_59 : decode cX10_tellWrong 59 = .ok (.iaload, 1) := by decide +kernel
theorem dX10_tellWrong_60 : decode cX10_tellWrong 60 = .ok (.ireturn, 1) := by decide +kernel
theorem dX10_tellWrong_61 : decode cX10_tellWrong 61 = .ok (.aload_n 0, 1) := by decide +kernel
theorem dX10_tellWrong_62 : decode cX10_tellWrong 62 = .ok (.getfield 109, 3) := by decide +kernel
theorem dX10_tellWrong_65 : decode cX10_tellWrong 65 = .ok (.iload_n 1, 1) := by decide +kernel
theorem dX10_tellWrong_66 : decode cX10_tellWrong 66 = .ok (.ishr, 1) := by decide +kernel
theorem dX10_tellWrong_67 : decode cX10_tellWrong 67 = .ok (.iconst 1, 1) := by decide +kernel
theorem dX10_tellWrong_68 : decode cX10_tellWrong 68 = .ok (.iand, 1) := by decide +kernel
theorem dX10_tellWrong_69 : decode cX10_tellWrong 69 = .ok (.ireturn, 1) := by decide +kernel
theorem dX10_tellWrong_70 : decode cX10_tellWrong 70 = .ok (.aload_n 0, 1) := by decide +kernel
theorem dX10_tellWrong_71 : decode cX10_tellWrong 71 = .ok (.iload_n 1, 1) := by decide +kernel
theorem dX10_tellWrong_72 : decode cX10_tellWrong 72 = .ok (.invokevirtual 142, 3) := by decide +kernel
theorem dX10_tellWrong_75 : decode cX10_tellWrong 75 = .ok (.ireturn, 1) := by decide +kernel
theorem dX10_tellWrong_76 : decode cX10_tellWrong 76 = .ok (.aload_n 0, 1) := by decide +kernel
theorem dX10_tellWrong_77 : decode cX10_tellWrong 77 = .ok (.iload_n 1, 1) := by decide +kernel
theorem dX10_tellWrong_78 : decode cX10_tellWrong 78 = .ok (.invokevirtual 145, 3) := by decide +kernel
theorem dX10_tellWrong_81 : decode cX10_tellWrong 81 = .ok (.ireturn, 1) := by decide +kernel
theorem dX10_tellWrong_82 : decode cX10_tellWrong 82 = .ok (.bipush (-102), 2) := by decide +kernel
theorem dX10_tellWrong_84 : decode cX10_tellWrong 84 = .ok (.ireturn, 1) := by decide +kernel
theorem dX10_wrong_0 : decode cX10_wrong 0 = .ok (.aload_n 0, 1) := by decide +kernel
theorem dX10_wrong_1 : decode cX10_wrong 1 = .ok (.iload_n 1, 1) := by decide +kernel
theorem dX10_wrong_2 : decode cX10_wrong 2 = .ok (.invokevirtual 148, 3) := by decide +kernel
theorem dX10_wrong_5 : decode cX10_wrong 5 = .ok (.ifCond .eq 12, 3) := by decide +kernel
theorem dX10_wrong_8 : decode cX10_wrong 8 = .ok (.aload_n 0, 1) := by decide +kernel
theorem dX10_wrong_9 : decode cX10_wrong 9 = .ok (.iload_n 1, 1) := by decide +kernel
theorem dX10_wrong_10 : decode cX10_wrong 10 = .ok (.iload_n 2, 1) := by decide +kernel
theorem dX10_wrong_11 : decode cX10_wrong 11 = .ok (.invokevirtual 151, 3) := by decide +kernel
theorem dX10_wrong_14 : decode cX10_wrong 14 = .ok (.goto 5, 3) := by decide +kernel
theorem dX10_wrong_17 : decode cX10_wrong 17 = .ok (.bipush (-101), 2) := by decide +kernel
theorem dX10_wrong_19 : decode cX10_wrong 19 = .ok (.ireturn, 1) := by decide +kernel
theorem dX10_stepFrom_0 : decode cX10_stepFrom 0 = .ok (.iconst 0, 1) := by decide +kernel
theorem dX10_stepFrom_1 : decode cX10_stepFrom 1 = .ok (.istore_n 3, 1) := by decide +kernel
theorem dX10_stepFrom_2 : decode cX10_stepFrom 2 = .ok (.iconst 0, 1) := by decide +kernel
theorem dX10_stepFrom_3 : decode cX10_stepFrom 3 = .ok (.istore 4, 2) := by decide +kernel
theorem dX10_stepFrom_5 : decode cX10_stepFrom 5 = .ok (.iload 4, 2) := by decide +kernel
theorem dX10_stepFrom_7 : decode cX10_stepFrom 7 = .ok (.aload_n 0, 1) := by decide +kernel
theorem dX10_stepFrom_8 : decode cX10_stepFrom 8 = .ok (.getfield 103, 3) := by decide +kernel
theorem dX10_stepFrom_11 : decode cX10_stepFrom 11 = .ok (.if_icmp .ge 33, 3) := by decide +kernel
theorem dX10_stepFrom_14 : decode cX10_stepFrom 14 = .ok (.iload_n 3, 1) := by decide +kernel
theorem dX10_stepFrom_15 : decode cX10_stepFrom 15 = .ok (.iload_n 1, 1) := by decide +kernel
theorem dX10_stepFrom_16 : decode cX10_stepFrom 16 = .ok (.iload 4, 2) := by decide +kernel
theorem dX10_stepFrom_18 : decode cX10_stepFrom 18 = .ok (.ishr, 1) := by decide +kernel
theorem dX10_stepFrom_19 : decode cX10_stepFrom 19 = .ok (.iconst 1, 1) := by decide +kernel
theorem dX10_stepFrom_20 : decode cX10_stepFrom 20 = .ok (.iand, 1) := by decide +kernel
theorem dX10_stepFrom_21 : decode cX10_stepFrom 21 = .ok (.iconst 1, 1) := by decide +kernel
theorem dX10_stepFrom_22 : decode cX10_stepFrom 22 = .ok (.if_icmp .ne 13, 3) := by decide +kernel
theorem dX10_stepFrom_25 : decode cX10_stepFrom 25 = .ok (.aload_n 0, 1) := by decide +kernel
theorem dX10_stepFrom_26 : decode cX10_stepFrom 26 = .ok (.iload 4, 2) := by decide +kernel
theorem dX10_stepFrom_28 : decode cX10_stepFrom 28 = .ok (.iload_n 2, 1) := by decide +kernel
theorem dX10_stepFrom_29 : decode cX10_stepFrom 29 = .ok (.invokevirtual 131, 3) := by decide +kernel
theorem dX10_stepFrom_32 : decode cX10_stepFrom 32 = .ok (.goto 4, 3) := by decide +kernel
theorem dX10_stepFrom_35 : decode cX10_stepFrom 35 = .ok (.iconst 0, 1) := by decide +kernel
theorem dX10_stepFrom_36 : decode cX10_stepFrom 36 = .ok (.ior, 1) := by decide +kernel
theorem dX10_stepFrom_37 : decode cX10_stepFrom 37 = .ok (.istore_n 3, 1) := by decide +kernel
theorem dX10_stepFrom_38 : decode cX10_stepFrom 38 = .ok (.iinc 4 1, 3) := by decide +kernel
theorem dX10_stepFrom_41 : decode cX10_stepFrom 41 = .ok (.goto (-36), 3) := by decide +kernel
theorem dX10_stepFrom_44 : decode cX10_stepFrom 44 = .ok (.iload_n 3, 1) := by decide +kernel
theorem dX10_stepFrom_45 : decode cX10_stepFrom 45 = .ok (.ireturn, 1) := by decide +kernel
theorem dX10_farBy_0 : decode cX10_farBy 0 = .ok (.iconst 1, 1) := by decide +kernel
theorem dX10_farBy_1 : decode cX10_farBy 1 = .ok (.iload_n 1, 1) := by decide +kernel
theorem dX10_farBy_2 : decode cX10_farBy 2 = .ok (.ishl, 1) := by decide +kernel
theorem dX10_farBy_3 : decode cX10_farBy 3 = .ok (.istore 4, 2) := by decide +kernel
theorem dX10_farBy_5 : decode cX10_farBy 5 = .ok (.iconst 1, 1) := by decide +kernel
theorem dX10_farBy_6 : decode cX10_farBy 6 = .ok (.istore 5, 2) := by decide +kernel
theorem dX10_farBy_8 : decode cX10_farBy 8 = .ok (.iload 5, 2) := by decide +kernel
theorem dX10_farBy_10 : decode cX10_farBy 10 = .ok (.bipush 7, 2) := by decide +kernel
theorem dX10_farBy_12 : decode cX10_farBy 12 = .ok (.if_icmp .ge 31, 3) := by decide +kernel
theorem dX10_farBy_15 : decode cX10_farBy 15 = .ok (.aload_n 0, 1) := by decide +kernel
theorem dX10_farBy_16 : decode cX10_farBy 16 = .ok (.iload 4, 2) := by decide +kernel
theorem dX10_farBy_18 : decode cX10_farBy 18 = .ok (.iload_n 3, 1) := by decide +kernel
theorem dX10_farBy_19 : decode cX10_farBy 19 = .ok (.invokevirtual 154, 3) := by decide +kernel
theorem dX10_farBy_22 : decode cX10_farBy 22 = .ok (.istore 4, 2) := by decide +kernel
theorem dX10_farBy_24 : decode cX10_farBy 24 = .ok (.iload 4, 2) := by decide +kernel
theorem dX10_farBy_26 : decode cX10_farBy 26 = .ok (.iload_n 2, 1) := by decide +kernel
theorem dX10_farBy_27 : decode cX10_farBy 27 = .ok (.ishr, 1) := by decide +kernel
theorem dX10_farBy_28 : decode cX10_farBy 28 = .ok (.iconst 1, 1) := by decide +kernel
theorem dX10_farBy_29 : decode cX10_farBy 29 = .ok (.iand, 1) := by decide +kernel
theorem dX10_farBy_30 : decode cX10_farBy 30 = .ok (.iconst 1, 1) := by decide +kernel
theorem dX10_farBy_31 : decode cX10_farBy 31 = .ok (.if_icmp .ne 6, 3) := by decide +kernel
theorem dX10_farBy_34 : decode cX10_farBy 34 = .ok (.iload 5, 2) := by decide +kernel
theorem dX10_farBy_36 : decode cX10_farBy 36 = .ok (.ireturn, 1) := by decide +kernel
theorem dX10_farBy_37 : decode cX10_farBy 37 = .ok (.iinc 5 1, 3) := by decide +kernel
theorem dX10_farBy_40 : decode cX10_farBy 40 = .ok (.goto (-32), 3) := by decide +kernel
theorem dX10_farBy_43 : decode cX10_farBy 43 = .ok (.iconst (-1), 1) := by decide +kernel
theorem dX10_farBy_44 : decode cX10_farBy 44 = .ok (.ireturn, 1) := by decide +kernel
theorem dX10_to_0 : decode cX10_to 0 = .ok (.aload_n 0, 1) := by decide +kernel
theorem dX10_to_1 : decode cX10_to 1 = .ok (.iload_n 1, 1) := by decide +kernel
theorem dX10_to_2 : decode cX10_to 2 = .ok (.invokevirtual 134, 3) := by decide +kernel
theorem dX10_to_5 : decode cX10_to 5 = .ok (.ifCond .eq 29, 3) := by decide +kernel
theorem dX10_to_8 : decode cX10_to 8 = .ok (.aload_n 0, 1) := by decide +kernel
theorem dX10_to_9 : decode cX10_to 9 = .ok (.iload_n 2, 1) := by decide +kernel
theorem dX10_to_10 : decode cX10_to 10 = .ok (.invokevirtual 134, 3) := by decide +kernel
theorem dX10_to_13 : decode cX10_to 13 = .ok (.ifCond .eq 21, 3) := by decide +kernel
theorem dX10_to_16 : decode cX10_to 16 = .ok (.iload_n 1, 1) := by decide +kernel
theorem dX10_to_17 : decode cX10_to 17 = .ok (.iload_n 2, 1) := by decide +kernel
theorem dX10_to_18 : decode cX10_to 18 = .ok (.if_icmp .eq 16, 3) := by decide +kernel
theorem dX10_to_21 : decode cX10_to 21 = .ok (.aload_n 0, 1) := by decide +kernel
theorem dX10_to_22 : decode cX10_to 22 = .ok (.iload_n 1, 1) := by decide +kernel
theorem dX10_to_23 : decode cX10_to 23 = .ok (.iload_n 2, 1) := by decide +kernel
theorem dX10_to_24 : decode cX10_to 24 = .ok (.aload_n 0, 1) := by decide +kernel
theorem dX10_to_25 : decode cX10_to 25 = .ok (.getfield 109, 3) := by decide +kernel
theorem dX10_to_28 : decode cX10_to 28 = .ok (.invokevirtual 157, 3) := by decide +kernel
theorem dX10_to_31 : decode cX10_to 31 = .ok (.goto 5, 3) := by decide +kernel
theorem dX10_to_34 : decode cX10_to 34 = .ok (.bipush (-101), 2) := by decide +kernel
theorem dX10_to_36 : decode cX10_to 36 = .ok (.ireturn, 1) := by decide +kernel
theorem dX10_sunday_0 : decode cX10_sunday 0 = .ok (.aload_n 0, 1) := by decide +kernel
theorem dX10_sunday_1 : decode cX10_sunday 1 = .ok (.invokevirtual 161, 3) := by decide +kernel
theorem dX10_sunday_4 : decode cX10_sunday 4 = .ok (.ifCond .eq 6, 3) := by decide +kernel
theorem dX10_sunday_7 : decode cX10_sunday 7 = .ok (.bipush (-103), 2) := by decide +kernel
theorem dX10_sunday_9 : decode cX10_sunday 9 = .ok (.ireturn, 1) := by decide +kernel
theorem dX10_sunday_10 : decode cX10_sunday 10 = .ok (.aload_n 0, 1) := by decide +kernel
theorem dX10_sunday_11 : decode cX10_sunday 11 = .ok (.getfield 112, 3) := by decide +kernel
theorem dX10_sunday_14 : decode cX10_sunday 14 = .ok (.sipush 999, 3) := by decide +kernel
theorem dX10_sunday_17 : decode cX10_sunday 17 = .ok (.if_icmp .ne 6, 3) := by decide +kernel
theorem dX10_sunday_20 : decode cX10_sunday 20 = .ok (.bipush (-104), 2) := by decide +kernel
theorem dX10_sunday_22 : decode cX10_sunday 22 = .ok (.ireturn, 1) := by decide +kernel
theorem dX10_sunday_23 : decode cX10_sunday 23 = .ok (.aload_n 0, 1) := by decide +kernel
theorem dX10_sunday_24 : decode cX10_sunday 24 = .ok (.dup, 1) := by decide +kernel
theorem dX10_sunday_25 : decode cX10_sunday 25 = .ok (.getfield 112, 3) := by decide +kernel
theorem dX10_sunday_28 : decode cX10_sunday 28 = .ok (.iconst 1, 1) := by decide +kernel
theorem dX10_sunday_29 : decode cX10_sunday 29 = .ok (.iadd, 1) := by decide +kernel
theorem dX10_sunday_30 : decode cX10_sunday 30 = .ok (.putfield 112, 3) := by decide +kernel
theorem dX10_sunday_33 : decode cX10_sunday 33 = .ok (.aload_n 0, 1) := by decide +kernel
theorem dX10_sunday_34 : decode cX10_sunday 34 = .ok (.getfield 16, 3) := by decide +kernel
theorem dX10_sunday_37 : decode cX10_sunday 37 = .ok (.aload_n 0, 1) := by decide +kernel
theorem dX10_sunday_38 : decode cX10_sunday 38 = .ok (.getfield 34, 3) := by decide +kernel
theorem dX10_sunday_41 : decode cX10_sunday 41 = .ok (.invokestatic 165, 3) := by decide +kernel
theorem dX10_sunday_44 : decode cX10_sunday 44 = .ok (.aload_n 0, 1) := by decide +kernel
theorem dX10_sunday_45 : decode cX10_sunday 45 = .ok (.aload_n 0, 1) := by decide +kernel
theorem dX10_sunday_46 : decode cX10_sunday 46 = .ok (.invokevirtual 128, 3) := by decide +kernel
theorem dX10_sunday_49 : decode cX10_sunday 49 = .ok (.invokevirtual 169, 3) := by decide +kernel
theorem dX10_sunday_52 : decode cX10_sunday 52 = .ok (.istore_n 1, 1) := by decide +kernel
theorem dX10_sunday_53 : decode cX10_sunday 53 = .ok (.aload_n 0, 1) := by decide +kernel
theorem dX10_sunday_54 : decode cX10_sunday 54 = .ok (.getfield 34, 3) := by decide +kernel
theorem dX10_sunday_57 : decode cX10_sunday 57 = .ok (.aload_n 0, 1) := by decide +kernel
theorem dX10_sunday_58 : decode cX10_sunday 58 = .ok (.getfield 16, 3) := by decide +kernel
theorem dX10_sunday_61 : decode cX10_sunday 61 = .ok (.invokestatic 165, 3) := by decide +kernel
theorem dX10_sunday_64 : decode cX10_sunday 64 = .ok (.iconst 0, 1) := by decide +kernel
theorem dX10_sunday_65 : decode cX10_sunday 65 = .ok (.istore_n 2, 1) := by decide +kernel
theorem dX10_sunday_66 : decode cX10_sunday 66 = .ok (.iload_n 2, 1) := by decide +kernel
theorem dX10_sunday_67 : decode cX10_sunday 67 = .ok (.aload_n 0, 1) := by decide +kernel
theorem dX10_sunday_68 : decode cX10_sunday 68 = .ok (.getfield 103, 3) := by decide +kernel
theorem dX10_sunday_71 : decode cX10_sunday 71 = .ok (.if_icmp .ge 23, 3) := by decide +kernel
theorem dX10_sunday_74 : decode cX10_sunday 74 = .ok (.aload_n 0, 1) := by decide +kernel
theorem dX10_sunday_75 : decode cX10_sunday 75 = .ok (.getfield 19, 3) := by decide +kernel
theorem dX10_sunday_78 : decode cX10_sunday 78 = .ok (.iload_n 2, 1) := by decide +kernel
theorem dX10_sunday_79 : decode cX10_sunday 79 = .ok (.dup2, 1) := by decide +kernel
theorem dX10_sunday_80 : decode cX10_sunday 80 = .ok (.iaload, 1) := by decide +kernel
theorem dX10_sunday_81 : decode cX10_sunday 81 = .ok (.iload_n 1, 1) := by decide +kernel
theorem dX10_sunday_82 : decode cX10_sunday 82 = .ok (.iload_n 2, 1) := by decide +kernel
theorem dX10_sunday_83 : decode cX10_sunday 83 = .ok (.ishr, 1) := by decide +kernel
theorem dX10_sunday_84 : decode cX10_sunday 84 = .ok (.iconst 1, 1) := by decide +kernel
theorem dX10_sunday_85 : decode cX10_sunday 85 = .ok (.iand, 1) := by decide +kernel
theorem dX10_sunday_86 : decode cX10_sunday 86 = .ok (.iadd, 1) := by decide +kernel
theorem dX10_sunday_87 : decode cX10_sunday 87 = .ok (.iastore, 1) := by decide +kernel
theorem dX10_sunday_88 : decode cX10_sunday 88 = .ok (.iinc 2 1, 3) := by decide +kernel
theorem dX10_sunday_91 : decode cX10_sunday 91 = .ok (.goto (-25), 3) := by decide +kernel
theorem dX10_sunday_94 : decode cX10_sunday 94 = .ok (.iload_n 1, 1) := by decide +kernel
theorem dX10_sunday_95 : decode cX10_sunday 95 = .ok (.invokestatic 172, 3) := by decide +kernel
theorem dX10_sunday_98 : decode cX10_sunday 98 = .ok (.ireturn, 1) := by decide +kernel
theorem dX10_forgive_0 : decode cX10_forgive 0 = .ok (.aload_n 0, 1) := by decide +kernel
theorem dX10_forgive_1 : decode cX10_forgive 1 = .ok (.iload_n 1, 1) := by decide +kernel
theorem dX10_forgive_2 : decode cX10_forgive 2 = .ok (.invokevirtual 148, 3) := by decide +kernel
theorem dX10_forgive_5 : decode cX10_forgive 5 = .ok (.ifCond .ne 6, 3) := by decide +kernel
theorem dX10_forgive_8 : decode cX10_forgive 8 = .ok (.bipush (-101), 2) := by decide +kernel
theorem dX10_forgive_10 : decode cX10_forgive 10 = .ok (.ireturn, 1) := by decide +kernel
theorem dX10_forgive_11 : decode cX10_forgive 11 = .ok (.aload_n 0, 1) := by decide +kernel
theorem dX10_forgive_12 : decode cX10_forgive 12 = .ok (.getfield 109, 3) := by decide +kernel
theorem dX10_forgive_15 : decode cX10_forgive 15 = .ok (.iload_n 1, 1) := by decide +kernel
theorem dX10_forgive_16 : decode cX10_forgive 16 = .ok (.ishr, 1) := by decide +kernel
theorem dX10_forgive_17 : decode cX10_forgive 17 = .ok (.iconst 1, 1) := by decide +kernel
theorem dX10_forgive_18 : decode cX10_forgive 18 = .ok (.iand, 1) := by decide +kernel
theorem dX10_forgive_19 : decode cX10_forgive 19 = .ok (.iconst 1, 1) := by decide +kernel
theorem dX10_forgive_20 : decode cX10_forgive 20 = .ok (.if_icmp .ne 6, 3) := by decide +kernel
theorem dX10_forgive_23 : decode cX10_forgive 23 = .ok (.bipush (-103), 2) := by decide +kernel
theorem dX10_forgive_25 : decode cX10_forgive 25 = .ok (.ireturn, 1) := by decide +kernel
theorem dX10_forgive_26 : decode cX10_forgive 26 = .ok (.aload_n 0, 1) := by decide +kernel
theorem dX10_forgive_27 : decode cX10_forgive 27 = .ok (.dup, 1) := by decide +kernel
theorem dX10_forgive_28 : decode cX10_forgive 28 = .ok (.getfield 109, 3) := by decide +kernel
theorem dX10_forgive_31 : decode cX10_forgive 31 = .ok (.iconst 1, 1) := by decide +kernel
theorem dX10_forgive_32 : decode cX10_forgive 32 = .ok (.iload_n 1, 1) := by decide +kernel
theorem dX10_forgive_33 : decode cX10_forgive 33 = .ok (.ishl, 1) := by decide +kernel
theorem dX10_forgive_34 : decode cX10_forgive 34 = .ok (.ior, 1) := by decide +kernel
theorem dX10_forgive_35 : decode cX10_forgive 35 = .ok (.putfield 109, 3) := by decide +kernel
theorem dX10_forgive_38 : decode cX10_forgive 38 = .ok (.aload_n 0, 1) := by decide +kernel
theorem dX10_forgive_39 : decode cX10_forgive 39 = .ok (.aload_n 0, 1) := by decide +kernel
theorem dX10_forgive_40 : decode cX10_forgive 40 = .ok (.getfield 22, 3) := by decide +kernel
theorem dX10_forgive_43 : decode cX10_forgive 43 = .ok (.iload_n 1, 1) := by decide +kernel
theorem dX10_forgive_44 : decode cX10_forgive 44 = .ok (.iaload, 1) := by decide +kernel
theorem dX10_forgive_45 : decode cX10_forgive 45 = .ok (.aload_n 0, 1) := by decide +kernel
theorem dX10_forgive_46 : decode cX10_forgive 46 = .ok (.getfield 109, 3) := by decide +kernel
theorem dX10_forgive_49 : decode cX10_forgive 49 = .ok (.invokevirtual 121, 3) := by decide +kernel
theorem dX10_forgive_52 : decode cX10_forgive 52 = .ok (.ireturn, 1) := by decide +kernel
theorem dX10_again_0 : decode cX10_again 0 = .ok (.aload_n 0, 1) := by decide +kernel
theorem dX10_again_1 : decode cX10_again 1 = .ok (.iload_n 1, 1) := by decide +kernel
theorem dX10_again_2 : decode cX10_again 2 = .ok (.invokevirtual 148, 3) := by decide +kernel
theorem dX10_again_5 : decode cX10_again 5 = .ok (.ifCond .ne 6, 3) := by decide +kernel
theorem dX10_again_8 : decode cX10_again 8 = .ok (.bipush (-101), 2) := by decide +kernel
theorem dX10_again_10 : decode cX10_again 10 = .ok (.ireturn, 1) := by decide +kernel
theorem dX10_again_11 : decode cX10_again 11 = .ok (.iload_n 2, 1) := by decide +kernel
theorem dX10_again_12 : decode cX10_again 12 = .ok (.i2l, 1) := by decide +kernel
theorem dX10_again_13 : decode cX10_again 13 = .ok (.lconst 1, 1) := by decide +kernel
theorem dX10_again_14 : decode cX10_again 14 = .ok (.ldc2_w 175, 3) := by decide +kernel
theorem dX10_again_17 : decode cX10_again 17 = .ok (.invokestatic 61, 3) := by decide +kernel
theorem dX10_again_20 : decode cX10_again 20 = .ok (.ifCond .ne 6, 3) := by decide +kernel
theorem dX10_again_23 : decode cX10_again 23 = .ok (.bipush (-102), 2) := by decide +kernel
theorem dX10_again_25 : decode cX10_again 25 = .ok (.ireturn, 1) := by decide +kernel
theorem dX10_again_26 : decode cX10_again 26 = .ok (.aload_n 0, 1) := by decide +kernel
theorem dX10_again_27 : decode cX10_again 27 = .ok (.dup, 1) := by decide +kernel
theorem dX10_again_28 : decode cX10_again 28 = .ok (.getfield 109, 3) := by decide +kernel
theorem dX10_again_31 : decode cX10_again 31 = .ok (.iconst 1, 1) := by decide +kernel
theorem dX10_again_32 : decode cX10_again 32 = .ok (.iload_n 1, 1) := by decide +kernel
theorem dX10_again_33 : decode cX10_again 33 = .ok (.ishl, 1) := by decide +kernel
theorem dX10_again_34 : decode cX10_again 34 = .ok (.iconst (-1), 1) := by decide +kernel
theorem dX10_again_35 : decode cX10_again 35 = .ok (.ixor, 1) := by decide +kernel
theorem dX10_again_36 : decode cX10_again 36 = .ok (.iand, 1) := by decide +kernel
theorem dX10_again_37 : decode cX10_again 37 = .ok (.putfield 109, 3) := by decide +kernel
theorem dX10_again_40 : decode cX10_again 40 = .ok (.aload_n 0, 1) := by decide +kernel
theorem dX10_again_41 : decode cX10_again 41 = .ok (.getfield 28, 3) := by decide +kernel
theorem dX10_again_44 : decode cX10_again 44 = .ok (.iload_n 1, 1) := by decide +kernel
theorem dX10_again_45 : decode cX10_again 45 = .ok (.iload_n 2, 1) := by decide +kernel
theorem dX10_again_46 : decode cX10_again 46 = .ok (.iastore, 1) := by decide +kernel
theorem dX10_again_47 : decode cX10_again 47 = .ok (.aload_n 0, 1) := by decide +kernel
theorem dX10_again_48 : decode cX10_again 48 = .ok (.aload_n 0, 1) := by decide +kernel
theorem dX10_again_49 : decode cX10_again 49 = .ok (.getfield 22, 3) := by decide +kernel
theorem dX10_again_52 : decode cX10_again 52 = .ok (.iload_n 1, 1) := by decide +kernel
theorem dX10_again_53 : decode cX10_again 53 = .ok (.iaload, 1) := by decide +kernel
theorem dX10_again_54 : decode cX10_again 54 = .ok (.aload_n 0, 1) := by decide +kernel
theorem dX10_again_55 : decode cX10_again 55 = .ok (.getfield 109, 3) := by decide +kernel
theorem dX10_again_58 : decode cX10_again 58 = .ok (.invokevirtual 121, 3) := by decide +kernel
theorem dX10_again_61 : decode cX10_again 61 = .ok (.ireturn, 1) := by decide +kernel
theorem dX10_room_0 : decode cX10_room 0 = .ok (.iload_n 1, 1) := by decide +kernel
theorem dX10_room_1 : decode cX10_room 1 = .ok (.i2l, 1) := by decide +kernel
theorem dX10_room_2 : decode cX10_room 2 = .ok (.lconst 1, 1) := by decide +kernel
theorem dX10_room_3 : decode cX10_room 3 = .ok (.ldc2_w 177, 3) := by decide +kernel
theorem dX10_room_6 : decode cX10_room 6 = .ok (.invokestatic 61, 3) := by decide +kernel
theorem dX10_room_9 : decode cX10_room 9 = .ok (.ifCond .ne 6, 3) := by decide +kernel
theorem dX10_room_12 : decode cX10_room 12 = .ok (.bipush (-102), 2) := by decide +kernel
theorem dX10_room_14 : decode cX10_room 14 = .ok (.ireturn, 1) := by decide +kernel
theorem dX10_room_15 : decode cX10_room 15 = .ok (.aload_n 0, 1) := by decide +kernel
theorem dX10_room_16 : decode cX10_room 16 = .ok (.invokevirtual 161, 3) := by decide +kernel
theorem dX10_room_19 : decode cX10_room 19 = .ok (.ifCond .eq 6, 3) := by decide +kernel
theorem dX10_room_22 : decode cX10_room 22 = .ok (.bipush (-103), 2) := by decide +kernel
theorem dX10_room_24 : decode cX10_room 24 = .ok (.ireturn, 1) := by decide +kernel
theorem dX10_room_25 : decode cX10_room 25 = .ok (.aload_n 0, 1) := by decide +kernel
theorem dX10_room_26 : decode cX10_room 26 = .ok (.getfield 100, 3) := by decide +kernel
theorem dX10_room_29 : decode cX10_room 29 = .ok (.istore_n 2, 1) := by decide +kernel
theorem dX10_room_30 : decode cX10_room 30 = .ok (.aload_n 0, 1) := by decide +kernel
theorem dX10_room_31 : decode cX10_room 31 = .ok (.iload_n 1, 1) := by decide +kernel
theorem dX10_room_32 : decode cX10_room 32 = .ok (.putfield 100, 3) := by decide +kernel
theorem dX10_room_35 : decode cX10_room 35 = .ok (.iload_n 2, 1) := by decide +kernel
theorem dX10_room_36 : decode cX10_room 36 = .ok (.ireturn, 1) := by decide +kernel
theorem dX10_change_0 : decode cX10_change 0 = .ok (.aload_n 0, 1) := by decide +kernel
theorem dX10_change_1 : decode cX10_change 1 = .ok (.iload_n 1, 1) := by decide +kernel
theorem dX10_change_2 : decode cX10_change 2 = .ok (.invokevirtual 134, 3) := by decide +kernel
theorem dX10_change_5 : decode cX10_change 5 = .ok (.ifCond .ne 6, 3) := by decide +kernel
theorem dX10_change_8 : decode cX10_change 8 = .ok (.bipush (-101), 2) := by decide +kernel
theorem dX10_change_10 : decode cX10_change 10 = .ok (.ireturn, 1) := by decide +kernel
theorem dX10_change_11 : decode cX10_change 11 = .ok (.iload_n 2, 1) := by decide +kernel
theorem dX10_change_12 : decode cX10_change 12 = .ok (.i2l, 1) := by decide +kernel
theorem dX10_change_13 : decode cX10_change 13 = .ok (.lconst 0, 1) := by decide +kernel
theorem dX10_change_14 : decode cX10_change 14 = .ok (.ldc2_w 140, 3) := by decide +kernel
theorem dX10_change_17 : decode cX10_change 17 = .ok (.invokestatic 61, 3) := by decide +kernel
theorem dX10_change_20 : decode cX10_change 20 = .ok (.ifCond .eq 15, 3) := by decide +kernel
theorem dX10_change_23 : decode cX10_change 23 = .ok (.iload_n 3, 1) := by decide +kernel
theorem dX10_change_24 : decode cX10_change 24 = .ok (.i2l, 1) := by decide +kernel
theorem dX10_change_25 : decode cX10_change 25 = .ok (.lconst 0, 1) := by decide +kernel
theorem dX10_change_26 : decode cX10_change 26 = .ok (.ldc2_w 179, 3) := by decide +kernel
theorem dX10_change_29 : decode cX10_change 29 = .ok (.invokestatic 61, 3) := by decide +kernel
theorem dX10_change_32 : decode cX10_change 32 = .ok (.ifCond .ne 6, 3) := by decide +kernel
theorem dX10_change_35 : decode cX10_change 35 = .ok (.bipush (-102), 2) := by decide +kernel
theorem dX10_change_37 : decode cX10_change 37 = .ok (.ireturn, 1) := by decide +kernel
theorem dX10_change_38 : decode cX10_change 38 = .ok (.aload_n 0, 1) := by decide +kernel
theorem dX10_change_39 : decode cX10_change 39 = .ok (.getfield 13, 3) := by decide +kernel
theorem dX10_change_42 : decode cX10_change 42 = .ok (.iload_n 1, 1) := by decide +kernel
theorem dX10_change_43 : decode cX10_change 43 = .ok (.iaload, 1) := by decide +kernel
theorem dX10_change_44 : decode cX10_change 44 = .ok (.istore 4, 2) := by decide +kernel
theorem dX10_change_46 : decode cX10_change 46 = .ok (.aload_n 0, 1) := by decide +kernel
theorem dX10_change_47 : decode cX10_change 47 = .ok (.getfield 13, 3) := by decide +kernel
theorem dX10_change_50 : decode cX10_change 50 = .ok (.iload_n 1, 1) := by decide +kernel
theorem dX10_change_51 : decode cX10_change 51 = .ok (.iload_n 2, 1) := by decide +kernel
theorem dX10_change_52 : decode cX10_change 52 = .ok (.iastore, 1) := by decide +kernel
theorem dX10_change_53 : decode cX10_change 53 = .ok (.aload_n 0, 1) := by decide +kernel
theorem dX10_change_54 : decode cX10_change 54 = .ok (.getfield 16, 3) := by decide +kernel
theorem dX10_change_57 : decode cX10_change 57 = .ok (.iload_n 1, 1) := by decide +kernel
theorem dX10_change_58 : decode cX10_change 58 = .ok (.iload_n 3, 1) := by decide +kernel
theorem dX10_change_59 : decode cX10_change 59 = .ok (.iastore, 1) := by decide +kernel
theorem dX10_change_60 : decode cX10_change 60 = .ok (.iload 4, 2) := by decide +kernel
theorem dX10_change_62 : decode cX10_change 62 = .ok (.ireturn, 1) := by decide +kernel
theorem dX10_goSundays_0 : decode cX10_goSundays 0 = .ok (.aload_n 0, 1) := by decide +kernel
theorem dX10_goSundays_1 : decode cX10_goSundays 1 = .ok (.getfield 16, 3) := by decide +kernel
theorem dX10_goSundays_4 : decode cX10_goSundays 4 = .ok (.aload_n 0, 1) := by decide +kernel
theorem dX10_goSundays_5 : decode cX10_goSundays 5 = .ok (.getfield 34, 3) := by decide +kernel
theorem dX10_goSundays_8 : decode cX10_goSundays 8 = .ok (.invokestatic 165, 3) := by decide +kernel
theorem dX10_goSundays_11 : decode cX10_goSundays 11 = .ok (.aload_n 0, 1) := by decide +kernel
theorem dX10_goSundays_12 : decode cX10_goSundays 12 = .ok (.iconst 0, 1) := by decide +kernel
theorem dX10_goSundays_13 : decode cX10_goSundays 13 = .ok (.putfield 181, 3) := by decide +kernel
theorem dX10_goSundays_16 : decode cX10_goSundays 16 = .ok (.aload_n 0, 1) := by decide +kernel
theorem dX10_goSundays_17 : decode cX10_goSundays 17 = .ok (.bipush 99, 2) := by decide +kernel
theorem dX10_goSundays_19 : decode cX10_goSundays 19 = .ok (.putfield 184, 3) := by decide +kernel
theorem dX10_goSundays_22 : decode cX10_goSundays 22 = .ok (.aload_n 0, 1) := by decide +kernel
theorem dX10_goSundays_23 : decode cX10_goSundays 23 = .ok (.iload_n 1, 1) := by decide +kernel
theorem dX10_goSundays_24 : decode cX10_goSundays 24 = .ok (.aload_n 0, 1) := by decide +kernel
theorem dX10_goSundays_25 : decode cX10_goSundays 25 = .ok (.getfield 100, 3) := by decide +kernel
theorem dX10_goSundays_28 : decode cX10_goSundays 28 = .ok (.invokevirtual 125, 3) := by decide +kernel
theorem dX10_goSundays_31 : decode cX10_goSundays 31 = .ok (.istore_n 3, 1) := by decide +kernel
theorem dX10_goSundays_32 : decode cX10_goSundays 32 = .ok (.iconst 0, 1) := by decide +kernel
theorem dX10_goSundays_33 : decode cX10_goSundays 33 = .ok (.istore 4, 2) := by decide +kernel
theorem dX10_goSundays_35 : decode cX10_goSundays 35 = .ok (.iload 4, 2) := by decide +kernel
theorem dX10_goSundays_37 : decode cX10_goSundays 37 = .ok (.iload_n 2, 1) := by decide +kernel
theorem dX10_goSundays_38 : decode cX10_goSundays 38 = .ok (.if_icmp .ge 26, 3) := by decide +kernel
theorem dX10_goSundays_41 : decode cX10_goSundays 41 = .ok (.aload_n 0, 1) := by decide +kernel
theorem dX10_goSundays_42 : decode cX10_goSundays 42 = .ok (.dup, 1) := by decide +kernel
theorem dX10_goSundays_43 : decode cX10_goSundays 43 = .ok (.getfield 181, 3) := by decide +kernel
theorem dX10_goSundays_46 : decode cX10_goSundays 46 = .ok (.aload_n 0, 1) := by decide +kernel
theorem dX10_goSundays_47 : decode cX10_goSundays 47 = .ok (.iload_n 3, 1) := by decide +kernel
theorem dX10_goSundays_48 : decode cX10_goSundays 48 = .ok (.invokevirtual 169, 3) := by decide +kernel
theorem dX10_goSundays_51 : decode cX10_goSundays 51 = .ok (.invokestatic 172, 3) := by decide +kernel
theorem dX10_goSundays_54 : decode cX10_goSundays 54 = .ok (.iadd, 1) := by decide +kernel
theorem dX10_goSundays_55 : decode cX10_goSundays 55 = .ok (.putfield 181, 3) := by decide +kernel
theorem dX10_goSundays_58 : decode cX10_goSundays 58 = .ok (.iinc 4 1, 3) := by decide +kernel
theorem dX10_goSundays_61 : decode cX10_goSundays 61 = .ok (.goto (-26), 3) := by decide +kernel
theorem dX10_goSundays_64 : decode cX10_goSundays 64 = .ok (.iconst 0, 1) := by decide +kernel
theorem dX10_goSundays_65 : decode cX10_goSundays 65 = .ok (.istore 4, 2) := by decide +kernel
theorem dX10_goSundays_67 : decode cX10_goSundays 67 = .ok (.iload 4, 2) := by decide +kernel
theorem dX10_goSundays_69 : decode cX10_goSundays 69 = .ok (.aload_n 0, 1) := by decide +kernel
theorem dX10_goSundays_70 : decode cX10_goSundays 70 = .ok (.getfield 103, 3) := by decide +kernel
theorem dX10_goSundays_73 : decode cX10_goSundays 73 = .ok (.if_icmp .ge 41, 3) := by decide +kernel
theorem dX10_goSundays_76 : decode cX10_goSundays 76 = .ok (.aload_n 0, 1) := by decide +kernel
theorem dX10_goSundays_77 : decode cX10_goSundays 77 = .ok (.aload_n 0, 1) := by decide +kernel
theorem dX10_goSundays_78 : decode cX10_goSundays 78 = .ok (.getfield 34, 3) := by decide +kernel
theorem dX10_goSundays_81 : decode cX10_goSundays 81 = .ok (.iload 4, 2) := by decide +kernel
theorem dX10_goSundays_83 : decode cX10_goSundays 83 = .ok (.iaload, 1) := by decide +kernel
theorem dX10_goSundays_84 : decode cX10_goSundays 84 = .ok (.aload_n 0, 1) := by decide +kernel
theorem dX10_goSundays_85 : decode cX10_goSundays 85 = .ok (.getfield 184, 3) := by decide +kernel
theorem dX10_goSundays_88 : decode cX10_goSundays 88 = .ok (.if_icmp .ge 13, 3) := by decide +kernel
theorem dX10_goSundays_91 : decode cX10_goSundays 91 = .ok (.aload_n 0, 1) := by decide +kernel
theorem dX10_goSundays_92 : decode cX10_goSundays 92 = .ok (.getfield 34, 3) := by decide +kernel
theorem dX10_goSundays_95 : decode cX10_goSundays 95 = .ok (.iload 4, 2) := by decide +kernel
theorem dX10_goSundays_97 : decode cX10_goSundays 97 = .ok (.iaload, 1) := by decide +kernel
theorem dX10_goSundays_98 : decode cX10_goSundays 98 = .ok (.goto 7, 3) := by decide +kernel
theorem dX10_goSundays_101 : decode cX10_goSundays 101 = .ok (.aload_n 0, 1) := by decide +kernel
theorem dX10_goSundays_102 : decode cX10_goSundays 102 = .ok (.getfield 184, 3) := by decide +kernel
theorem dX10_goSundays_105 : decode cX10_goSundays 105 = .ok (.putfield 184, 3) := by decide +kernel
theorem dX10_goSundays_108 : decode cX10_goSundays 108 = .ok (.iinc 4 1, 3) := by decide +kernel
theorem dX10_goSundays_111 : decode cX10_goSundays 111 = .ok (.goto (-44), 3) := by decide +kernel
theorem dX10_goSundays_114 : decode cX10_goSundays 114 = .ok (.return_, 1) := by decide +kernel
theorem dX10_leaveOf_0 : decode cX10_leaveOf 0 = .ok (.iconst 1, 1) := by decide +kernel
theorem dX10_leaveOf_1 : decode cX10_leaveOf 1 = .ok (.aload_n 0, 1) := by decide +kernel
theorem dX10_leaveOf_2 : decode cX10_leaveOf 2 = .ok (.getfield 106, 3) := by decide +kernel
theorem dX10_leaveOf_5 : decode cX10_leaveOf 5 = .ok (.ishl, 1) := by decide +kernel
theorem dX10_leaveOf_6 : decode cX10_leaveOf 6 = .ok (.iconst 1, 1) := by decide +kernel
theorem dX10_leaveOf_7 : decode cX10_leaveOf 7 = .ok (.isub, 1) := by decide +kernel
theorem dX10_leaveOf_8 : decode cX10_leaveOf 8 = .ok (.istore_n 3, 1) := by decide +kernel
theorem dX10_leaveOf_9 : decode cX10_leaveOf 9 = .ok (.iconst 0, 1) := by decide +kernel
theorem dX10_leaveOf_10 : decode cX10_leaveOf 10 = .ok (.istore 4, 2) := by decide +kernel
theorem dX10_leaveOf_12 : decode cX10_leaveOf 12 = .ok (.iconst (-1), 1) := by decide +kernel
theorem dX10_leaveOf_13 : decode cX10_leaveOf 13 = .ok (.istore 5, 2) := by decide +kernel
theorem dX10_leaveOf_15 : decode cX10_leaveOf 15 = .ok (.iconst 0, 1) := by decide +kernel
theorem dX10_leaveOf_16 : decode cX10_leaveOf 16 = .ok (.istore 6, 2) := by decide +kernel
theorem dX10_leaveOf_18 : decode cX10_leaveOf 18 = .ok (.iload 6, 2) := by decide +kernel
theorem dX10_leaveOf_20 : decode cX10_leaveOf 20 = .ok (.iload_n 3, 1) := by decide +kernel
theorem dX10_leaveOf_21 : decode cX10_leaveOf 21 = .ok (.if_icmp .gt 80, 3) := by decide +kernel
theorem dX10_leaveOf_24 : decode cX10_leaveOf 24 = .ok (.aload_n 0, 1) := by decide +kernel
theorem dX10_leaveOf_25 : decode cX10_leaveOf 25 = .ok (.iload_n 3, 1) := by decide +kernel
theorem dX10_leaveOf_26 : decode cX10_leaveOf 26 = .ok (.iload 6, 2) := by decide +kernel
theorem dX10_leaveOf_28 : decode cX10_leaveOf 28 = .ok (.isub, 1) := by decide +kernel
theorem dX10_leaveOf_29 : decode cX10_leaveOf 29 = .ok (.iload_n 1, 1) := by decide +kernel
theorem dX10_leaveOf_30 : decode cX10_leaveOf 30 = .ok (.invokevirtual 187, 3) := by decide +kernel
theorem dX10_leaveOf_33 : decode cX10_leaveOf 33 = .ok (.sipush 10000, 3) := by decide +kernel
theorem dX10_leaveOf_36 : decode cX10_leaveOf 36 = .ok (.bipush 50, 2) := by decide +kernel
theorem dX10_leaveOf_38 : decode cX10_leaveOf 38 = .ok (.aload_n 0, 1) := by decide +kernel
theorem dX10_leaveOf_39 : decode cX10_leaveOf 39 = .ok (.getfield 181, 3) := by decide +kernel
theorem dX10_leaveOf_42 : decode cX10_leaveOf 42 = .ok (.isub, 1) := by decide +kernel
theorem dX10_leaveOf_43 : decode cX10_leaveOf 43 = .ok (.imul, 1) := by decide +kernel
theorem dX10_leaveOf_44 : decode cX10_leaveOf 44 = .ok (.bipush 100, 2) := by decide +kernel
theorem dX10_leaveOf_46 : decode cX10_leaveOf 46 = .ok (.aload_n 0, 1) := by decide +kernel
theorem dX10_leaveOf_47 : decode cX10_leaveOf 47 = .ok (.getfield 184, 3) := by decide +kernel
theorem dX10_leaveOf_50 : decode cX10_leaveOf 50 = .ok (.imul, 1) := by decide +kernel
theorem dX10_leaveOf_51 : decode cX10_leaveOf 51 = .ok (.iadd, 1) := by decide +kernel
theorem dX10_leaveOf_52 : decode cX10_leaveOf 52 = .ok (.bipush 10, 2) := by decide +kernel
theorem dX10_leaveOf_54 : decode cX10_leaveOf 54 = .ok (.iadd, 1) := by decide +kernel
theorem dX10_leaveOf_55 : decode cX10_leaveOf 55 = .ok (.iload 6, 2) := by decide +kernel
theorem dX10_leaveOf_57 : decode cX10_leaveOf 57 = .ok (.invokestatic 172, 3) := by decide +kernel
theorem dX10_leaveOf_60 : decode cX10_leaveOf 60 = .ok (.isub, 1) := by decide +kernel
theorem dX10_leaveOf_61 : decode cX10_leaveOf 61 = .ok (.istore 7, 2) := by decide +kernel
theorem dX10_leaveOf_63 : decode cX10_leaveOf 63 = .ok (.iload 7, 2) := by decide +kernel
theorem dX10_leaveOf_65 : decode cX10_leaveOf 65 = .ok (.iload 5, 2) := by decide +kernel
theorem dX10_leaveOf_67 : decode cX10_leaveOf 67 = .ok (.if_icmp .le 8, 3) := by decide +kernel
theorem dX10_leaveOf_70 : decode cX10_leaveOf 70 = .ok (.iload 6, 2) := by decide +kernel
theorem dX10_leaveOf_72 : decode cX10_leaveOf 72 = .ok (.goto 5, 3) := by decide +kernel
theorem dX10_leaveOf_75 : decode cX10_leaveOf 75 = .ok (.iload 4, 2) := by decide +kernel
theorem dX10_leaveOf_77 : decode cX10_leaveOf 77 = .ok (.istore 4, 2) := by decide +kernel
theorem dX10_leaveOf_79 : decode cX10_leaveOf 79 = .ok (.iload 7, 2) := by decide +kernel
theorem dX10_leaveOf_81 : decode cX10_leaveOf 81 = .ok (.iload 5, 2) := by decide +kernel
theorem dX10_leaveOf_83 : decode cX10_leaveOf 83 = .ok (.if_icmp .le 8, 3) := by decide +kernel
theorem dX10_leaveOf_86 : decode cX10_leaveOf 86 = .ok (.iload 7, 2) := by decide +kernel
theorem dX10_leaveOf_88 : decode cX10_leaveOf 88 = .ok (.goto 5, 3) := by decide +kernel
theorem dX10_leaveOf_91 : decode cX10_leaveOf 91 = .ok (.iload 5, 2) := by decide +kernel
theorem dX10_leaveOf_93 : decode cX10_leaveOf 93 = .ok (.istore 5, 2) := by decide +kernel
theorem dX10_leaveOf_95 : decode cX10_leaveOf 95 = .ok (.iinc 6 1, 3) := by decide +kernel
theorem dX10_leaveOf_98 : decode cX10_leaveOf 98 = .ok (.goto (-80), 3) := by decide +kernel
theorem dX10_leaveOf_101 : decode cX10_leaveOf 101 = .ok (.iload_n 2, 1) := by decide +kernel
theorem dX10_leaveOf_102 : decode cX10_leaveOf 102 = .ok (.ifCond .ne 15, 3) := by decide +kernel
theorem dX10_leaveOf_105 : decode cX10_leaveOf 105 = .ok (.bipush 50, 2) := by decide +kernel
theorem dX10_leaveOf_107 : decode cX10_leaveOf 107 = .ok (.iload 5, 2) := by decide +kernel
theorem dX10_leaveOf_109 : decode cX10_leaveOf 109 = .ok (.sipush 10000, 3) := by decide +kernel
theorem dX10_leaveOf_112 : decode cX10_leaveOf 112 = .ok (.idiv, 1) := by decide +kernel
theorem dX10_leaveOf_113 : decode cX10_leaveOf 113 = .ok (.isub, 1) := by decide +kernel
theorem dX10_leaveOf_114 : decode cX10_leaveOf 114 = .ok (.goto 21, 3) := by decide +kernel
theorem dX10_leaveOf_117 : decode cX10_leaveOf 117 = .ok (.iload_n 2, 1) := by decide +kernel
theorem dX10_leaveOf_118 : decode cX10_leaveOf 118 = .ok (.iconst 1, 1) := by decide +kernel
theorem dX10_leaveOf_119 : decode cX10_leaveOf 119 = .ok (.if_icmp .ne 14, 3) := by decide +kernel
theorem dX10_leaveOf_122 : decode cX10_leaveOf 122 = .ok (.iload 5, 2) := by decide +kernel
theorem dX10_leaveOf_124 : decode cX10_leaveOf 124 = .ok (.bipush 100, 2) := by decide +kernel
theorem dX10_leaveOf_126 : decode cX10_leaveOf 126 = .ok (.idiv, 1) := by decide +kernel
theorem dX10_leaveOf_127 : decode cX10_leaveOf 127 = .ok (.bipush 100, 2) := by decide +kernel
theorem dX10_leaveOf_129 : decode cX10_leaveOf 129 = .ok (.irem, 1) := by decide +kernel
theorem dX10_leaveOf_130 : decode cX10_leaveOf 130 = .ok (.goto 5, 3) := by decide +kernel
theorem dX10_leaveOf_133 : decode cX10_leaveOf 133 = .ok (.iload 4, 2) := by decide +kernel
theorem dX10_leaveOf_135 : decode cX10_leaveOf 135 = .ok (.ireturn, 1) := by decide +kernel
theorem dX10_leave_0 : decode cX10_leave 0 = .ok (.iload_n 1, 1) := by decide +kernel
theorem dX10_leave_1 : decode cX10_leave 1 = .ok (.i2l, 1) := by decide +kernel
theorem dX10_leave_2 : decode cX10_leave 2 = .ok (.lconst 1, 1) := by decide +kernel
theorem dX10_leave_3 : decode cX10_leave 3 = .ok (.ldc2_w 177, 3) := by decide +kernel
theorem dX10_leave_6 : decode cX10_leave 6 = .ok (.invokestatic 61, 3) := by decide +kernel
theorem dX10_leave_9 : decode cX10_leave 9 = .ok (.ifCond .eq 15, 3) := by decide +kernel
theorem dX10_leave_12 : decode cX10_leave 12 = .ok (.iload_n 2, 1) := by decide +kernel
theorem dX10_leave_13 : decode cX10_leave 13 = .ok (.i2l, 1) := by decide +kernel
theorem dX10_leave_14 : decode cX10_leave 14 = .ok (.lconst 0, 1) := by decide +kernel
theorem dX10_leave_15 : decode cX10_leave 15 = .ok (.ldc2_w 191, 3) := by decide +kernel
theorem dX10_leave_18 : decode cX10_leave 18 = .ok (.invokestatic 61, 3) := by decide +kernel
theorem dX10_leave_21 : decode cX10_leave 21 = .ok (.ifCond .ne 6, 3) := by decide +kernel
theorem dX10_leave_24 : decode cX10_leave 24 = .ok (.bipush (-102), 2) := by decide +kernel
theorem dX10_leave_26 : decode cX10_leave 26 = .ok (.ireturn, 1) := by decide +kernel
theorem dX10_leave_27 : decode cX10_leave 27 = .ok (.aload_n 0, 1) := by decide +kernel
theorem dX10_leave_28 : decode cX10_leave 28 = .ok (.invokevirtual 161, 3) := by decide +kernel
theorem dX10_leave_31 : decode cX10_leave 31 = .ok (.ifCond .ne 12, 3) := by decide +kernel
theorem dX10_leave_34 : decode cX10_leave 34 = .ok (.aload_n 0, 1) := by decide +kernel
theorem dX10_leave_35 : decode cX10_leave 35 = .ok (.getfield 193, 3) := by decide +kernel
theorem dX10_leave_38 : decode cX10_leave 38 = .ok (.bipush 20, 2) := by decide +kernel
theorem dX10_leave_40 : decode cX10_leave 40 = .ok (.if_icmp .ne 6, 3) := by decide +kernel
theorem dX10_leave_43 : decode cX10_leave 43 = .ok (.bipush (-103), 2) := by decide +kernel
theorem dX10_leave_45 : decode cX10_leave 45 = .ok (.ireturn, 1) := by decide +kernel
theorem dX10_leave_46 : decode cX10_leave 46 = .ok (.aload_n 0, 1) := by decide +kernel
theorem dX10_leave_47 : decode cX10_leave 47 = .ok (.dup, 1) := by decide +kernel
theorem dX10_leave_48 : decode cX10_leave 48 = .ok (.getfield 193, 3) := by decide +kernel
theorem dX10_leave_51 : decode cX10_leave 51 = .ok (.iconst 1, 1) := by decide +kernel
theorem dX10_leave_52 : decode cX10_leave 52 = .ok (.iadd, 1) := by decide +kernel
theorem dX10_leave_53 : decode cX10_leave 53 = .ok (.putfield 193, 3) := by decide +kernel
theorem dX10_leave_56 : decode cX10_leave 56 = .ok (.aload_n 0, 1) := by decide +kernel
theorem dX10_leave_57 : decode cX10_leave 57 = .ok (.iload_n 1, 1) := by decide +kernel
theorem dX10_leave_58 : decode cX10_leave 58 = .ok (.iload_n 2, 1) := by decide +kernel
theorem dX10_leave_59 : decode cX10_leave 59 = .ok (.invokevirtual 196, 3) := by decide +kernel
theorem dX10_leave_62 : decode cX10_leave 62 = .ok (.ireturn, 1) := by decide +kernel
theorem dX10_ringBy_0 : decode cX10_ringBy 0 = .ok (.iconst (-1), 1) := by decide +kernel
theorem dX10_ringBy_1 : decode cX10_ringBy 1 = .ok (.istore_n 2, 1) := by decide +kernel
theorem dX10_ringBy_2 : decode cX10_ringBy 2 = .ok (.iconst 0, 1) := by decide +kernel
theorem dX10_ringBy_3 : decode cX10_ringBy 3 = .ok (.istore_n 3, 1) := by decide +kernel
theorem dX10_ringBy_4 : decode cX10_ringBy 4 = .ok (.iload_n 3, 1) := by decide +kernel
theorem dX10_ringBy_5 : decode cX10_ringBy 5 = .ok (.aload_n 0, 1) := by decide +kernel
theorem dX10_ringBy_6 : decode cX10_ringBy 6 = .ok (.getfield 103, 3) := by decide +kernel
theorem dX10_ringBy_9 : decode cX10_ringBy 9 = .ok (.if_icmp .ge 42, 3) := by decide +kernel
theorem dX10_ringBy_12 : decode cX10_ringBy 12 = .ok (.aload_n 0, 1) := by decide +kernel
theorem dX10_ringBy_13 : decode cX10_ringBy 13 = .ok (.iload_n 3, 1) := by decide +kernel
theorem dX10_ringBy_14 : decode cX10_ringBy 14 = .ok (.iload_n 3, 1) := by decide +kernel
theorem dX10_ringBy_15 : decode cX10_ringBy 15 = .ok (.iload_n 1, 1) := by decide +kernel
theorem dX10_ringBy_16 : decode cX10_ringBy 16 = .ok (.invokevirtual 157, 3) := by decide +kernel
theorem dX10_ringBy_19 : decode cX10_ringBy 19 = .ok (.istore 4, 2) := by decide +kernel
theorem dX10_ringBy_21 : decode cX10_ringBy 21 = .ok (.iload 4, 2) := by decide +kernel
theorem dX10_ringBy_23 : decode cX10_ringBy 23 = .ok (.iconst (-1), 1) := by decide +kernel
theorem dX10_ringBy_24 : decode cX10_ringBy 24 = .ok (.if_icmp .eq 19, 3) := by decide +kernel
theorem dX10_ringBy_27 : decode cX10_ringBy 27 = .ok (.iload_n 2, 1) := by decide +kernel
theorem dX10_ringBy_28 : decode cX10_ringBy 28 = .ok (.iconst (-1), 1) := by decide +kernel
theorem dX10_ringBy_29 : decode cX10_ringBy 29 = .ok (.if_icmp .eq 9, 3) := by decide +kernel
theorem dX10_ringBy_32 : decode cX10_ringBy 32 = .ok (.iload 4, 2) := by decide +kernel
theorem dX10_ringBy_34 : decode cX10_ringBy 34 = .ok (.iload_n 2, 1) := by decide +kernel
theorem dX10_ringBy_35 : decode cX10_ringBy 35 = .ok (.if_icmp .ge 8, 3) := by decide +kernel
theorem dX10_ringBy_38 : decode cX10_ringBy 38 = .ok (.iload 4, 2) := by decide +kernel
theorem dX10_ringBy_40 : decode cX10_ringBy 40 = .ok (.goto 4, 3) := by decide +kernel
theorem dX10_ringBy_43 : decode cX10_ringBy 43 = .ok (.iload_n 2, 1) := by decide +kernel
theorem dX10_ringBy_44 : decode cX10_ringBy 44 = .ok (.istore_n 2, 1) := by decide +kernel
theorem dX10_ringBy_45 : decode cX10_ringBy 45 = .ok (.iinc 3 1, 3) := by decide +kernel
theorem dX10_ringBy_48 : decode cX10_ringBy 48 = .ok (.goto (-44), 3) := by decide +kernel
theorem dX10_ringBy_51 : decode cX10_ringBy 51 = .ok (.iload_n 2, 1) := by decide +kernel
theorem dX10_ringBy_52 : decode cX10_ringBy 52 = .ok (.ireturn, 1) := by decide +kernel
theorem dX10_ring_0 : decode cX10_ring 0 = .ok (.aload_n 0, 1) := by decide +kernel
theorem dX10_ring_1 : decode cX10_ring 1 = .ok (.invokevirtual 161, 3) := by decide +kernel
theorem dX10_ring_4 : decode cX10_ring 4 = .ok (.ifCond .eq 8, 3) := by decide +kernel
theorem dX10_ring_7 : decode cX10_ring 7 = .ok (.bipush (-103), 2) := by decide +kernel
theorem dX10_ring_9 : decode cX10_ring 9 = .ok (.goto 11, 3) := by decide +kernel
theorem dX10_ring_12 : decode cX10_ring 12 = .ok (.aload_n 0, 1) := by decide +kernel
theorem dX10_ring_13 : decode cX10_ring 13 = .ok (.aload_n 0, 1) := by decide +kernel
theorem dX10_ring_14 : decode cX10_ring 14 = .ok (.getfield 109, 3) := by decide +kernel
theorem dX10_ring_17 : decode cX10_ring 17 = .ok (.invokevirtual 199, 3) := by decide +kernel
theorem dX10_ring_20 : decode cX10_ring 20 = .ok (.ireturn, 1) := by decide +kernel
theorem dX10_peaceOf_0 : decode cX10_peaceOf 0 = .ok (.iconst (-1), 1) := by decide +kernel
theorem dX10_peaceOf_1 : decode cX10_peaceOf 1 = .ok (.istore_n 2, 1) := by decide +kernel
theorem dX10_peaceOf_2 : decode cX10_peaceOf 2 = .ok (.iconst 0, 1) := by decide +kernel
theorem dX10_peaceOf_3 : decode cX10_peaceOf 3 = .ok (.istore_n 3, 1) := by decide +kernel
theorem dX10_peaceOf_4 : decode cX10_peaceOf 4 = .ok (.iload_n 3, 1) := by decide +kernel
theorem dX10_peaceOf_5 : decode cX10_peaceOf 5 = .ok (.iconst 1, 1) := by decide +kernel
theorem dX10_peaceOf_6 : decode cX10_peaceOf 6 = .ok (.aload_n 0, 1) := by decide +kernel
theorem dX10_peaceOf_7 : decode cX10_peaceOf 7 = .ok (.getfield 106, 3) := by decide +kernel
theorem dX10_peaceOf_10 : decode cX10_peaceOf 10 = .ok (.ishl, 1) := by decide +kernel
theorem dX10_peaceOf_11 : decode cX10_peaceOf 11 = .ok (.if_icmp .ge 66, 3) := by decide +kernel
theorem dX10_peaceOf_14 : decode cX10_peaceOf 14 = .ok (.iload_n 3, 1) := by decide +kernel
theorem dX10_peaceOf_15 : decode cX10_peaceOf 15 = .ok (.aload_n 0, 1) := by decide +kernel
theorem dX10_peaceOf_16 : decode cX10_peaceOf 16 = .ok (.getfield 109, 3) := by decide +kernel
theorem dX10_peaceOf_19 : decode cX10_peaceOf 19 = .ok (.iand, 1) := by decide +kernel
theorem dX10_peaceOf_20 : decode cX10_peaceOf 20 = .ok (.ifCond .ne 23, 3) := by decide +kernel
theorem dX10_peaceOf_23 : decode cX10_peaceOf 23 = .ok (.iload_n 2, 1) := by decide +kernel
theorem dX10_peaceOf_24 : decode cX10_peaceOf 24 = .ok (.iconst (-1), 1) := by decide +kernel
theorem dX10_peaceOf_25 : decode cX10_peaceOf 25 = .ok (.if_icmp .eq 14, 3) := by decide +kernel
theorem dX10_peaceOf_28 : decode cX10_peaceOf 28 = .ok (.iload_n 3, 1) := by decide +kernel
theorem dX10_peaceOf_29 : decode cX10_peaceOf 29 = .ok (.invokestatic 172, 3) := by decide +kernel
theorem dX10_peaceOf_32 : decode cX10_peaceOf 32 = .ok (.iload_n 2, 1) := by decide +kernel
theorem dX10_peaceOf_33 : decode cX10_peaceOf 33 = .ok (.invokestatic 172, 3) := by decide +kernel
theorem dX10_peaceOf_36 : decode cX10_peaceOf 36 = .ok (.if_icmp .ge 7, 3) := by decide +kernel
theorem dX10_peaceOf_39 : decode cX10_peaceOf 39 = .ok (.iconst 1, 1) := by decide +kernel
theorem dX10_peaceOf_40 : decode cX10_peaceOf 40 = .ok (.goto 4, 3) := by decide +kernel
theorem dX10_peaceOf_43 : decode cX10_peaceOf 43 = .ok (.iconst 0, 1) := by decide +kernel
theorem dX10_peaceOf_44 : decode cX10_peaceOf 44 = .ok (.istore 4, 2) := by decide +kernel
theorem dX10_peaceOf_46 : decode cX10_peaceOf 46 = .ok (.iload 4, 2) := by decide +kernel
theorem dX10_peaceOf_48 : decode cX10_peaceOf 48 = .ok (.ifCond .eq 21, 3) := by decide +kernel
theorem dX10_peaceOf_51 : decode cX10_peaceOf 51 = .ok (.aload_n 0, 1) := by decide +kernel
theorem dX10_peaceOf_52 : decode cX10_peaceOf 52 = .ok (.aload_n 0, 1) := by decide +kernel
theorem dX10_peaceOf_53 : decode cX10_peaceOf 53 = .ok (.getfield 109, 3) := by decide +kernel
theorem dX10_peaceOf_56 : decode cX10_peaceOf 56 = .ok (.iload_n 3, 1) := by decide +kernel
theorem dX10_peaceOf_57 : decode cX10_peaceOf 57 = .ok (.ior, 1) := by decide +kernel
theorem dX10_peaceOf_58 : decode cX10_peaceOf 58 = .ok (.invokevirtual 199, 3) := by decide +kernel
theorem dX10_peaceOf_61 : decode cX10_peaceOf 61 = .ok (.iconst (-1), 1) := by decide +kernel
theorem dX10_peaceOf_62 : decode cX10_peaceOf 62 = .ok (.if_icmp .ne 7, 3) := by decide +kernel
theorem dX10_peaceOf_65 : decode cX10_peaceOf 65 = .ok (.iload_n 3, 1) := by decide +kernel
theorem dX10_peaceOf_66 : decode cX10_peaceOf 66 = .ok (.goto 4, 3) := by decide +kernel
theorem dX10_peaceOf_69 : decode cX10_peaceOf 69 = .ok (.iload_n 2, 1) := by decide +kernel
theorem dX10_peaceOf_70 : decode cX10_peaceOf 70 = .ok (.istore_n 2, 1) := by decide +kernel
theorem dX10_peaceOf_71 : decode cX10_peaceOf 71 = .ok (.iinc 3 1, 3) := by decide +kernel
theorem dX10_peaceOf_74 : decode cX10_peaceOf 74 = .ok (.goto (-70), 3) := by decide +kernel
theorem dX10_peaceOf_77 : decode cX10_peaceOf 77 = .ok (.iload_n 1, 1) := by decide +kernel
theorem dX10_peaceOf_78 : decode cX10_peaceOf 78 = .ok (.ifCond .ne 10, 3) := by decide +kernel
theorem dX10_peaceOf_81 : decode cX10_peaceOf 81 = .ok (.iload_n 2, 1) := by decide +kernel
theorem dX10_peaceOf_82 : decode cX10_peaceOf 82 = .ok (.invokestatic 172, 3) := by decide +kernel
theorem dX10_peaceOf_85 : decode cX10_peaceOf 85 = .ok (.goto 4, 3) := by decide +kernel
theorem dX10_peaceOf_88 : decode cX10_peaceOf 88 = .ok (.iload_n 2, 1) := by decide +kernel
theorem dX10_peaceOf_89 : decode cX10_peaceOf 89 = .ok (.ireturn, 1) := by decide +kernel
theorem dX10_peace_0 : decode cX10_peace 0 = .ok (.iload_n 1, 1) := by decide +kernel
theorem dX10_peace_1 : decode cX10_peace 1 = .ok (.i2l, 1) := by decide +kernel
theorem dX10_peace_2 : decode cX10_peace 2 = .ok (.lconst 0, 1) := by decide +kernel
theorem dX10_peace_3 : decode cX10_peace 3 = .ok (.lconst 1, 1) := by decide +kernel
theorem dX10_peace_4 : decode cX10_peace 4 = .ok (.invokestatic 61, 3) := by decide +kernel
theorem dX10_peace_7 : decode cX10_peace 7 = .ok (.ifCond .ne 6, 3) := by decide +kernel
theorem dX10_peace_10 : decode cX10_peace 10 = .ok (.bipush (-102), 2) := by decide +kernel
theorem dX10_peace_12 : decode cX10_peace 12 = .ok (.ireturn, 1) := by decide +kernel
theorem dX10_peace_13 : decode cX10_peace 13 = .ok (.aload_n 0, 1) := by decide +kernel
theorem dX10_peace_14 : decode cX10_peace 14 = .ok (.invokevirtual 161, 3) := by decide +kernel
theorem dX10_peace_17 : decode cX10_peace 17 = .ok (.ifCond .eq 8, 3) := by decide +kernel
theorem dX10_peace_20 : decode cX10_peace 20 = .ok (.bipush (-103), 2) := by decide +kernel
theorem dX10_peace_22 : decode cX10_peace 22 = .ok (.goto 8, 3) := by decide +kernel
theorem dX10_peace_25 : decode cX10_peace 25 = .ok (.aload_n 0, 1) := by decide +kernel
theorem dX10_peace_26 : decode cX10_peace 26 = .ok (.iload_n 1, 1) := by decide +kernel
theorem dX10_peace_27 : decode cX10_peace 27 = .ok (.invokevirtual 202, 3) := by decide +kernel
theorem dX10_peace_30 : decode cX10_peace 30 = .ok (.ireturn, 1) := by decide +kernel
theorem dX10_oddsOf_0 : decode cX10_oddsOf 0 = .ok (.iconst 0, 1) := by decide +kernel
theorem dX10_oddsOf_1 : decode cX10_oddsOf 1 = .ok (.istore 4, 2) := by decide +kernel
theorem dX10_oddsOf_3 : decode cX10_oddsOf 3 = .ok (.iconst 0, 1) := by decide +kernel
theorem dX10_oddsOf_4 : decode cX10_oddsOf 4 = .ok (.istore 5, 2) := by decide +kernel
theorem dX10_oddsOf_6 : decode cX10_oddsOf 6 = .ok (.iconst 0, 1) := by decide +kernel
theorem dX10_oddsOf_7 : decode cX10_oddsOf 7 = .ok (.istore 6, 2) := by decide +kernel
theorem dX10_oddsOf_9 : decode cX10_oddsOf 9 = .ok (.iload 6, 2) := by decide +kernel
theorem dX10_oddsOf_11 : decode cX10_oddsOf 11 = .ok (.iconst 1, 1) := by decide +kernel
theorem dX10_oddsOf_12 : decode cX10_oddsOf 12 = .ok (.aload_n 0, 1) := by decide +kernel
theorem dX10_oddsOf_13 : decode cX10_oddsOf 13 = .ok (.getfield 106, 3) := by decide +kernel
theorem dX10_oddsOf_16 : decode cX10_oddsOf 16 = .ok (.ishl, 1) := by decide +kernel
theorem dX10_oddsOf_17 : decode cX10_oddsOf 17 = .ok (.if_icmp .ge 121, 3) := by decide +kernel
theorem dX10_oddsOf_20 : decode cX10_oddsOf 20 = .ok (.iload 6, 2) := by decide +kernel
theorem dX10_oddsOf_22 : decode cX10_oddsOf 22 = .ok (.aload_n 0, 1) := by decide +kernel
theorem dX10_oddsOf_23 : decode cX10_oddsOf 23 = .ok (.getfield 109, 3) := by decide +kernel
theorem dX10_oddsOf_26 : decode cX10_oddsOf 26 = .ok (.iand, 1) := by decide +kernel
theorem dX10_oddsOf_27 : decode cX10_oddsOf 27 = .ok (.ifCond .ne 7, 3) := by decide +kernel
theorem dX10_oddsOf_30 : decode cX10_oddsOf 30 = .ok (.iconst 1, 1) := by decide +kernel
theorem dX10_oddsOf_31 : decode cX10_oddsOf 31 = .ok (.goto 4, 3) := by decide +kernel
theorem dX10_oddsOf_34 : decode cX10_oddsOf 34 = .ok (.iconst 0, 1) := by decide +kernel
theorem dX10_oddsOf_35 : decode cX10_oddsOf 35 = .ok (.istore 7, 2) := by decide +kernel
theorem dX10_oddsOf_37 : decode cX10_oddsOf 37 = .ok (.iconst 0, 1) := by decide +kernel
theorem dX10_oddsOf_38 : decode cX10_oddsOf 38 = .ok (.istore 8, 2) := by decide +kernel
theorem dX10_oddsOf_40 : decode cX10_oddsOf 40 = .ok (.iload 8, 2) := by decide +kernel
theorem dX10_oddsOf_42 : decode cX10_oddsOf 42 = .ok (.aload_n 0, 1) := by decide +kernel
theorem dX10_oddsOf_43 : decode cX10_oddsOf 43 = .ok (.getfield 106, 3) := by decide +kernel
theorem dX10_oddsOf_46 : decode cX10_oddsOf 46 = .ok (.if_icmp .ge 45, 3) := by decide +kernel
theorem dX10_oddsOf_49 : decode cX10_oddsOf 49 = .ok (.aload_n 0, 1) := by decide +kernel
theorem dX10_oddsOf_50 : decode cX10_oddsOf 50 = .ok (.getfield 109, 3) := by decide +kernel
theorem dX10_oddsOf_53 : decode cX10_oddsOf 53 = .ok (.iload 8, 2) := by decide +kernel
theorem dX10_oddsOf_55 : decode cX10_oddsOf 55 = .ok (.ishr, 1) := by decide +kernel
theorem dX10_oddsOf_56 : decode cX10_oddsOf 56 = .ok (.iconst 1, 1) := by decide +kernel
theorem dX10_oddsOf_57 : decode cX10_oddsOf 57 = .ok (.iand, 1) := by decide +kernel
theorem dX10_oddsOf_58 : decode cX10_oddsOf 58 = .ok (.ifCond .ne 27, 3) := by decide +kernel
theorem dX10_oddsOf_61 : decode cX10_oddsOf 61 = .ok (.iload 7, 2) := by decide +kernel
theorem dX10_oddsOf_63 : decode cX10_oddsOf 63 = .ok (.iload 6, 2) := by decide +kernel
theorem dX10_oddsOf_65 : decode cX10_oddsOf 65 = .ok (.iload 8, 2) := by decide +kernel
theorem dX10_oddsOf_67 : decode cX10_oddsOf 67 = .ok (.ishr, 1) := by decide +kernel
theorem dX10_oddsOf_68 : decode cX10_oddsOf 68 = .ok (.iconst 1, 1) := by decide +kernel
theorem dX10_oddsOf_69 : decode cX10_oddsOf 69 = .ok (.iand, 1) := by decide +kernel
theorem dX10_oddsOf_70 : decode cX10_oddsOf 70 = .ok (.iconst 1, 1) := by decide +kernel
theorem dX10_oddsOf_71 : decode cX10_oddsOf 71 = .ok (.if_icmp .ne 7, 3) := by decide +kernel
theorem dX10_oddsOf_74 : decode cX10_oddsOf 74 = .ok (.iload_n 2, 1) := by decide +kernel
theorem dX10_oddsOf_75 : decode cX10_oddsOf 75 = .ok (.goto 7, 3) := by decide +kernel
theorem dX10_oddsOf_78 : decode cX10_oddsOf 78 = .ok (.bipush 10, 2) := by decide +kernel
theorem dX10_oddsOf_80 : decode cX10_oddsOf 80 = .ok (.iload_n 2, 1) := by decide +kernel
theorem dX10_oddsOf_81 : decode cX10_oddsOf 81 = .ok (.isub, 1) := by decide +kernel
theorem dX10_oddsOf_82 : decode cX10_oddsOf 82 = .ok (.imul, 1) := by decide +kernel
theorem dX10_oddsOf_83 : decode cX10_oddsOf 83 = .ok (.istore 7, 2) := by decide +kernel
theorem dX10_oddsOf_85 : decode cX10_oddsOf 85 = .ok (.iinc 8 1, 3) := by decide +kernel
theorem dX10_oddsOf_88 : decode cX10_oddsOf 88 = .ok (.goto (-48), 3) := by decide +kernel
theorem dX10_oddsOf_91 : decode cX10_oddsOf 91 = .ok (.iload 5, 2) := by decide +kernel
theorem dX10_oddsOf_93 : decode cX10_oddsOf 93 = .ok (.iload 7, 2) := by decide +kernel
theorem dX10_oddsOf_95 : decode cX10_oddsOf 95 = .ok (.iadd, 1) := by decide +kernel
theorem dX10_oddsOf_96 : decode cX10_oddsOf 96 = .ok (.istore 5, 2) := by decide +kernel
theorem dX10_oddsOf_98 : decode cX10_oddsOf 98 = .ok (.iload 4, 2) := by decide +kernel
theorem dX10_oddsOf_100 : decode cX10_oddsOf 100 = .ok (.aload_n 0, 1) := by decide +kernel
theorem dX10_oddsOf_101 : decode cX10_oddsOf 101 = .ok (.aload_n 0, 1) := by decide +kernel
theorem dX10_oddsOf_102 : decode cX10_oddsOf 102 = .ok (.getfield 109, 3) := by decide +kernel
theorem dX10_oddsOf_105 : decode cX10_oddsOf 105 = .ok (.iload 6, 2) := by decide +kernel
theorem dX10_oddsOf_107 : decode cX10_oddsOf 107 = .ok (.ior, 1) := by decide +kernel
theorem dX10_oddsOf_108 : decode cX10_oddsOf 108 = .ok (.aload_n 0, 1) := by decide +kernel
theorem dX10_oddsOf_109 : decode cX10_oddsOf 109 = .ok (.getfield 100, 3) := by decide +kernel
theorem dX10_oddsOf_112 : decode cX10_oddsOf 112 = .ok (.invokevirtual 125, 3) := by decide +kernel
theorem dX10_oddsOf_115 : decode cX10_oddsOf 115 = .ok (.iload_n 1, 1) := by decide +kernel
theorem dX10_oddsOf_116 : decode cX10_oddsOf 116 = .ok (.ishr, 1) := by decide +kernel
theorem dX10_oddsOf_117 : decode cX10_oddsOf 117 = .ok (.iconst 1, 1) := by decide +kernel
theorem dX10_oddsOf_118 : decode cX10_oddsOf 118 = .ok (.iand, 1) := by decide +kernel
theorem dX10_oddsOf_119 : decode cX10_oddsOf 119 = .ok (.iconst 1, 1) := by decide +kernel
theorem dX10_oddsOf_120 : decode cX10_oddsOf 120 = .ok (.if_icmp .ne 8, 3) := by decide +kernel
theorem dX10_oddsOf_123 : decode cX10_oddsOf 123 = .ok (.iload 7, 2) := by decide +kernel
theorem dX10_oddsOf_125 : decode cX10_oddsOf 125 = .ok (.goto 4, 3) := by decide +kernel
theorem dX10_oddsOf_128 : decode cX10_oddsOf 128 = .ok (.iconst 0, 1) := by decide +kernel
theorem dX10_oddsOf_129 : decode cX10_oddsOf 129 = .ok (.iadd, 1) := by decide +kernel
theorem dX10_oddsOf_130 : decode cX10_oddsOf 130 = .ok (.istore 4, 2) := by decide +kernel
theorem dX10_oddsOf_132 : decode cX10_oddsOf 132 = .ok (.iinc 6 1, 3) := by decide +kernel
theorem dX10_oddsOf_135 : decode cX10_oddsOf 135 = .ok (.goto (-126), 3) := by decide +kernel
theorem dX10_oddsOf_138 : decode cX10_oddsOf 138 = .ok (.iload 5, 2) := by decide +kernel
theorem dX10_oddsOf_140 : decode cX10_oddsOf 140 = .ok (.istore 6, 2) := by decide +kernel
theorem dX10_oddsOf_142 : decode cX10_oddsOf 142 = .ok (.iload 4, 2) := by decide +kernel
theorem dX10_oddsOf_144 : decode cX10_oddsOf 144 = .ok (.istore 7, 2) := by decide +kernel
theorem dX10_oddsOf_146 : decode cX10_oddsOf 146 = .ok (.iload 7, 2) := by decide +kernel
theorem dX10_oddsOf_148 : decode cX10_oddsOf 148 = .ok (.ifCond .le 21, 3) := by decide +kernel
theorem dX10_oddsOf_151 : decode cX10_oddsOf 151 = .ok (.iload 6, 2) := by decide +kernel
theorem dX10_oddsOf_153 : decode cX10_oddsOf 153 = .ok (.iload 7, 2) := by decide +kernel
theorem dX10_oddsOf_155 : decode cX10_oddsOf 155 = .ok (.irem, 1) := by decide +kernel
theorem dX10_oddsOf_156 : decode cX10_oddsOf 156 = .ok (.istore 8, 2) := by decide +kernel
theorem dX10_oddsOf_158 : decode cX10_oddsOf 158 = .ok (.iload 7, 2) := by decide +kernel
theorem dX10_oddsOf_160 : decode cX10_oddsOf 160 = .ok (.istore 6, 2) := by decide +kernel
theorem dX10_oddsOf_162 : decode cX10_oddsOf 162 = .ok (.iload 8, 2) := by decide +kernel
theorem dX10_oddsOf_164 : decode cX10_oddsOf 164 = .ok (.istore 7, 2) := by decide +kernel
theorem dX10_oddsOf_166 : decode cX10_oddsOf 166 = .ok (.goto (-20), 3) := by decide +kernel
theorem dX10_oddsOf_169 : decode cX10_oddsOf 169 = .ok (.iload_n 3, 1) := by decide +kernel
theorem dX10_oddsOf_170 : decode cX10_oddsOf 170 = .ok (.ifCond .ne 11, 3) := by decide +kernel
theorem dX10_oddsOf_173 : decode cX10_oddsOf 173 = .ok (.iload 4, 2) := by decide +kernel
theorem dX10_oddsOf_175 : decode cX10_oddsOf 175 = .ok (.iload 6, 2) := by decide +kernel
theorem dX10_oddsOf_177 : decode cX10_oddsOf 177 = .ok (.idiv, 1) := by decide +kernel
theorem dX10_oddsOf_178 : decode cX10_oddsOf 178 = .ok (.goto 8, 3) := by decide +kernel
theorem dX10_oddsOf_181 : decode cX10_oddsOf 181 = .ok (.iload 5, 2) := by decide +kernel
theorem dX10_oddsOf_183 : decode cX10_oddsOf 183 = .ok (.iload 6, 2) := by decide +kernel
theorem dX10_oddsOf_185 : decode cX10_oddsOf 185 = .ok (.idiv, 1) := by decide +kernel
theorem dX10_oddsOf_186 : decode cX10_oddsOf 186 = .ok (.ireturn, 1) := by decide +kernel
theorem dX10_odds_0 : decode cX10_odds 0 = .ok (.aload_n 0, 1) := by decide +kernel
theorem dX10_odds_1 : decode cX10_odds 1 = .ok (.iload_n 1, 1) := by decide +kernel
theorem dX10_odds_2 : decode cX10_odds 2 = .ok (.invokevirtual 134, 3) := by decide +kernel
theorem dX10_odds_5 : decode cX10_odds 5 = .ok (.ifCond .ne 6, 3) := by decide +kernel
theorem dX10_odds_8 : decode cX10_odds 8 = .ok (.bipush (-101), 2) := by decide +kernel
theorem dX10_odds_10 : decode cX10_odds 10 = .ok (.ireturn, 1) := by decide +kernel
theorem dX10_odds_11 : decode cX10_odds 11 = .ok (.iload_n 2, 1) := by decide +kernel
theorem dX10_odds_12 : decode cX10_odds 12 = .ok (.i2l, 1) := by decide +kernel
theorem dX10_odds_13 : decode cX10_odds 13 = .ok (.lconst 0, 1) := by decide +kernel
theorem dX10_odds_14 : decode cX10_odds 14 = .ok (.ldc2_w 205, 3) := by decide +kernel
theorem dX10_odds_17 : decode cX10_odds 17 = .ok (.invokestatic 61, 3) := by decide +kernel
theorem dX10_odds_20 : decode cX10_odds 20 = .ok (.ifCond .eq 23, 3) := by decide +kernel
theorem dX10_odds_23 : decode cX10_odds 23 = .ok (.iload_n 3, 1) := by decide +kernel
theorem dX10_odds_24 : decode cX10_odds 24 = .ok (.i2l, 1) := by decide +kernel
theorem dX10_odds_25 : decode cX10_odds 25 = .ok (.lconst 0, 1) := by decide +kernel
theorem dX10_odds_26 : decode cX10_odds 26 = .ok (.lconst 1, 1) := by decide +kernel
theorem dX10_odds_27 : decode cX10_odds 27 = .ok (.invokestatic 61, 3) := by decide +kernel
theorem dX10_odds_30 : decode cX10_odds 30 = .ok (.ifCond .eq 13, 3) := by decide +kernel
theorem dX10_odds_33 : decode cX10_odds 33 = .ok (.aload_n 0, 1) := by decide +kernel
theorem dX10_odds_34 : decode cX10_odds 34 = .ok (.iload_n 1, 1) := by decide +kernel
theorem dX10_odds_35 : decode cX10_odds 35 = .ok (.iload_n 2, 1) := by decide +kernel
theorem dX10_odds_36 : decode cX10_odds 36 = .ok (.iload_n 3, 1) := by decide +kernel
theorem dX10_odds_37 : decode cX10_odds 37 = .ok (.invokevirtual 207, 3) := by decide +kernel
theorem dX10_odds_40 : decode cX10_odds 40 = .ok (.goto 5, 3) := by decide +kernel
theorem dX10_odds_43 : decode cX10_odds 43 = .ok (.bipush (-102), 2) := by decide +kernel
theorem dX10_odds_45 : decode cX10_odds 45 = .ok (.ireturn, 1) := by decide +kernel
theorem dX10_see_0 : decode cX10_see 0 = .ok (.aload_n 0, 1) := by decide +kernel
theorem dX10_see_1 : decode cX10_see 1 = .ok (.iload_n 1, 1) := by decide +kernel
theorem dX10_see_2 : decode cX10_see 2 = .ok (.invokevirtual 148, 3) := by decide +kernel
theorem dX10_see_5 : decode cX10_see 5 = .ok (.ifCond .ne 6, 3) := by decide +kernel
theorem dX10_see_8 : decode cX10_see 8 = .ok (.bipush (-101), 2) := by decide +kernel
theorem dX10_see_10 : decode cX10_see 10 = .ok (.ireturn, 1) := by decide +kernel
theorem dX10_see_11 : decode cX10_see 11 = .ok (.iload_n 2, 1) := by decide +kernel
theorem dX10_see_12 : decode cX10_see 12 = .ok (.i2l, 1) := by decide +kernel
theorem dX10_see_13 : decode cX10_see 13 = .ok (.lconst 1, 1) := by decide +kernel
theorem dX10_see_14 : decode cX10_see 14 = .ok (.ldc2_w 177, 3) := by decide +kernel
theorem dX10_see_17 : decode cX10_see 17 = .ok (.invokestatic 61, 3) := by decide +kernel
theorem dX10_see_20 : decode cX10_see 20 = .ok (.ifCond .ne 6, 3) := by decide +kernel
theorem dX10_see_23 : decode cX10_see 23 = .ok (.bipush (-102), 2) := by decide +kernel
theorem dX10_see_25 : decode cX10_see 25 = .ok (.ireturn, 1) := by decide +kernel
theorem dX10_see_26 : decode cX10_see 26 = .ok (.aload_n 0, 1) := by decide +kernel
theorem dX10_see_27 : decode cX10_see 27 = .ok (.getfield 115, 3) := by decide +kernel
theorem dX10_see_30 : decode cX10_see 30 = .ok (.bipush 6, 2) := by decide +kernel
theorem dX10_see_32 : decode cX10_see 32 = .ok (.if_icmp .ne 6, 3) := by decide +kernel
theorem dX10_see_35 : decode cX10_see 35 = .ok (.bipush (-104), 2) := by decide +kernel
theorem dX10_see_37 : decode cX10_see 37 = .ok (.ireturn, 1) := by decide +kernel
theorem dX10_see_38 : decode cX10_see 38 = .ok (.aload_n 0, 1) := by decide +kernel
theorem dX10_see_39 : decode cX10_see 39 = .ok (.getfield 37, 3) := by decide +kernel
theorem dX10_see_42 : decode cX10_see 42 = .ok (.iconst 3, 1) := by decide +kernel
theorem dX10_see_43 : decode cX10_see 43 = .ok (.aload_n 0, 1) := by decide +kernel
theorem dX10_see_44 : decode cX10_see 44 = .ok (.getfield 115, 3) := by decide +kernel
theorem dX10_see_47 : decode cX10_see 47 = .ok (.imul, 1) := by decide +kernel
theorem dX10_see_48 : decode cX10_see 48 = .ok (.iload_n 1, 1) := by decide +kernel
theorem dX10_see_49 : decode cX10_see 49 = .ok (.iastore, 1) := by decide +kernel
theorem dX10_see_50 : decode cX10_see 50 = .ok (.aload_n 0, 1) := by decide +kernel
theorem dX10_see_51 : decode cX10_see 51 = .ok (.getfield 37, 3) := by decide +kernel
theorem dX10_see_54 : decode cX10_see 54 = .ok (.iconst 3, 1) := by decide +kernel
theorem dX10_see_55 : decode cX10_see 55 = .ok (.aload_n 0, 1) := by decide +kernel
theorem dX10_see_56 : decode cX10_see 56 = .ok (.getfield 115, 3) := by decide +kernel
theorem dX10_see_59 : decode cX10_see 59 = .ok (.imul, 1) := by decide +kernel
theorem dX10_see_60 : decode cX10_see 60 = .ok (.iconst 1, 1) := by decide +kernel
theorem dX10_see_61 : decode cX10_see 61 = .ok (.iadd, 1) := by decide +kernel
theorem dX10_see_62 : decode cX10_see 62 = .ok (.iload_n 2, 1) := by decide +kernel
theorem dX10_see_63 : decode cX10_see 63 = .ok (.iastore, 1) := by decide +kernel
theorem dX10_see_64 : decode cX10_see 64 = .ok (.aload_n 0, 1) := by decide +kernel
theorem dX10_see_65 : decode cX10_see 65 = .ok (.getfield 37, 3) := by decide +kernel
theorem dX10_see_68 : decode cX10_see 68 = .ok (.iconst 3, 1) := by decide +kernel
theorem dX10_see_69 : decode cX10_see 69 = .ok (.aload_n 0, 1) := by decide +kernel
theorem dX10_see_70 : decode cX10_see 70 = .ok (.getfield 115, 3) := by decide +kernel
theorem dX10_see_73 : decode cX10_see 73 = .ok (.imul, 1) := by decide +kernel
theorem dX10_see_74 : decode cX10_see 74 = .ok (.iconst 2, 1) := by decide +kernel
theorem dX10_see_75 : decode cX10_see 75 = .ok (.iadd, 1) := by decide +kernel
theorem dX10_see_76 : decode cX10_see 76 = .ok (.iload_n 3, 1) := by decide +kernel
theorem dX10_see_77 : decode cX10_see 77 = .ok (.ifCond .eq 7, 3) := by decide +kernel
theorem dX10_see_80 : decode cX10_see 80 = .ok (.iconst 1, 1) := by decide +kernel
theorem dX10_see_81 : decode cX10_see 81 = .ok (.goto 4, 3) := by decide +kernel
theorem dX10_see_84 : decode cX10_see 84 = .ok (.iconst 0, 1) := by decide +kernel
theorem dX10_see_85 : decode cX10_see 85 = .ok (.iastore, 1) := by decide +kernel
theorem dX10_see_86 : decode cX10_see 86 = .ok (.aload_n 0, 1) := by decide +kernel
theorem dX10_see_87 : decode cX10_see 87 = .ok (.dup, 1) := by decide +kernel
theorem dX10_see_88 : decode cX10_see 88 = .ok (.getfield 115, 3) := by decide +kernel
theorem dX10_see_91 : decode cX10_see 91 = .ok (.iconst 1, 1) := by decide +kernel
theorem dX10_see_92 : decode cX10_see 92 = .ok (.iadd, 1) := by decide +kernel
theorem dX10_see_93 : decode cX10_see 93 = .ok (.putfield 115, 3) := by decide +kernel
theorem dX10_see_96 : decode cX10_see 96 = .ok (.aload_n 0, 1) := by decide +kernel
theorem dX10_see_97 : decode cX10_see 97 = .ok (.getfield 115, 3) := by decide +kernel
theorem dX10_see_100 : decode cX10_see 100 = .ok (.ireturn, 1) := by decide +kernel
theorem dX10_forget_0 : decode cX10_forget 0 = .ok (.aload_n 0, 1) := by decide +kernel
theorem dX10_forget_1 : decode cX10_forget 1 = .ok (.getfield 115, 3) := by decide +kernel
theorem dX10_forget_4 : decode cX10_forget 4 = .ok (.istore_n 1, 1) := by decide +kernel
theorem dX10_forget_5 : decode cX10_forget 5 = .ok (.aload_n 0, 1) := by decide +kernel
theorem dX10_forget_6 : decode cX10_forget 6 = .ok (.iconst 0, 1) := by decide +kernel
theorem dX10_forget_7 : decode cX10_forget 7 = .ok (.putfield 115, 3) := by decide +kernel
theorem dX10_forget_10 : decode cX10_forget 10 = .ok (.iload_n 1, 1) := by decide +kernel
theorem dX10_forget_11 : decode cX10_forget 11 = .ok (.ireturn, 1) := by decide +kernel
theorem dX10_sitsIf_0 : decode cX10_sitsIf 0 = .ok (.aload_n 0, 1) := by decide +kernel
theorem dX10_sitsIf_1 : decode cX10_sitsIf 1 = .ok (.getfield 28, 3) := by decide +kernel
theorem dX10_sitsIf_4 : decode cX10_sitsIf 4 = .ok (.iload_n 1, 1) := by decide +kernel
theorem dX10_sitsIf_5 : decode cX10_sitsIf 5 = .ok (.iaload, 1) := by decide +kernel
theorem dX10_sitsIf_6 : decode cX10_sitsIf 6 = .ok (.istore 4, 2) := by decide +kernel
theorem dX10_sitsIf_8 : decode cX10_sitsIf 8 = .ok (.aload_n 0, 1) := by decide +kernel
theorem dX10_sitsIf_9 : decode cX10_sitsIf 9 = .ok (.getfield 28, 3) := by decide +kernel
theorem dX10_sitsIf_12 : decode cX10_sitsIf 12 = .ok (.iload_n 1, 1) := by decide +kernel
theorem dX10_sitsIf_13 : decode cX10_sitsIf 13 = .ok (.iload_n 2, 1) := by decide +kernel
theorem dX10_sitsIf_14 : decode cX10_sitsIf 14 = .ok (.iastore, 1) := by decide +kernel
theorem dX10_sitsIf_15 : decode cX10_sitsIf 15 = .ok (.aload_n 0, 1) := by decide +kernel
theorem dX10_sitsIf_16 : decode cX10_sitsIf 16 = .ok (.aload_n 0, 1) := by decide +kernel
theorem dX10_sitsIf_17 : decode cX10_sitsIf 17 = .ok (.getfield 109, 3) := by decide +kernel
theorem dX10_sitsIf_20 : decode cX10_sitsIf 20 = .ok (.iload_n 3, 1) := by decide +kernel
theorem dX10_sitsIf_21 : decode cX10_sitsIf 21 = .ok (.invokevirtual 125, 3) := by decide +kernel
theorem dX10_sitsIf_24 : decode cX10_sitsIf 24 = .ok (.aload_n 0, 1) := by decide +kernel
theorem dX10_sitsIf_25 : decode cX10_sitsIf 25 = .ok (.getfield 22, 3) := by decide +kernel
theorem dX10_sitsIf_28 : decode cX10_sitsIf 28 = .ok (.iload_n 1, 1) := by decide +kernel
theorem dX10_sitsIf_29 : decode cX10_sitsIf 29 = .ok (.iaload, 1) := by decide +kernel
theorem dX10_sitsIf_30 : decode cX10_sitsIf 30 = .ok (.ishr, 1) := by decide +kernel
theorem dX10_sitsIf_31 : decode cX10_sitsIf 31 = .ok (.iconst 1, 1) := by decide +kernel
theorem dX10_sitsIf_32 : decode cX10_sitsIf 32 = .ok (.iand, 1) := by decide +kernel
theorem dX10_sitsIf_33 : decode cX10_sitsIf 33 = .ok (.istore 5, 2) := by decide +kernel
theorem dX10_sitsIf_35 : decode cX10_sitsIf 35 = .ok (.aload_n 0, 1) := by decide +kernel
theorem dX10_sitsIf_36 : decode cX10_sitsIf 36 = .ok (.getfield 28, 3) := by decide +kernel
theorem dX10_sitsIf_39 : decode cX10_sitsIf 39 = .ok (.iload_n 1, 1) := by decide +kernel
theorem dX10_sitsIf_40 : decode cX10_sitsIf 40 = .ok (.iload 4, 2) := by decide +kernel
theorem dX10_sitsIf_42 : decode cX10_sitsIf 42 = .ok (.iastore, 1) := by decide +kernel
theorem dX10_sitsIf_43 : decode cX10_sitsIf 43 = .ok (.iload 5, 2) := by decide +kernel
theorem dX10_sitsIf_45 : decode cX10_sitsIf 45 = .ok (.ireturn, 1) := by decide +kernel
theorem dX10_gravesOf_0 : decode cX10_gravesOf 0 = .ok (.iconst 0, 1) := by decide +kernel
theorem dX10_gravesOf_1 : decode cX10_gravesOf 1 = .ok (.istore_n 2, 1) := by decide +kernel
theorem dX10_gravesOf_2 : decode cX10_gravesOf 2 = .ok (.iconst 1, 1) := by decide +kernel
theorem dX10_gravesOf_3 : decode cX10_gravesOf 3 = .ok (.istore_n 3, 1) := by decide +kernel
theorem dX10_gravesOf_4 : decode cX10_gravesOf 4 = .ok (.iload_n 3, 1) := by decide +kernel
theorem dX10_gravesOf_5 : decode cX10_gravesOf 5 = .ok (.bipush 10, 2) := by decide +kernel
theorem dX10_gravesOf_7 : decode cX10_gravesOf 7 = .ok (.if_icmp .ge 99, 3) := by decide +kernel
theorem dX10_gravesOf_10 : decode cX10_gravesOf 10 = .ok (.iconst 1, 1) := by decide +kernel
theorem dX10_gravesOf_11 : decode cX10_gravesOf 11 = .ok (.istore 4, 2) := by decide +kernel
theorem dX10_gravesOf_13 : decode cX10_gravesOf 13 = .ok (.iconst 0, 1) := by decide +kernel
theorem dX10_gravesOf_14 : decode cX10_gravesOf 14 = .ok (.istore 5, 2) := by decide +kernel
theorem dX10_gravesOf_16 : decode cX10_gravesOf 16 = .ok (.iload 5, 2) := by decide +kernel
theorem dX10_gravesOf_18 : decode cX10_gravesOf 18 = .ok (.iconst 3, 1) := by decide +kernel
theorem dX10_gravesOf_19 : decode cX10_gravesOf 19 = .ok (.aload_n 0, 1) := by decide +kernel
theorem dX10_gravesOf_20 : decode cX10_gravesOf 20 = .ok (.getfield 115, 3) := by decide +kernel
theorem dX10_gravesOf_23 : decode cX10_gravesOf 23 = .ok (.imul, 1) := by decide +kernel
theorem dX10_gravesOf_24 : decode cX10_gravesOf 24 = .ok (.if_icmp .ge 59, 3) := by decide +kernel
