theorem dX0_init_0 : decode cX0_init 0 = .ok (.aload_n 0, 1) := by decide +kernel
theorem dX0_init_1 : decode cX0_init 1 = .ok (.invokespecial 3, 3) := by decide +kernel
theorem dX0_init_4 : decode cX0_init 4 = .ok (.aload_n 0, 1) := by decide +kernel
theorem dX0_init_5 : decode cX0_init 5 = .ok (.bipush 6, 2) := by decide +kernel
theorem dX0_init_7 : decode cX0_init 7 = .ok (.newarray .int, 2) := by decide +kernel
theorem dX0_init_9 : decode cX0_init 9 = .ok (.putfield 9, 3) := by decide +kernel
theorem dX0_init_12 : decode cX0_init 12 = .ok (.aload_n 0, 1) := by decide +kernel
theorem dX0_init_13 : decode cX0_init 13 = .ok (.bipush 6, 2) := by decide +kernel
theorem dX0_init_15 : decode cX0_init 15 = .ok (.newarray .int, 2) := by decide +kernel
theorem dX0_init_17 : decode cX0_init 17 = .ok (.putfield 15, 3) := by decide +kernel
theorem dX0_init_20 : decode cX0_init 20 = .ok (.aload_n 0, 1) := by decide +kernel
theorem dX0_init_21 : decode cX0_init 21 = .ok (.iconst 0, 1) := by decide +kernel
theorem dX0_init_22 : decode cX0_init 22 = .ok (.putfield 18, 3) := by decide +kernel
theorem dX0_init_25 : decode cX0_init 25 = .ok (.return_, 1) := by decide +kernel
theorem dX0_fill_0 : decode cX0_fill 0 = .ok (.aload_n 0, 1) := by decide +kernel
theorem dX0_fill_1 : decode cX0_fill 1 = .ok (.aload_n 1, 1) := by decide +kernel
theorem dX0_fill_2 : decode cX0_fill 2 = .ok (.getfield 22, 3) := by decide +kernel
theorem dX0_fill_5 : decode cX0_fill 5 = .ok (.putfield 18, 3) := by decide +kernel
theorem dX0_fill_8 : decode cX0_fill 8 = .ok (.iconst 0, 1) := by decide +kernel
theorem dX0_fill_9 : decode cX0_fill 9 = .ok (.istore_n 3, 1) := by decide +kernel
theorem dX0_fill_10 : decode cX0_fill 10 = .ok (.iload_n 3, 1) := by decide +kernel
theorem dX0_fill_11 : decode cX0_fill 11 = .ok (.aload_n 0, 1) := by decide +kernel
theorem dX0_fill_12 : decode cX0_fill 12 = .ok (.getfield 18, 3) := by decide +kernel
theorem dX0_fill_15 : decode cX0_fill 15 = .ok (.if_icmp .ge 23, 3) := by decide +kernel
theorem dX0_fill_18 : decode cX0_fill 18 = .ok (.aload_n 0, 1) := by decide +kernel
theorem dX0_fill_19 : decode cX0_fill 19 = .ok (.getfield 9, 3) := by decide +kernel
theorem dX0_fill_22 : decode cX0_fill 22 = .ok (.iload_n 3, 1) := by decide +kernel
theorem dX0_fill_23 : decode cX0_fill 23 = .ok (.iconst 0, 1) := by decide +kernel
theorem dX0_fill_24 : decode cX0_fill 24 = .ok (.iastore, 1) := by decide +kernel
theorem dX0_fill_25 : decode cX0_fill 25 = .ok (.aload_n 0, 1) := by decide +kernel
theorem dX0_fill_26 : decode cX0_fill 26 = .ok (.getfield 15, 3) := by decide +kernel
theorem dX0_fill_29 : decode cX0_fill 29 = .ok (.iload_n 3, 1) := by decide +kernel
theorem dX0_fill_30 : decode cX0_fill 30 = .ok (.iconst 0, 1) := by decide +kernel
theorem dX0_fill_31 : decode cX0_fill 31 = .ok (.iastore, 1) := by decide +kernel
theorem dX0_fill_32 : decode cX0_fill 32 = .ok (.iinc 3 1, 3) := by decide +kernel
theorem dX0_fill_35 : decode cX0_fill 35 = .ok (.goto (-25), 3) := by decide +kernel
theorem dX0_fill_38 : decode cX0_fill 38 = .ok (.iconst 0, 1) := by decide +kernel
theorem dX0_fill_39 : decode cX0_fill 39 = .ok (.istore_n 3, 1) := by decide +kernel
theorem dX0_fill_40 : decode cX0_fill 40 = .ok (.iload_n 3, 1) := by decide +kernel
theorem dX0_fill_41 : decode cX0_fill 41 = .ok (.aload_n 1, 1) := by decide +kernel
theorem dX0_fill_42 : decode cX0_fill 42 = .ok (.getfield 25, 3) := by decide +kernel
theorem dX0_fill_45 : decode cX0_fill 45 = .ok (.if_icmp .ge 55, 3) := by decide +kernel
theorem dX0_fill_48 : decode cX0_fill 48 = .ok (.aload_n 1, 1) := by decide +kernel
theorem dX0_fill_49 : decode cX0_fill 49 = .ok (.getfield 28, 3) := by decide +kernel
theorem dX0_fill_52 : decode cX0_fill 52 = .ok (.iload_n 3, 1) := by decide +kernel
theorem dX0_fill_53 : decode cX0_fill 53 = .ok (.iaload, 1) := by decide +kernel
theorem dX0_fill_54 : decode cX0_fill 54 = .ok (.istore 4, 2) := by decide +kernel
theorem dX0_fill_56 : decode cX0_fill 56 = .ok (.iload_n 2, 1) := by decide +kernel
theorem dX0_fill_57 : decode cX0_fill 57 = .ok (.iload_n 3, 1) := by decide +kernel
theorem dX0_fill_58 : decode cX0_fill 58 = .ok (.invokestatic 31, 3) := by decide +kernel
theorem dX0_fill_61 : decode cX0_fill 61 = .ok (.ifCond .eq 17, 3) := by decide +kernel
theorem dX0_fill_64 : decode cX0_fill 64 = .ok (.aload_n 0, 1) := by decide +kernel
theorem dX0_fill_65 : decode cX0_fill 65 = .ok (.getfield 15, 3) := by decide +kernel
theorem dX0_fill_68 : decode cX0_fill 68 = .ok (.iload 4, 2) := by decide +kernel
theorem dX0_fill_70 : decode cX0_fill 70 = .ok (.dup2, 1) := by decide +kernel
theorem dX0_fill_71 : decode cX0_fill 71 = .ok (.iaload, 1) := by decide +kernel
theorem dX0_fill_72 : decode cX0_fill 72 = .ok (.iconst 1, 1) := by decide +kernel
theorem dX0_fill_73 : decode cX0_fill 73 = .ok (.iadd, 1) := by decide +kernel
theorem dX0_fill_74 : decode cX0_fill 74 = .ok (.iastore, 1) := by decide +kernel
theorem dX0_fill_75 : decode cX0_fill 75 = .ok (.goto 19, 3) := by decide +kernel
theorem dX0_fill_78 : decode cX0_fill 78 = .ok (.aload_n 0, 1) := by decide +kernel
theorem dX0_fill_79 : decode cX0_fill 79 = .ok (.getfield 9, 3) := by decide +kernel
theorem dX0_fill_82 : decode cX0_fill 82 = .ok (.iload 4, 2) := by decide +kernel
theorem dX0_fill_84 : decode cX0_fill 84 = .ok (.dup2, 1) := by decide +kernel
theorem dX0_fill_85 : decode cX0_fill 85 = .ok (.iaload, 1) := by decide +kernel
theorem dX0_fill_86 : decode cX0_fill 86 = .ok (.aload_n 1, 1) := by decide +kernel
theorem dX0_fill_87 : decode cX0_fill 87 = .ok (.getfield 35, 3) := by decide +kernel
theorem dX0_fill_90 : decode cX0_fill 90 = .ok (.iload_n 3, 1) := by decide +kernel
theorem dX0_fill_91 : decode cX0_fill 91 = .ok (.iaload, 1) := by decide +kernel
theorem dX0_fill_92 : decode cX0_fill 92 = .ok (.iadd, 1) := by decide +kernel
theorem dX0_fill_93 : decode cX0_fill 93 = .ok (.iastore, 1) := by decide +kernel
theorem dX0_fill_94 : decode cX0_fill 94 = .ok (.iinc 3 1, 3) := by decide +kernel
theorem dX0_fill_97 : decode cX0_fill 97 = .ok (.goto (-57), 3) := by decide +kernel
theorem dX0_fill_100 : decode cX0_fill 100 = .ok (.iconst 0, 1) := by decide +kernel
theorem dX0_fill_101 : decode cX0_fill 101 = .ok (.istore_n 3, 1) := by decide +kernel
theorem dX0_fill_102 : decode cX0_fill 102 = .ok (.iload_n 3, 1) := by decide +kernel
theorem dX0_fill_103 : decode cX0_fill 103 = .ok (.aload_n 0, 1) := by decide +kernel
theorem dX0_fill_104 : decode cX0_fill 104 = .ok (.getfield 18, 3) := by decide +kernel
theorem dX0_fill_107 : decode cX0_fill 107 = .ok (.if_icmp .ge 36, 3) := by decide +kernel
theorem dX0_fill_110 : decode cX0_fill 110 = .ok (.aload_n 0, 1) := by decide +kernel
theorem dX0_fill_111 : decode cX0_fill 111 = .ok (.getfield 9, 3) := by decide +kernel
theorem dX0_fill_114 : decode cX0_fill 114 = .ok (.iload_n 3, 1) := by decide +kernel
theorem dX0_fill_115 : decode cX0_fill 115 = .ok (.aload_n 1, 1) := by decide +kernel
theorem dX0_fill_116 : decode cX0_fill 116 = .ok (.getfield 38, 3) := by decide +kernel
theorem dX0_fill_119 : decode cX0_fill 119 = .ok (.iload_n 3, 1) := by decide +kernel
theorem dX0_fill_120 : decode cX0_fill 120 = .ok (.iaload, 1) := by decide +kernel
theorem dX0_fill_121 : decode cX0_fill 121 = .ok (.aload_n 0, 1) := by decide +kernel
theorem dX0_fill_122 : decode cX0_fill 122 = .ok (.getfield 9, 3) := by decide +kernel
theorem dX0_fill_125 : decode cX0_fill 125 = .ok (.iload_n 3, 1) := by decide +kernel
theorem dX0_fill_126 : decode cX0_fill 126 = .ok (.iaload, 1) := by decide +kernel
theorem dX0_fill_127 : decode cX0_fill 127 = .ok (.aload_n 0, 1) := by decide +kernel
theorem dX0_fill_128 : decode cX0_fill 128 = .ok (.getfield 15, 3) := by decide +kernel
theorem dX0_fill_131 : decode cX0_fill 131 = .ok (.iload_n 3, 1) := by decide +kernel
theorem dX0_fill_132 : decode cX0_fill 132 = .ok (.iaload, 1) := by decide +kernel
theorem dX0_fill_133 : decode cX0_fill 133 = .ok (.invokestatic 41, 3) := by decide +kernel
theorem dX0_fill_136 : decode cX0_fill 136 = .ok (.iastore, 1) := by decide +kernel
theorem dX0_fill_137 : decode cX0_fill 137 = .ok (.iinc 3 1, 3) := by decide +kernel
theorem dX0_fill_140 : decode cX0_fill 140 = .ok (.goto (-38), 3) := by decide +kernel
theorem dX0_fill_143 : decode cX0_fill 143 = .ok (.return_, 1) := by decide +kernel
theorem dX0_guiltAs_0 : decode cX0_guiltAs 0 = .ok (.iload_n 0, 1) := by decide +kernel
theorem dX0_guiltAs_1 : decode cX0_guiltAs 1 = .ok (.tableswitch 47 1 4 #[31, 35, 39, 45], 31) := by decide +kernel
theorem dX0_guiltAs_32 : decode cX0_guiltAs 32 = .ok (.iload_n 1, 1) := by decide +kernel
theorem dX0_guiltAs_33 : decode cX0_guiltAs 33 = .ok (.iconst 2, 1) := by decide +kernel
theorem dX0_guiltAs_34 : decode cX0_guiltAs 34 = .ok (.idiv, 1) := by decide +kernel
theorem dX0_guiltAs_35 : decode cX0_guiltAs 35 = .ok (.ireturn, 1) := by decide +kernel
theorem dX0_guiltAs_36 : decode cX0_guiltAs 36 = .ok (.iload_n 1, 1) := by decide +kernel
theorem dX0_guiltAs_37 : decode cX0_guiltAs 37 = .ok (.iload_n 2, 1) := by decide +kernel
theorem dX0_guiltAs_38 : decode cX0_guiltAs 38 = .ok (.iadd, 1) := by decide +kernel
theorem dX0_guiltAs_39 : decode cX0_guiltAs 39 = .ok (.ireturn, 1) := by decide +kernel
theorem dX0_guiltAs_40 : decode cX0_guiltAs 40 = .ok (.iconst 1, 1) := by decide +kernel
theorem dX0_guiltAs_41 : decode cX0_guiltAs 41 = .ok (.iload_n 1, 1) := by decide +kernel
theorem dX0_guiltAs_42 : decode cX0_guiltAs 42 = .ok (.invokestatic 45, 3) := by decide +kernel
theorem dX0_guiltAs_45 : decode cX0_guiltAs 45 = .ok (.ireturn, 1) := by decide +kernel
theorem dX0_guiltAs_46 : decode cX0_guiltAs 46 = .ok (.iconst 0, 1) := by decide +kernel
theorem dX0_guiltAs_47 : decode cX0_guiltAs 47 = .ok (.ireturn, 1) := by decide +kernel
theorem dX0_guiltAs_48 : decode cX0_guiltAs 48 = .ok (.iload_n 1, 1) := by decide +kernel
theorem dX0_guiltAs_49 : decode cX0_guiltAs 49 = .ok (.ireturn, 1) := by decide +kernel
theorem dX0_placeOf_0 : decode cX0_placeOf 0 = .ok (.aload_n 0, 1) := by decide +kernel
theorem dX0_placeOf_1 : decode cX0_placeOf 1 = .ok (.getfield 9, 3) := by decide +kernel
theorem dX0_placeOf_4 : decode cX0_placeOf 4 = .ok (.iload_n 1, 1) := by decide +kernel
theorem dX0_placeOf_5 : decode cX0_placeOf 5 = .ok (.iaload, 1) := by decide +kernel
theorem dX0_placeOf_6 : decode cX0_placeOf 6 = .ok (.istore_n 2, 1) := by decide +kernel
theorem dX0_placeOf_7 : decode cX0_placeOf 7 = .ok (.iload_n 2, 1) := by decide +kernel
theorem dX0_placeOf_8 : decode cX0_placeOf 8 = .ok (.iconst 1, 1) := by decide +kernel
theorem dX0_placeOf_9 : decode cX0_placeOf 9 = .ok (.if_icmp .ge 6, 3) := by decide +kernel
theorem dX0_placeOf_12 : decode cX0_placeOf 12 = .ok (.bipush 6, 2) := by decide +kernel
theorem dX0_placeOf_14 : decode cX0_placeOf 14 = .ok (.ireturn, 1) := by decide +kernel
theorem dX0_placeOf_15 : decode cX0_placeOf 15 = .ok (.iconst 0, 1) := by decide +kernel
theorem dX0_placeOf_16 : decode cX0_placeOf 16 = .ok (.istore_n 3, 1) := by decide +kernel
theorem dX0_placeOf_17 : decode cX0_placeOf 17 = .ok (.iconst 0, 1) := by decide +kernel
theorem dX0_placeOf_18 : decode cX0_placeOf 18 = .ok (.istore 4, 2) := by decide +kernel
theorem dX0_placeOf_20 : decode cX0_placeOf 20 = .ok (.iload 4, 2) := by decide +kernel
theorem dX0_placeOf_22 : decode cX0_placeOf 22 = .ok (.aload_n 0, 1) := by decide +kernel
theorem dX0_placeOf_23 : decode cX0_placeOf 23 = .ok (.getfield 18, 3) := by decide +kernel
theorem dX0_placeOf_26 : decode cX0_placeOf 26 = .ok (.if_icmp .ge 40, 3) := by decide +kernel
theorem dX0_placeOf_29 : decode cX0_placeOf 29 = .ok (.aload_n 0, 1) := by decide +kernel
theorem dX0_placeOf_30 : decode cX0_placeOf 30 = .ok (.getfield 9, 3) := by decide +kernel
theorem dX0_placeOf_33 : decode cX0_placeOf 33 = .ok (.iload 4, 2) := by decide +kernel
theorem dX0_placeOf_35 : decode cX0_placeOf 35 = .ok (.iaload, 1) := by decide +kernel
theorem dX0_placeOf_36 : decode cX0_placeOf 36 = .ok (.iload_n 2, 1) := by decide +kernel
theorem dX0_placeOf_37 : decode cX0_placeOf 37 = .ok (.if_icmp .gt 20, 3) := by decide +kernel
theorem dX0_placeOf_40 : decode cX0_placeOf 40 = .ok (.aload_n 0, 1) := by decide +kernel
theorem dX0_placeOf_41 : decode cX0_placeOf 41 = .ok (.getfield 9, 3) := by decide +kernel
theorem dX0_placeOf_44 : decode cX0_placeOf 44 = .ok (.iload 4, 2) := by decide +kernel
theorem dX0_placeOf_46 : decode cX0_placeOf 46 = .ok (.iaload, 1) := by decide +kernel
theorem dX0_placeOf_47 : decode cX0_placeOf 47 = .ok (.iload_n 2, 1) := by decide +kernel
theorem dX0_placeOf_48 : decode cX0_placeOf 48 = .ok (.if_icmp .ne 12, 3) := by decide +kernel
theorem dX0_placeOf_51 : decode cX0_placeOf 51 = .ok (.iload 4, 2) := by decide +kernel
theorem dX0_placeOf_53 : decode cX0_placeOf 53 = .ok (.iload_n 1, 1) := by decide +kernel
theorem dX0_placeOf_54 : decode cX0_placeOf 54 = .ok (.if_icmp .ge 6, 3) := by decide +kernel
theorem dX0_placeOf_57 : decode cX0_placeOf 57 = .ok (.iinc 3 1, 3) := by decide +kernel
theorem dX0_placeOf_60 : decode cX0_placeOf 60 = .ok (.iinc 4 1, 3) := by decide +kernel
theorem dX0_placeOf_63 : decode cX0_placeOf 63 = .ok (.goto (-43), 3) := by decide +kernel
theorem dX0_placeOf_66 : decode cX0_placeOf 66 = .ok (.iload_n 3, 1) := by decide +kernel
theorem dX0_placeOf_67 : decode cX0_placeOf 67 = .ok (.ireturn, 1) := by decide +kernel
theorem dX0_sitters_0 : decode cX0_sitters 0 = .ok (.iconst 0, 1) := by decide +kernel
theorem dX0_sitters_1 : decode cX0_sitters 1 = .ok (.istore_n 2, 1) := by decide +kernel
theorem dX0_sitters_2 : decode cX0_sitters 2 = .ok (.iconst 0, 1) := by decide +kernel
theorem dX0_sitters_3 : decode cX0_sitters 3 = .ok (.istore_n 3, 1) := by decide +kernel
theorem dX0_sitters_4 : decode cX0_sitters 4 = .ok (.iload_n 3, 1) := by decide +kernel
theorem dX0_sitters_5 : decode cX0_sitters 5 = .ok (.aload_n 0, 1) := by decide +kernel
theorem dX0_sitters_6 : decode cX0_sitters 6 = .ok (.getfield 18, 3) := by decide +kernel
theorem dX0_sitters_9 : decode cX0_sitters 9 = .ok (.if_icmp .ge 24, 3) := by decide +kernel
theorem dX0_sitters_12 : decode cX0_sitters 12 = .ok (.aload_n 0, 1) := by decide +kernel
theorem dX0_sitters_13 : decode cX0_sitters 13 = .ok (.iload_n 3, 1) := by decide +kernel
theorem dX0_sitters_14 : decode cX0_sitters 14 = .ok (.invokevirtual 51, 3) := by decide +kernel
theorem dX0_sitters_17 : decode cX0_sitters 17 = .ok (.iload_n 1, 1) := by decide +kernel
theorem dX0_sitters_18 : decode cX0_sitters 18 = .ok (.if_icmp .ge 9, 3) := by decide +kernel
theorem dX0_sitters_21 : decode cX0_sitters 21 = .ok (.iload_n 2, 1) := by decide +kernel
theorem dX0_sitters_22 : decode cX0_sitters 22 = .ok (.iconst 1, 1) := by decide +kernel
theorem dX0_sitters_23 : decode cX0_sitters 23 = .ok (.iload_n 3, 1) := by decide +kernel
theorem dX0_sitters_24 : decode cX0_sitters 24 = .ok (.ishl, 1) := by decide +kernel
theorem dX0_sitters_25 : decode cX0_sitters 25 = .ok (.ior, 1) := by decide +kernel
theorem dX0_sitters_26 : decode cX0_sitters 26 = .ok (.istore_n 2, 1) := by decide +kernel
theorem dX0_sitters_27 : decode cX0_sitters 27 = .ok (.iinc 3 1, 3) := by decide +kernel
theorem dX0_sitters_30 : decode cX0_sitters 30 = .ok (.goto (-26), 3) := by decide +kernel
theorem dX0_sitters_33 : decode cX0_sitters 33 = .ok (.iload_n 2, 1) := by decide +kernel
theorem dX0_sitters_34 : decode cX0_sitters 34 = .ok (.ireturn, 1) := by decide +kernel
theorem dX0_allGuilt_0 : decode cX0_allGuilt 0 = .ok (.iconst 0, 1) := by decide +kernel
theorem dX0_allGuilt_1 : decode cX0_allGuilt 1 = .ok (.istore_n 1, 1) := by decide +kernel
theorem dX0_allGuilt_2 : decode cX0_allGuilt 2 = .ok (.iconst 0, 1) := by decide +kernel
theorem dX0_allGuilt_3 : decode cX0_allGuilt 3 = .ok (.istore_n 2, 1) := by decide +kernel
theorem dX0_allGuilt_4 : decode cX0_allGuilt 4 = .ok (.iload_n 2, 1) := by decide +kernel
theorem dX0_allGuilt_5 : decode cX0_allGuilt 5 = .ok (.aload_n 0, 1) := by decide +kernel
theorem dX0_allGuilt_6 : decode cX0_allGuilt 6 = .ok (.getfield 18, 3) := by decide +kernel
theorem dX0_allGuilt_9 : decode cX0_allGuilt 9 = .ok (.if_icmp .ge 18, 3) := by decide +kernel
theorem dX0_allGuilt_12 : decode cX0_allGuilt 12 = .ok (.iload_n 1, 1) := by decide +kernel
theorem dX0_allGuilt_13 : decode cX0_allGuilt 13 = .ok (.aload_n 0, 1) := by decide +kernel
theorem dX0_allGuilt_14 : decode cX0_allGuilt 14 = .ok (.getfield 9, 3) := by decide +kernel
theorem dX0_allGuilt_17 : decode cX0_allGuilt 17 = .ok (.iload_n 2, 1) := by decide +kernel
theorem dX0_allGuilt_18 : decode cX0_allGuilt 18 = .ok (.iaload, 1) := by decide +kernel
theorem dX0_allGuilt_19 : decode cX0_allGuilt 19 = .ok (.iadd, 1) := by decide +kernel
theorem dX0_allGuilt_20 : decode cX0_allGuilt 20 = .ok (.istore_n 1, 1) := by decide +kernel
theorem dX0_allGuilt_21 : decode cX0_allGuilt 21 = .ok (.iinc 2 1, 3) := by decide +kernel
theorem dX0_allGuilt_24 : decode cX0_allGuilt 24 = .ok (.goto (-20), 3) := by decide +kernel
theorem dX0_allGuilt_27 : decode cX0_allGuilt 27 = .ok (.iload_n 1, 1) := by decide +kernel
theorem dX0_allGuilt_28 : decode cX0_allGuilt 28 = .ok (.ireturn, 1) := by decide +kernel
theorem dX1_init_0 : decode cX1_init 0 = .ok (.aload_n 0, 1) := by decide +kernel
theorem dX1_init_1 : decode cX1_init 1 = .ok (.invokespecial 3, 3) := by decide +kernel
theorem dX1_init_4 : decode cX1_init 4 = .ok (.aload_n 0, 1) := by decide +kernel
theorem dX1_init_5 : decode cX1_init 5 = .ok (.bipush 6, 2) := by decide +kernel
theorem dX1_init_7 : decode cX1_init 7 = .ok (.newarray .int, 2) := by decide +kernel
theorem dX1_init_9 : decode cX1_init 9 = .ok (.putfield 9, 3) := by decide +kernel
theorem dX1_init_12 : decode cX1_init 12 = .ok (.aload_n 0, 1) := by decide +kernel
theorem dX1_init_13 : decode cX1_init 13 = .ok (.bipush 9, 2) := by decide +kernel
theorem dX1_init_15 : decode cX1_init 15 = .ok (.newarray .int, 2) := by decide +kernel
theorem dX1_init_17 : decode cX1_init 17 = .ok (.putfield 15, 3) := by decide +kernel
theorem dX1_init_20 : decode cX1_init 20 = .ok (.aload_n 0, 1) := by decide +kernel
theorem dX1_init_21 : decode cX1_init 21 = .ok (.bipush 9, 2) := by decide +kernel
theorem dX1_init_23 : decode cX1_init 23 = .ok (.newarray .int, 2) := by decide +kernel
theorem dX1_init_25 : decode cX1_init 25 = .ok (.putfield 18, 3) := by decide +kernel
theorem dX1_init_28 : decode cX1_init 28 = .ok (.aload_n 0, 1) := by decide +kernel
theorem dX1_init_29 : decode cX1_init 29 = .ok (.iconst 1, 1) := by decide +kernel
theorem dX1_init_30 : decode cX1_init 30 = .ok (.putfield 21, 3) := by decide +kernel
theorem dX1_init_33 : decode cX1_init 33 = .ok (.return_, 1) := by decide +kernel
theorem dX1_fill_0 : decode cX1_fill 0 = .ok (.iconst 1, 1) := by decide +kernel
theorem dX1_fill_1 : decode cX1_fill 1 = .ok (.aload_n 1, 1) := by decide +kernel
theorem dX1_fill_2 : decode cX1_fill 2 = .ok (.getfield 25, 3) := by decide +kernel
theorem dX1_fill_5 : decode cX1_fill 5 = .ok (.ishl, 1) := by decide +kernel
theorem dX1_fill_6 : decode cX1_fill 6 = .ok (.iconst 1, 1) := by decide +kernel
theorem dX1_fill_7 : decode cX1_fill 7 = .ok (.isub, 1) := by decide +kernel
theorem dX1_fill_8 : decode cX1_fill 8 = .ok (.istore 4, 2) := by decide +kernel
theorem dX1_fill_10 : decode cX1_fill 10 = .ok (.iload 4, 2) := by decide +kernel
theorem dX1_fill_12 : decode cX1_fill 12 = .ok (.aload_n 1, 1) := by decide +kernel
theorem dX1_fill_13 : decode cX1_fill 13 = .ok (.getfield 30, 3) := by decide +kernel
theorem dX1_fill_16 : decode cX1_fill 16 = .ok (.iconst (-1), 1) := by decide +kernel
theorem dX1_fill_17 : decode cX1_fill 17 = .ok (.ixor, 1) := by decide +kernel
theorem dX1_fill_18 : decode cX1_fill 18 = .ok (.iand, 1) := by decide +kernel
theorem dX1_fill_19 : decode cX1_fill 19 = .ok (.istore 5, 2) := by decide +kernel
theorem dX1_fill_21 : decode cX1_fill 21 = .ok (.iload 5, 2) := by decide +kernel
theorem dX1_fill_23 : decode cX1_fill 23 = .ok (.invokestatic 33, 3) := by decide +kernel
theorem dX1_fill_26 : decode cX1_fill 26 = .ok (.istore 6, 2) := by decide +kernel
theorem dX1_fill_28 : decode cX1_fill 28 = .ok (.aload_n 0, 1) := by decide +kernel
theorem dX1_fill_29 : decode cX1_fill 29 = .ok (.iconst 1, 1) := by decide +kernel
theorem dX1_fill_30 : decode cX1_fill 30 = .ok (.putfield 21, 3) := by decide +kernel
theorem dX1_fill_33 : decode cX1_fill 33 = .ok (.iconst 0, 1) := by decide +kernel
theorem dX1_fill_34 : decode cX1_fill 34 = .ok (.istore 7, 2) := by decide +kernel
theorem dX1_fill_36 : decode cX1_fill 36 = .ok (.iload 7, 2) := by decide +kernel
theorem dX1_fill_38 : decode cX1_fill 38 = .ok (.iload 6, 2) := by decide +kernel
theorem dX1_fill_40 : decode cX1_fill 40 = .ok (.if_icmp .ge 20, 3) := by decide +kernel
theorem dX1_fill_43 : decode cX1_fill 43 = .ok (.aload_n 0, 1) := by decide +kernel
theorem dX1_fill_44 : decode cX1_fill 44 = .ok (.dup, 1) := by decide +kernel
theorem dX1_fill_45 : decode cX1_fill 45 = .ok (.getfield 21, 3) := by decide +kernel
theorem dX1_fill_48 : decode cX1_fill 48 = .ok (.bipush 10, 2) := by decide +kernel
theorem dX1_fill_50 : decode cX1_fill 50 = .ok (.imul, 1) := by decide +kernel
theorem dX1_fill_51 : decode cX1_fill 51 = .ok (.putfield 21, 3) := by decide +kernel
theorem dX1_fill_54 : decode cX1_fill 54 = .ok (.iinc 7 1, 3) := by decide +kernel
theorem dX1_fill_57 : decode cX1_fill 57 = .ok (.goto (-21), 3) := by decide +kernel
theorem dX1_fill_60 : decode cX1_fill 60 = .ok (.aload_n 0, 1) := by decide +kernel
theorem dX1_fill_61 : decode cX1_fill 61 = .ok (.getfield 15, 3) := by decide +kernel
theorem dX1_fill_64 : decode cX1_fill 64 = .ok (.iload_n 2, 1) := by decide +kernel
theorem dX1_fill_65 : decode cX1_fill 65 = .ok (.invokestatic 39, 3) := by decide +kernel
theorem dX1_fill_68 : decode cX1_fill 68 = .ok (.aload_n 0, 1) := by decide +kernel
theorem dX1_fill_69 : decode cX1_fill 69 = .ok (.getfield 18, 3) := by decide +kernel
theorem dX1_fill_72 : decode cX1_fill 72 = .ok (.bipush 10, 2) := by decide +kernel
theorem dX1_fill_74 : decode cX1_fill 74 = .ok (.iload_n 2, 1) := by decide +kernel
theorem dX1_fill_75 : decode cX1_fill 75 = .ok (.isub, 1) := by decide +kernel
theorem dX1_fill_76 : decode cX1_fill 76 = .ok (.invokestatic 39, 3) := by decide +kernel
theorem dX1_fill_79 : decode cX1_fill 79 = .ok (.iconst 0, 1) := by decide +kernel
theorem dX1_fill_80 : decode cX1_fill 80 = .ok (.istore 7, 2) := by decide +kernel
theorem dX1_fill_82 : decode cX1_fill 82 = .ok (.iload 7, 2) := by decide +kernel
theorem dX1_fill_84 : decode cX1_fill 84 = .ok (.aload_n 1, 1) := by decide +kernel
theorem dX1_fill_85 : decode cX1_fill 85 = .ok (.getfield 43, 3) := by decide +kernel
theorem dX1_fill_88 : decode cX1_fill 88 = .ok (.if_icmp .ge 17, 3) := by decide +kernel
theorem dX1_fill_91 : decode cX1_fill 91 = .ok (.aload_n 0, 1) := by decide +kernel
theorem dX1_fill_92 : decode cX1_fill 92 = .ok (.getfield 9, 3) := by decide +kernel
theorem dX1_fill_95 : decode cX1_fill 95 = .ok (.iload 7, 2) := by decide +kernel
theorem dX1_fill_97 : decode cX1_fill 97 = .ok (.iconst 0, 1) := by decide +kernel
theorem dX1_fill_98 : decode cX1_fill 98 = .ok (.iastore, 1) := by decide +kernel
theorem dX1_fill_99 : decode cX1_fill 99 = .ok (.iinc 7 1, 3) := by decide +kernel
theorem dX1_fill_102 : decode cX1_fill 102 = .ok (.goto (-20), 3) := by decide +kernel
theorem dX1_fill_105 : decode cX1_fill 105 = .ok (.iconst 0, 1) := by decide +kernel
theorem dX1_fill_106 : decode cX1_fill 106 = .ok (.istore 7, 2) := by decide +kernel
theorem dX1_fill_108 : decode cX1_fill 108 = .ok (.iload 7, 2) := by decide +kernel
theorem dX1_fill_110 : decode cX1_fill 110 = .ok (.iload 4, 2) := by decide +kernel
theorem dX1_fill_112 : decode cX1_fill 112 = .ok (.if_icmp .gt 81, 3) := by decide +kernel
theorem dX1_fill_115 : decode cX1_fill 115 = .ok (.iload 7, 2) := by decide +kernel
theorem dX1_fill_117 : decode cX1_fill 117 = .ok (.iload 5, 2) := by decide +kernel
theorem dX1_fill_119 : decode cX1_fill 119 = .ok (.iconst (-1), 1) := by decide +kernel
theorem dX1_fill_120 : decode cX1_fill 120 = .ok (.ixor, 1) := by decide +kernel
theorem dX1_fill_121 : decode cX1_fill 121 = .ok (.iand, 1) := by decide +kernel
theorem dX1_fill_122 : decode cX1_fill 122 = .ok (.ifCond .ne 65, 3) := by decide +kernel
theorem dX1_fill_125 : decode cX1_fill 125 = .ok (.iload 7, 2) := by decide +kernel
theorem dX1_fill_127 : decode cX1_fill 127 = .ok (.invokestatic 33, 3) := by decide +kernel
theorem dX1_fill_130 : decode cX1_fill 130 = .ok (.istore 8, 2) := by decide +kernel
theorem dX1_fill_132 : decode cX1_fill 132 = .ok (.aload_n 0, 1) := by decide +kernel
theorem dX1_fill_133 : decode cX1_fill 133 = .ok (.getfield 15, 3) := by decide +kernel
theorem dX1_fill_136 : decode cX1_fill 136 = .ok (.iload 8, 2) := by decide +kernel
theorem dX1_fill_138 : decode cX1_fill 138 = .ok (.iaload, 1) := by decide +kernel
theorem dX1_fill_139 : decode cX1_fill 139 = .ok (.aload_n 0, 1) := by decide +kernel
theorem dX1_fill_140 : decode cX1_fill 140 = .ok (.getfield 18, 3) := by decide +kernel
theorem dX1_fill_143 : decode cX1_fill 143 = .ok (.iload 6, 2) := by decide +kernel
theorem dX1_fill_145 : decode cX1_fill 145 = .ok (.iload 8, 2) := by decide +kernel
theorem dX1_fill_147 : decode cX1_fill 147 = .ok (.isub, 1) := by decide +kernel
theorem dX1_fill_148 : decode cX1_fill 148 = .ok (.iaload, 1) := by decide +kernel
theorem dX1_fill_149 : decode cX1_fill 149 = .ok (.imul, 1) := by decide +kernel
theorem dX1_fill_150 : decode cX1_fill 150 = .ok (.istore 9, 2) := by decide +kernel
theorem dX1_fill_152 : decode cX1_fill 152 = .ok (.iload 9, 2) := by decide +kernel
theorem dX1_fill_154 : decode cX1_fill 154 = .ok (.ifCond .le 33, 3) := by decide +kernel
theorem dX1_fill_157 : decode cX1_fill 157 = .ok (.aload_n 3, 1) := by decide +kernel
theorem dX1_fill_158 : decode cX1_fill 158 = .ok (.aload_n 1, 1) := by decide +kernel
theorem dX1_fill_159 : decode cX1_fill 159 = .ok (.aload_n 1, 1) := by decide +kernel
theorem dX1_fill_160 : decode cX1_fill 160 = .ok (.getfield 30, 3) := by decide +kernel
theorem dX1_fill_163 : decode cX1_fill 163 = .ok (.iload 7, 2) := by decide +kernel
theorem dX1_fill_165 : decode cX1_fill 165 = .ok (.ior, 1) := by decide +kernel
theorem dX1_fill_166 : decode cX1_fill 166 = .ok (.invokevirtual 46, 3) := by decide +kernel
theorem dX1_fill_169 : decode cX1_fill 169 = .ok (.aload_n 0, 1) := by decide +kernel
theorem dX1_fill_170 : decode cX1_fill 170 = .ok (.aload_n 3, 1) := by decide +kernel
theorem dX1_fill_171 : decode cX1_fill 171 = .ok (.aload_n 1, 1) := by decide +kernel
theorem dX1_fill_172 : decode cX1_fill 172 = .ok (.getfield 52, 3) := by decide +kernel
theorem dX1_fill_175 : decode cX1_fill 175 = .ok (.invokevirtual 55, 3) := by decide +kernel
theorem dX1_fill_178 : decode cX1_fill 178 = .ok (.iload 9, 2) := by decide +kernel
theorem dX1_fill_180 : decode cX1_fill 180 = .ok (.aload_n 1, 1) := by decide +kernel
theorem dX1_fill_181 : decode cX1_fill 181 = .ok (.getfield 43, 3) := by decide +kernel
theorem dX1_fill_184 : decode cX1_fill 184 = .ok (.invokevirtual 58, 3) := by decide +kernel
theorem dX1_fill_187 : decode cX1_fill 187 = .ok (.iinc 7 1, 3) := by decide +kernel
theorem dX1_fill_190 : decode cX1_fill 190 = .ok (.goto (-82), 3) := by decide +kernel
theorem dX1_fill_193 : decode cX1_fill 193 = .ok (.return_, 1) := by decide +kernel
theorem dX1_fillParts_0 : decode cX1_fillParts 0 = .ok (.aload_n 0, 1) := by decide +kernel
theorem dX1_fillParts_1 : decode cX1_fillParts 1 = .ok (.iconst 0, 1) := by decide +kernel
theorem dX1_fillParts_2 : decode cX1_fillParts 2 = .ok (.iconst 1, 1) := by decide +kernel
theorem dX1_fillParts_3 : decode cX1_fillParts 3 = .ok (.iastore, 1) := by decide +kernel
theorem dX1_fillParts_4 : decode cX1_fillParts 4 = .ok (.iconst 1, 1) := by decide +kernel
theorem dX1_fillParts_5 : decode cX1_fillParts 5 = .ok (.istore_n 2, 1) := by decide +kernel
theorem dX1_fillParts_6 : decode cX1_fillParts 6 = .ok (.iload_n 2, 1) := by decide +kernel
theorem dX1_fillParts_7 : decode cX1_fillParts 7 = .ok (.aload_n 0, 1) := by decide +kernel
theorem dX1_fillParts_8 : decode cX1_fillParts 8 = .ok (.arraylength, 1) := by decide +kernel
theorem dX1_fillParts_9 : decode cX1_fillParts 9 = .ok (.if_icmp .ge 19, 3) := by decide +kernel
theorem dX1_fillParts_12 : decode cX1_fillParts 12 = .ok (.aload_n 0, 1) := by decide +kernel
theorem dX1_fillParts_13 : decode cX1_fillParts 13 = .ok (.iload_n 2, 1) := by decide +kernel
theorem dX1_fillParts_14 : decode cX1_fillParts 14 = .ok (.aload_n 0, 1) := by decide +kernel
theorem dX1_fillParts_15 : decode cX1_fillParts 15 = .ok (.iload_n 2, 1) := by decide +kernel
theorem dX1_fillParts_16 : decode cX1_fillParts 16 = .ok (.iconst 1, 1) := by decide +kernel
theorem dX1_fillParts_17 : decode cX1_fillParts 17 = .ok (.isub, 1) := by decide +kernel
theorem dX1_fillParts_18 : decode cX1_fillParts 18 = .ok (.iaload, 1) := by decide +kernel
theorem dX1_fillParts_19 : decode cX1_fillParts 19 = .ok (.iload_n 1, 1) := by decide +kernel
theorem dX1_fillParts_20 : decode cX1_fillParts 20 = .ok (.imul, 1) := by decide +kernel
theorem dX1_fillParts_21 : decode cX1_fillParts 21 = .ok (.iastore, 1) := by decide +kernel
theorem dX1_fillParts_22 : decode cX1_fillParts 22 = .ok (.iinc 2 1, 3) := by decide +kernel
theorem dX1_fillParts_25 : decode cX1_fillParts 25 = .ok (.goto (-19), 3) := by decide +kernel
theorem dX1_fillParts_28 : decode cX1_fillParts 28 = .ok (.return_, 1) := by decide +kernel
theorem dX1_addTo_0 : decode cX1_addTo 0 = .ok (.iconst 0, 1) := by decide +kernel
theorem dX1_addTo_1 : decode cX1_addTo 1 = .ok (.istore 4, 2) := by decide +kernel
theorem dX1_addTo_3 : decode cX1_addTo 3 = .ok (.iload 4, 2) := by decide +kernel
theorem dX1_addTo_5 : decode cX1_addTo 5 = .ok (.iload_n 3, 1) := by decide +kernel
theorem dX1_addTo_6 : decode cX1_addTo 6 = .ok (.if_icmp .ge 29, 3) := by decide +kernel
theorem dX1_addTo_9 : decode cX1_addTo 9 = .ok (.iload_n 1, 1) := by decide +kernel
theorem dX1_addTo_10 : decode cX1_addTo 10 = .ok (.iload 4, 2) := by decide +kernel
theorem dX1_addTo_12 : decode cX1_addTo 12 = .ok (.invokestatic 62, 3) := by decide +kernel
theorem dX1_addTo_15 : decode cX1_addTo 15 = .ok (.ifCond .eq 14, 3) := by decide +kernel
theorem dX1_addTo_18 : decode cX1_addTo 18 = .ok (.aload_n 0, 1) := by decide +kernel
theorem dX1_addTo_19 : decode cX1_addTo 19 = .ok (.getfield 9, 3) := by decide +kernel
theorem dX1_addTo_22 : decode cX1_addTo 22 = .ok (.iload 4, 2) := by decide +kernel
theorem dX1_addTo_24 : decode cX1_addTo 24 = .ok (.dup2, 1) := by decide +kernel
theorem dX1_addTo_25 : decode cX1_addTo 25 = .ok (.iaload, 1) := by decide +kernel
theorem dX1_addTo_26 : decode cX1_addTo 26 = .ok (.iload_n 2, 1) := by decide +kernel
theorem dX1_addTo_27 : decode cX1_addTo 27 = .ok (.iadd, 1) := by decide +kernel
theorem dX1_addTo_28 : decode cX1_addTo 28 = .ok (.iastore, 1) := by decide +kernel
theorem dX1_addTo_29 : decode cX1_addTo 29 = .ok (.iinc 4 1, 3) := by decide +kernel
theorem dX1_addTo_32 : decode cX1_addTo 32 = .ok (.goto (-29), 3) := by decide +kernel
theorem dX1_addTo_35 : decode cX1_addTo 35 = .ok (.return_, 1) := by decide +kernel
theorem dX1_above_0 : decode cX1_above 0 = .ok (.aload_n 0, 1) := by decide +kernel
theorem dX1_above_1 : decode cX1_above 1 = .ok (.getfield 9, 3) := by decide +kernel
theorem dX1_above_4 : decode cX1_above 4 = .ok (.iload_n 1, 1) := by decide +kernel
theorem dX1_above_5 : decode cX1_above 5 = .ok (.iaload, 1) := by decide +kernel
theorem dX1_above_6 : decode cX1_above 6 = .ok (.aload_n 0, 1) := by decide +kernel
theorem dX1_above_7 : decode cX1_above 7 = .ok (.getfield 21, 3) := by decide +kernel
theorem dX1_above_10 : decode cX1_above 10 = .ok (.aload_n 0, 1) := by decide +kernel
theorem dX1_above_11 : decode cX1_above 11 = .ok (.getfield 9, 3) := by decide +kernel
theorem dX1_above_14 : decode cX1_above 14 = .ok (.iload_n 1, 1) := by decide +kernel
theorem dX1_above_15 : decode cX1_above 15 = .ok (.iaload, 1) := by decide +kernel
theorem dX1_above_16 : decode cX1_above 16 = .ok (.invokestatic 66, 3) := by decide +kernel
theorem dX1_above_19 : decode cX1_above 19 = .ok (.idiv, 1) := by decide +kernel
theorem dX1_above_20 : decode cX1_above 20 = .ok (.ireturn, 1) := by decide +kernel
theorem dX1_below_0 : decode cX1_below 0 = .ok (.aload_n 0, 1) := by decide +kernel
theorem dX1_below_1 : decode cX1_below 1 = .ok (.getfield 21, 3) := by decide +kernel
theorem dX1_below_4 : decode cX1_below 4 = .ok (.aload_n 0, 1) := by decide +kernel
theorem dX1_below_5 : decode cX1_below 5 = .ok (.getfield 21, 3) := by decide +kernel
theorem dX1_below_8 : decode cX1_below 8 = .ok (.aload_n 0, 1) := by decide +kernel
theorem dX1_below_9 : decode cX1_below 9 = .ok (.getfield 9, 3) := by decide +kernel
theorem dX1_below_12 : decode cX1_below 12 = .ok (.iload_n 1, 1) := by decide +kernel
theorem dX1_below_13 : decode cX1_below 13 = .ok (.iaload, 1) := by decide +kernel
theorem dX1_below_14 : decode cX1_below 14 = .ok (.invokestatic 66, 3) := by decide +kernel
theorem dX1_below_17 : decode cX1_below 17 = .ok (.idiv, 1) := by decide +kernel
theorem dX1_below_18 : decode cX1_below 18 = .ok (.ireturn, 1) := by decide +kernel
theorem dX1_commonPart_0 : decode cX1_commonPart 0 = .ok (.iload_n 0, 1) := by decide +kernel
theorem dX1_commonPart_1 : decode cX1_commonPart 1 = .ok (.istore_n 2, 1) := by decide +kernel
theorem dX1_commonPart_2 : decode cX1_commonPart 2 = .ok (.iload_n 1, 1) := by decide +kernel
theorem dX1_commonPart_3 : decode cX1_commonPart 3 = .ok (.istore_n 3, 1) := by decide +kernel
theorem dX1_commonPart_4 : decode cX1_commonPart 4 = .ok (.iconst 0, 1) := by decide +kernel
theorem dX1_commonPart_5 : decode cX1_commonPart 5 = .ok (.istore 4, 2) := by decide +kernel
theorem dX1_commonPart_7 : decode cX1_commonPart 7 = .ok (.iload 4, 2) := by decide +kernel
theorem dX1_commonPart_9 : decode cX1_commonPart 9 = .ok (.bipush 64, 2) := by decide +kernel
theorem dX1_commonPart_11 : decode cX1_commonPart 11 = .ok (.if_icmp .ge 23, 3) := by decide +kernel
theorem dX1_commonPart_14 : decode cX1_commonPart 14 = .ok (.iload_n 3, 1) := by decide +kernel
theorem dX1_commonPart_15 : decode cX1_commonPart 15 = .ok (.ifCond .le 19, 3) := by decide +kernel
theorem dX1_commonPart_18 : decode cX1_commonPart 18 = .ok (.iload_n 2, 1) := by decide +kernel
theorem dX1_commonPart_19 : decode cX1_commonPart 19 = .ok (.iload_n 3, 1) := by decide +kernel
theorem dX1_commonPart_20 : decode cX1_commonPart 20 = .ok (.irem, 1) := by decide +kernel
theorem dX1_commonPart_21 : decode cX1_commonPart 21 = .ok (.istore 5, 2) := by decide +kernel
theorem dX1_commonPart_23 : decode cX1_commonPart 23 = .ok (.iload_n 3, 1) := by decide +kernel
theorem dX1_commonPart_24 : decode cX1_commonPart 24 = .ok (.istore_n 2, 1) := by decide +kernel
theorem dX1_commonPart_25 : decode cX1_commonPart 25 = .ok (.iload 5, 2) := by decide +kernel
theorem dX1_commonPart_27 : decode cX1_commonPart 27 = .ok (.istore_n 3, 1) := by decide +kernel
theorem dX1_commonPart_28 : decode cX1_commonPart 28 = .ok (.iinc 4 1, 3) := by decide +kernel
theorem dX1_commonPart_31 : decode cX1_commonPart 31 = .ok (.goto (-24), 3) := by decide +kernel
theorem dX1_commonPart_34 : decode cX1_commonPart 34 = .ok (.iconst 1, 1) := by decide +kernel
theorem dX1_commonPart_35 : decode cX1_commonPart 35 = .ok (.iload_n 2, 1) := by decide +kernel
theorem dX1_commonPart_36 : decode cX1_commonPart 36 = .ok (.invokestatic 70, 3) := by decide +kernel
theorem dX1_commonPart_39 : decode cX1_commonPart 39 = .ok (.ireturn, 1) := by decide +kernel
theorem dX2_init_0 : decode cX2_init 0 = .ok (.aload_n 0, 1) := by decide +kernel
theorem dX2_init_1 : decode cX2_init 1 = .ok (.invokespecial 3, 3) := by decide +kernel
theorem dX2_init_4 : decode cX2_init 4 = .ok (.aload_n 0, 1) := by decide +kernel
theorem dX2_init_5 : decode cX2_init 5 = .ok (.iconst 0, 1) := by decide +kernel
theorem dX2_init_6 : decode cX2_init 6 = .ok (.putfield 9, 3) := by decide +kernel
theorem dX2_init_9 : decode cX2_init 9 = .ok (.aload_n 0, 1) := by decide +kernel
theorem dX2_init_10 : decode cX2_init 10 = .ok (.iconst 0, 1) := by decide +kernel
theorem dX2_init_11 : decode cX2_init 11 = .ok (.putfield 15, 3) := by decide +kernel
theorem dX2_init_14 : decode cX2_init 14 = .ok (.aload_n 0, 1) := by decide +kernel
theorem dX2_init_15 : decode cX2_init 15 = .ok (.iconst 0, 1) := by decide +kernel
theorem dX2_init_16 : decode cX2_init 16 = .ok (.putfield 18, 3) := by decide +kernel
theorem dX2_init_19 : decode cX2_init 19 = .ok (.aload_n 0, 1) := by decide +kernel
theorem dX2_init_20 : decode cX2_init 20 = .ok (.iconst 0, 1) := by decide +kernel
theorem dX2_init_21 : decode cX2_init 21 = .ok (.putfield 21, 3) := by decide +kernel
theorem dX2_init_24 : decode cX2_init 24 = .ok (.aload_n 0, 1) := by decide +kernel
theorem dX2_init_25 : decode cX2_init 25 = .ok (.iconst 0, 1) := by decide +kernel
theorem dX2_init_26 : decode cX2_init 26 = .ok (.putfield 24, 3) := by decide +kernel
theorem dX2_init_29 : decode cX2_init 29 = .ok (.aload_n 0, 1) := by decide +kernel
theorem dX2_init_30 : decode cX2_init 30 = .ok (.iconst 0, 1) := by decide +kernel
theorem dX2_init_31 : decode cX2_init 31 = .ok (.putfield 27, 3) := by decide +kernel
theorem dX2_init_34 : decode cX2_init 34 = .ok (.aload_n 0, 1) := by decide +kernel
theorem dX2_init_35 : decode cX2_init 35 = .ok (.bipush 6, 2) := by decide +kernel
theorem dX2_init_37 : decode cX2_init 37 = .ok (.newarray .int, 2) := by decide +kernel
theorem dX2_init_39 : decode cX2_init 39 = .ok (.putfield 30, 3) := by decide +kernel
theorem dX2_init_42 : decode cX2_init 42 = .ok (.aload_n 0, 1) := by decide +kernel
theorem dX2_init_43 : decode cX2_init 43 = .ok (.bipush 6, 2) := by decide +kernel
theorem dX2_init_45 : decode cX2_init 45 = .ok (.newarray .int, 2) := by decide +kernel
theorem dX2_init_47 : decode cX2_init 47 = .ok (.putfield 34, 3) := by decide +kernel
theorem dX2_init_50 : decode cX2_init 50 = .ok (.aload_n 0, 1) := by decide +kernel
theorem dX2_init_51 : decode cX2_init 51 = .ok (.bipush 6, 2) := by decide +kernel
theorem dX2_init_53 : decode cX2_init 53 = .ok (.newarray .int, 2) := by decide +kernel
theorem dX2_init_55 : decode cX2_init 55 = .ok (.putfield 37, 3) := by decide +kernel
theorem dX2_init_58 : decode cX2_init 58 = .ok (.aload_n 0, 1) := by decide +kernel
theorem dX2_init_59 : decode cX2_init 59 = .ok (.bipush 8, 2) := by decide +kernel
theorem dX2_init_61 : decode cX2_init 61 = .ok (.newarray .int, 2) := by decide +kernel
theorem dX2_init_63 : decode cX2_init 63 = .ok (.putfield 40, 3) := by decide +kernel
theorem dX2_init_66 : decode cX2_init 66 = .ok (.aload_n 0, 1) := by decide +kernel
theorem dX2_init_67 : decode cX2_init 67 = .ok (.bipush 8, 2) := by decide +kernel
theorem dX2_init_69 : decode cX2_init 69 = .ok (.newarray .int, 2) := by decide +kernel
theorem dX2_init_71 : decode cX2_init 71 = .ok (.putfield 43, 3) := by decide +kernel
theorem dX2_init_74 : decode cX2_init 74 = .ok (.aload_n 0, 1) := by decide +kernel
theorem dX2_init_75 : decode cX2_init 75 = .ok (.bipush 8, 2) := by decide +kernel
theorem dX2_init_77 : decode cX2_init 77 = .ok (.newarray .int, 2) := by decide +kernel
theorem dX2_init_79 : decode cX2_init 79 = .ok (.putfield 46, 3) := by decide +kernel
theorem dX2_init_82 : decode cX2_init 82 = .ok (.aload_n 0, 1) := by decide +kernel
theorem dX2_init_83 : decode cX2_init 83 = .ok (.bipush 6, 2) := by decide +kernel
theorem dX2_init_85 : decode cX2_init 85 = .ok (.newarray .int, 2) := by decide +kernel
theorem dX2_init_87 : decode cX2_init 87 = .ok (.putfield 49, 3) := by decide +kernel
theorem dX2_init_90 : decode cX2_init 90 = .ok (.aload_n 0, 1) := by decide +kernel
theorem dX2_init_91 : decode cX2_init 91 = .ok (.bipush 6, 2) := by decide +kernel
theorem dX2_init_93 : decode cX2_init 93 = .ok (.newarray .int, 2) := by decide +kernel
theorem dX2_init_95 : decode cX2_init 95 = .ok (.putfield 52, 3) := by decide +kernel
theorem dX2_init_98 : decode cX2_init 98 = .ok (.aload_n 0, 1) := by decide +kernel
theorem dX2_init_99 : decode cX2_init 99 = .ok (.bipush 6, 2) := by decide +kernel
theorem dX2_init_101 : decode cX2_init 101 = .ok (.newarray .boolean, 2) := by decide +kernel
theorem dX2_init_103 : decode cX2_init 103 = .ok (.putfield 55, 3) := by decide +kernel
theorem dX2_init_106 : decode cX2_init 106 = .ok (.return_, 1) := by decide +kernel
theorem dX2_clear_0 : decode cX2_clear 0 = .ok (.aload_n 0, 1) := by decide +kernel
theorem dX2_clear_1 : decode cX2_clear 1 = .ok (.iconst 0, 1) := by decide +kernel
theorem dX2_clear_2 : decode cX2_clear 2 = .ok (.putfield 9, 3) := by decide +kernel
theorem dX2_clear_5 : decode cX2_clear 5 = .ok (.aload_n 0, 1) := by decide +kernel
theorem dX2_clear_6 : decode cX2_clear 6 = .ok (.iconst 0, 1) := by decide +kernel
theorem dX2_clear_7 : decode cX2_clear 7 = .ok (.putfield 15, 3) := by decide +kernel
theorem dX2_clear_10 : decode cX2_clear 10 = .ok (.aload_n 0, 1) := by decide +kernel
theorem dX2_clear_11 : decode cX2_clear 11 = .ok (.iconst 0, 1) := by decide +kernel
theorem dX2_clear_12 : decode cX2_clear 12 = .ok (.putfield 18, 3) := by decide +kernel
theorem dX2_clear_15 : decode cX2_clear 15 = .ok (.aload_n 0, 1) := by decide +kernel
theorem dX2_clear_16 : decode cX2_clear 16 = .ok (.iconst 0, 1) := by decide +kernel
theorem dX2_clear_17 : decode cX2_clear 17 = .ok (.putfield 21, 3) := by decide +kernel
theorem dX2_clear_20 : decode cX2_clear 20 = .ok (.aload_n 0, 1) := by decide +kernel
theorem dX2_clear_21 : decode cX2_clear 21 = .ok (.iconst 0, 1) := by decide +kernel
theorem dX2_clear_22 : decode cX2_clear 22 = .ok (.putfield 24, 3) := by decide +kernel
theorem dX2_clear_25 : decode cX2_clear 25 = .ok (.aload_n 0, 1) := by decide +kernel
theorem dX2_clear_26 : decode cX2_clear 26 = .ok (.iconst 0, 1) := by decide +kernel
theorem dX2_clear_27 : decode cX2_clear 27 = .ok (.putfield 27, 3) := by decide +kernel
theorem dX2_clear_30 : decode cX2_clear 30 = .ok (.return_, 1) := by decide +kernel
theorem dX2_copyFrom_0 : decode cX2_copyFrom 0 = .ok (.aload_n 0, 1) := by decide +kernel
theorem dX2_copyFrom_1 : decode cX2_copyFrom 1 = .ok (.aload_n 1, 1) := by decide +kernel
theorem dX2_copyFrom_2 : decode cX2_copyFrom 2 = .ok (.getfield 9, 3) := by decide +kernel
theorem dX2_copyFrom_5 : decode cX2_copyFrom 5 = .ok (.putfield 9, 3) := by decide +kernel
theorem dX2_copyFrom_8 : decode cX2_copyFrom 8 = .ok (.aload_n 0, 1) := by decide +kernel
theorem dX2_copyFrom_9 : decode cX2_copyFrom 9 = .ok (.aload_n 1, 1) := by decide +kernel
theorem dX2_copyFrom_10 : decode cX2_copyFrom 10 = .ok (.getfield 15, 3) := by decide +kernel
theorem dX2_copyFrom_13 : decode cX2_copyFrom 13 = .ok (.putfield 15, 3) := by decide +kernel
theorem dX2_copyFrom_16 : decode cX2_copyFrom 16 = .ok (.aload_n 0, 1) := by decide +kernel
theorem dX2_copyFrom_17 : decode cX2_copyFrom 17 = .ok (.aload_n 1, 1) := by decide +kernel
theorem dX2_copyFrom_18 : decode cX2_copyFrom 18 = .ok (.getfield 18, 3) := by decide +kernel
theorem dX2_copyFrom_21 : decode cX2_copyFrom 21 = .ok (.putfield 18, 3) := by decide +kernel
theorem dX2_copyFrom_24 : decode cX2_copyFrom 24 = .ok (.aload_n 0, 1) := by decide +kernel
theorem dX2_copyFrom_25 : decode cX2_copyFrom 25 = .ok (.aload_n 1, 1) := by decide +kernel
theorem dX2_copyFrom_26 : decode cX2_copyFrom 26 = .ok (.getfield 21, 3) := by decide +kernel
theorem dX2_copyFrom_29 : decode cX2_copyFrom 29 = .ok (.putfield 21, 3) := by decide +kernel
theorem dX2_copyFrom_32 : decode cX2_copyFrom 32 = .ok (.aload_n 0, 1) := by decide +kernel
theorem dX2_copyFrom_33 : decode cX2_copyFrom 33 = .ok (.aload_n 1, 1) := by decide +kernel
theorem dX2_copyFrom_34 : decode cX2_copyFrom 34 = .ok (.getfield 24, 3) := by decide +kernel
theorem dX2_copyFrom_37 : decode cX2_copyFrom 37 = .ok (.putfield 24, 3) := by decide +kernel
theorem dX2_copyFrom_40 : decode cX2_copyFrom 40 = .ok (.aload_n 0, 1) := by decide +kernel
theorem dX2_copyFrom_41 : decode cX2_copyFrom 41 = .ok (.aload_n 1, 1) := by decide +kernel
theorem dX2_copyFrom_42 : decode cX2_copyFrom 42 = .ok (.getfield 27, 3) := by decide +kernel
theorem dX2_copyFrom_45 : decode cX2_copyFrom 45 = .ok (.putfield 27, 3) := by decide +kernel
theorem dX2_copyFrom_48 : decode cX2_copyFrom 48 = .ok (.iconst 0, 1) := by decide +kernel
theorem dX2_copyFrom_49 : decode cX2_copyFrom 49 = .ok (.istore_n 2, 1) := by decide +kernel
theorem dX2_copyFrom_50 : decode cX2_copyFrom 50 = .ok (.iload_n 2, 1) := by decide +kernel
theorem dX2_copyFrom_51 : decode cX2_copyFrom 51 = .ok (.aload_n 0, 1) := by decide +kernel
theorem dX2_copyFrom_52 : decode cX2_copyFrom 52 = .ok (.getfield 15, 3) := by decide +kernel
theorem dX2_copyFrom_55 : decode cX2_copyFrom 55 = .ok (.if_icmp .ge 45, 3) := by decide +kernel
theorem dX2_copyFrom_58 : decode cX2_copyFrom 58 = .ok (.aload_n 0, 1) := by decide +kernel
theorem dX2_copyFrom_59 : decode cX2_copyFrom 59 = .ok (.getfield 30, 3) := by decide +kernel
theorem dX2_copyFrom_62 : decode cX2_copyFrom 62 = .ok (.iload_n 2, 1) := by decide +kernel
theorem dX2_copyFrom_63 : decode cX2_copyFrom 63 = .ok (.aload_n 1, 1) := by decide +kernel
theorem dX2_copyFrom_64 : decode cX2_copyFrom 64 = .ok (.getfield 30, 3) := by decide +kernel
theorem dX2_copyFrom_67 : decode cX2_copyFrom 67 = .ok (.iload_n 2, 1) := by decide +kernel
theorem dX2_copyFrom_68 : decode cX2_copyFrom 68 = .ok (.iaload, 1) := by decide +kernel
theorem dX2_copyFrom_69 : decode cX2_copyFrom 69 = .ok (.iastore, 1) := by decide +kernel
theorem dX2_copyFrom_70 : decode cX2_copyFrom 70 = .ok (.aload_n 0, 1) := by decide +kernel
theorem dX2_copyFrom_71 : decode cX2_copyFrom 71 = .ok (.getfield 34, 3) := by decide +kernel
theorem dX2_copyFrom_74 : decode cX2_copyFrom 74 = .ok (.iload_n 2, 1) := by decide +kernel
theorem dX2_copyFrom_75 : decode cX2_copyFrom 75 = .ok (.aload_n 1, 1) := by decide +kernel
theorem dX2_copyFrom_76 : decode cX2_copyFrom 76 = .ok (.getfield 34, 3) := by decide +kernel
theorem dX2_copyFrom_79 : decode cX2_copyFrom 79 = .ok (.iload_n 2, 1) := by decide +kernel
theorem dX2_copyFrom_80 : decode cX2_copyFrom 80 = .ok (.iaload, 1) := by decide +kernel
theorem dX2_copyFrom_81 : decode cX2_copyFrom 81 = .ok (.iastore, 1) := by decide +kernel
theorem dX2_copyFrom_82 : decode cX2_copyFrom 82 = .ok (.aload_n 0, 1) := by decide +kernel
theorem dX2_copyFrom_83 : decode cX2_copyFrom 83 = .ok (.getfield 37, 3) := by decide +kernel
theorem dX2_copyFrom_86 : decode cX2_copyFrom 86 = .ok (.iload_n 2, 1) := by decide +kernel
theorem dX2_copyFrom_87 : decode cX2_copyFrom 87 = .ok (.aload_n 1, 1) := by decide +kernel
theorem dX2_copyFrom_88 : decode cX2_copyFrom 88 = .ok (.getfield 37, 3) := by decide +kernel
theorem dX2_copyFrom_91 : decode cX2_copyFrom 91 = .ok (.iload_n 2, 1) := by decide +kernel
theorem dX2_copyFrom_92 : decode cX2_copyFrom 92 = .ok (.iaload, 1) := by decide +kernel
theorem dX2_copyFrom_93 : decode cX2_copyFrom 93 = .ok (.iastore, 1) := by decide +kernel
theorem dX2_copyFrom_94 : decode cX2_copyFrom 94 = .ok (.iinc 2 1, 3) := by decide +kernel
theorem dX2_copyFrom_97 : decode cX2_copyFrom 97 = .ok (.goto (-47), 3) := by decide +kernel
theorem dX2_copyFrom_100 : decode cX2_copyFrom 100 = .ok (.iconst 0, 1) := by decide +kernel
theorem dX2_copyFrom_101 : decode cX2_copyFrom 101 = .ok (.istore_n 2, 1) := by decide +kernel
theorem dX2_copyFrom_102 : decode cX2_copyFrom 102 = .ok (.iload_n 2, 1) := by decide +kernel
theorem dX2_copyFrom_103 : decode cX2_copyFrom 103 = .ok (.aload_n 0, 1) := by decide +kernel
theorem dX2_copyFrom_104 : decode cX2_copyFrom 104 = .ok (.getfield 18, 3) := by decide +kernel
theorem dX2_copyFrom_107 : decode cX2_copyFrom 107 = .ok (.if_icmp .ge 45, 3) := by decide +kernel
theorem dX2_copyFrom_110 : decode cX2_copyFrom 110 = .ok (.aload_n 0, 1) := by decide +kernel
theorem dX2_copyFrom_111 : decode cX2_copyFrom 111 = .ok (.getfield 40, 3) := by decide +kernel
theorem dX2_copyFrom_114 : decode cX2_copyFrom 114 = .ok (.iload_n 2, 1) := by decide +kernel
theorem dX2_copyFrom_115 : decode cX2_copyFrom 115 = .ok (.aload_n 1, 1) := by decide +kernel
theorem dX2_copyFrom_116 : decode cX2_copyFrom 116 = .ok (.getfield 40, 3) := by decide +kernel
theorem dX2_copyFrom_119 : decode cX2_copyFrom 119 = .ok (.iload_n 2, 1) := by decide +kernel
theorem dX2_copyFrom_120 : decode cX2_copyFrom 120 = .ok (.iaload, 1) := by decide +kernel
theorem dX2_copyFrom_121 : decode cX2_copyFrom 121 = .ok (.iastore, 1) := by decide +kernel
theorem dX2_copyFrom_122 : decode cX2_copyFrom 122 = .ok (.aload_n 0, 1) := by decide +kernel
theorem dX2_copyFrom_123 : decode cX2_copyFrom 123 = .ok (.getfield 43, 3) := by decide +kernel
theorem dX2_copyFrom_126 : decode cX2_copyFrom 126 = .ok (.iload_n 2, 1) := by decide +kernel
theorem dX2_copyFrom_127 : decode cX2_copyFrom 127 = .ok (.aload_n 1, 1) := by decide +kernel
theorem dX2_copyFrom_128 : decode cX2_copyFrom 128 = .ok (.getfield 43, 3) := by decide +kernel
theorem dX2_copyFrom_131 : decode cX2_copyFrom 131 = .ok (.iload_n 2, 1) := by decide +kernel
theorem dX2_copyFrom_132 : decode cX2_copyFrom 132 = .ok (.iaload, 1) := by decide +kernel
theorem dX2_copyFrom_133 : decode cX2_copyFrom 133 = .ok (.iastore, 1) := by decide +kernel
theorem dX2_copyFrom_134 : decode cX2_copyFrom 134 = .ok (.aload_n 0, 1) := by decide +kernel
theorem dX2_copyFrom_135 : decode cX2_copyFrom 135 = .ok (.getfield 46, 3) := by decide +kernel
theorem dX2_copyFrom_138 : decode cX2_copyFrom 138 = .ok (.iload_n 2, 1) := by decide +kernel
theorem dX2_copyFrom_139 : decode cX2_copyFrom 139 = .ok (.aload_n 1, 1) := by decide +kernel
theorem dX2_copyFrom_140 : decode cX2_copyFrom 140 = .ok (.getfield 46, 3) := by decide +kernel
theorem dX2_copyFrom_143 : decode cX2_copyFrom 143 = .ok (.iload_n 2, 1) := by decide +kernel
theorem dX2_copyFrom_144 : decode cX2_copyFrom 144 = .ok (.iaload, 1) := by decide +kernel
theorem dX2_copyFrom_145 : decode cX2_copyFrom 145 = .ok (.iastore, 1) := by decide +kernel
theorem dX2_copyFrom_146 : decode cX2_copyFrom 146 = .ok (.iinc 2 1, 3) := by decide +kernel
theorem dX2_copyFrom_149 : decode cX2_copyFrom 149 = .ok (.goto (-47), 3) := by decide +kernel
theorem dX2_copyFrom_152 : decode cX2_copyFrom 152 = .ok (.iconst 0, 1) := by decide +kernel
theorem dX2_copyFrom_153 : decode cX2_copyFrom 153 = .ok (.istore_n 2, 1) := by decide +kernel
theorem dX2_copyFrom_154 : decode cX2_copyFrom 154 = .ok (.iload_n 2, 1) := by decide +kernel
theorem dX2_copyFrom_155 : decode cX2_copyFrom 155 = .ok (.aload_n 0, 1) := by decide +kernel
theorem dX2_copyFrom_156 : decode cX2_copyFrom 156 = .ok (.getfield 27, 3) := by decide +kernel
theorem dX2_copyFrom_159 : decode cX2_copyFrom 159 = .ok (.if_icmp .ge 45, 3) := by decide +kernel
theorem dX2_copyFrom_162 : decode cX2_copyFrom 162 = .ok (.aload_n 0, 1) := by decide +kernel
theorem dX2_copyFrom_163 : decode cX2_copyFrom 163 = .ok (.getfield 49, 3) := by decide +kernel
theorem dX2_copyFrom_166 : decode cX2_copyFrom 166 = .ok (.iload_n 2, 1) := by decide +kernel
theorem dX2_copyFrom_167 : decode cX2_copyFrom 167 = .ok (.aload_n 1, 1) := by decide +kernel
theorem dX2_copyFrom_168 : decode cX2_copyFrom 168 = .ok (.getfield 49, 3) := by decide +kernel
theorem dX2_copyFrom_171 : decode cX2_copyFrom 171 = .ok (.iload_n 2, 1) := by decide +kernel
theorem dX2_copyFrom_172 : decode cX2_copyFrom 172 = .ok (.iaload, 1) := by decide +kernel
theorem dX2_copyFrom_173 : decode cX2_copyFrom 173 = .ok (.iastore, 1) := by decide +kernel
theorem dX2_copyFrom_174 : decode cX2_copyFrom 174 = .ok (.aload_n 0, 1) := by decide +kernel
theorem dX2_copyFrom_175 : decode cX2_copyFrom 175 = .ok (.getfield 52, 3) := by decide +kernel
theorem dX2_copyFrom_178 : decode cX2_copyFrom 178 = .ok (.iload_n 2, 1) := by decide +kernel
theorem dX2_copyFrom_179 : decode cX2_copyFrom 179 = .ok (.aload_n 1, 1) := by decide +kernel
theorem dX2_copyFrom_180 : decode cX2_copyFrom 180 = .ok (.getfield 52, 3) := by decide +kernel
theorem dX2_copyFrom_183 : decode cX2_copyFrom 183 = .ok (.iload_n 2, 1) := by decide +kernel
theorem dX2_copyFrom_184 : decode cX2_copyFrom 184 = .ok (.iaload, 1) := by decide +kernel
theorem dX2_copyFrom_185 : decode cX2_copyFrom 185 = .ok (.iastore, 1) := by decide +kernel
theorem dX2_copyFrom_186 : decode cX2_copyFrom 186 = .ok (.aload_n 0, 1) := by decide +kernel
theorem dX2_copyFrom_187 : decode cX2_copyFrom 187 = .ok (.getfield 55, 3) := by decide +kernel
theorem dX2_copyFrom_190 : decode cX2_copyFrom 190 = .ok (.iload_n 2, 1) := by decide +kernel
theorem dX2_copyFrom_191 : decode cX2_copyFrom 191 = .ok (.aload_n 1, 1) := by decide +kernel
theorem dX2_copyFrom_192 : decode cX2_copyFrom 192 = .ok (.getfield 55, 3) := by decide +kernel
theorem dX2_copyFrom_195 : decode cX2_copyFrom 195 = .ok (.iload_n 2, 1) := by decide +kernel
theorem dX2_copyFrom_196 : decode cX2_copyFrom 196 = .ok (.baload, 1) := by decide +kernel
theorem dX2_copyFrom_197 : decode cX2_copyFrom 197 = .ok (.bastore, 1) := by decide +kernel
theorem dX2_copyFrom_198 : decode cX2_copyFrom 198 = .ok (.iinc 2 1, 3) := by decide +kernel
theorem dX2_copyFrom_201 : decode cX2_copyFrom 201 = .ok (.goto (-47), 3) := by decide +kernel
theorem dX2_copyFrom_204 : decode cX2_copyFrom 204 = .ok (.return_, 1) := by decide +kernel
theorem dX2_isThere_0 : decode cX2_isThere 0 = .ok (.aload_n 0, 1) := by decide +kernel
theorem dX2_isThere_1 : decode cX2_isThere 1 = .ok (.getfield 15, 3) := by decide +kernel
theorem dX2_isThere_4 : decode cX2_isThere 4 = .ok (.ifCond .le 7, 3) := by decide +kernel
theorem dX2_isThere_7 : decode cX2_isThere 7 = .ok (.iconst 1, 1) := by decide +kernel
theorem dX2_isThere_8 : decode cX2_isThere 8 = .ok (.goto 4, 3) := by decide +kernel
theorem dX2_isThere_11 : decode cX2_isThere 11 = .ok (.iconst 0, 1) := by decide +kernel
theorem dX2_isThere_12 : decode cX2_isThere 12 = .ok (.ireturn, 1) := by decide +kernel
theorem dX2_hasPerson_0 : decode cX2_hasPerson 0 = .ok (.iload_n 1, 1) := by decide +kernel
theorem dX2_hasPerson_1 : decode cX2_hasPerson 1 = .ok (.ifCond .lt 15, 3) := by decide +kernel
theorem dX2_hasPerson_4 : decode cX2_hasPerson 4 = .ok (.iload_n 1, 1) := by decide +kernel
theorem dX2_hasPerson_5 : decode cX2_hasPerson 5 = .ok (.aload_n 0, 1) := by decide +kernel
theorem dX2_hasPerson_6 : decode cX2_hasPerson 6 = .ok (.getfield 15, 3) := by decide +kernel
theorem dX2_hasPerson_9 : decode cX2_hasPerson 9 = .ok (.if_icmp .ge 7, 3) := by decide +kernel
theorem dX2_hasPerson_12 : decode cX2_hasPerson 12 = .ok (.iconst 1, 1) := by decide +kernel
theorem dX2_hasPerson_13 : decode cX2_hasPerson 13 = .ok (.goto 4, 3) := by decide +kernel
theorem dX2_hasPerson_16 : decode cX2_hasPerson 16 = .ok (.iconst 0, 1) := by decide +kernel
theorem dX2_hasPerson_17 : decode cX2_hasPerson 17 = .ok (.ireturn, 1) := by decide +kernel
theorem dX2_hasWrong_0 : decode cX2_hasWrong 0 = .ok (.iload_n 1, 1) := by decide +kernel
theorem dX2_hasWrong_1 : decode cX2_hasWrong 1 = .ok (.ifCond .lt 15, 3) := by decide +kernel
theorem dX2_hasWrong_4 : decode cX2_hasWrong 4 = .ok (.iload_n 1, 1) := by decide +kernel
theorem dX2_hasWrong_5 : decode cX2_hasWrong 5 = .ok (.aload_n 0, 1) := by decide +kernel
theorem dX2_hasWrong_6 : decode cX2_hasWrong 6 = .ok (.getfield 18, 3) := by decide +kernel
theorem dX2_hasWrong_9 : decode cX2_hasWrong 9 = .ok (.if_icmp .ge 7, 3) := by decide +kernel
theorem dX2_hasWrong_12 : decode cX2_hasWrong 12 = .ok (.iconst 1, 1) := by decide +kernel
theorem dX2_hasWrong_13 : decode cX2_hasWrong 13 = .ok (.goto 4, 3) := by decide +kernel
theorem dX2_hasWrong_16 : decode cX2_hasWrong 16 = .ok (.iconst 0, 1) := by decide +kernel
theorem dX2_hasWrong_17 : decode cX2_hasWrong 17 = .ok (.ireturn, 1) := by decide +kernel
theorem dX2_isForgiven_0 : decode cX2_isForgiven 0 = .ok (.aload_n 0, 1) := by decide +kernel
theorem dX2_isForgiven_1 : decode cX2_isForgiven 1 = .ok (.getfield 21, 3) := by decide +kernel
theorem dX2_isForgiven_4 : decode cX2_isForgiven 4 = .ok (.iload_n 1, 1) := by decide +kernel
theorem dX2_isForgiven_5 : decode cX2_isForgiven 5 = .ok (.invokestatic 59, 3) := by decide +kernel
theorem dX2_isForgiven_8 : decode cX2_isForgiven 8 = .ok (.ireturn, 1) := by decide +kernel
theorem dX2_allWarm_0 : decode cX2_allWarm 0 = .ok (.iconst 0, 1) := by decide +kernel
theorem dX2_allWarm_1 : decode cX2_allWarm 1 = .ok (.istore_n 1, 1) := by decide +kernel
theorem dX2_allWarm_2 : decode cX2_allWarm 2 = .ok (.iconst 0, 1) := by decide +kernel
theorem dX2_allWarm_3 : decode cX2_allWarm 3 = .ok (.istore_n 2, 1) := by decide +kernel
theorem dX2_allWarm_4 : decode cX2_allWarm 4 = .ok (.iload_n 2, 1) := by decide +kernel
theorem dX2_allWarm_5 : decode cX2_allWarm 5 = .ok (.aload_n 0, 1) := by decide +kernel
theorem dX2_allWarm_6 : decode cX2_allWarm 6 = .ok (.getfield 15, 3) := by decide +kernel
theorem dX2_allWarm_9 : decode cX2_allWarm 9 = .ok (.if_icmp .ge 18, 3) := by decide +kernel
theorem dX2_allWarm_12 : decode cX2_allWarm 12 = .ok (.iload_n 1, 1) := by decide +kernel
theorem dX2_allWarm_13 : decode cX2_allWarm 13 = .ok (.aload_n 0, 1) := by decide +kernel
theorem dX2_allWarm_14 : decode cX2_allWarm 14 = .ok (.getfield 34, 3) := by decide +kernel
theorem dX2_allWarm_17 : decode cX2_allWarm 17 = .ok (.iload_n 2, 1) := by decide +kernel
theorem dX2_allWarm_18 : decode cX2_allWarm 18 = .ok (.iaload, 1) := by decide +kernel
theorem dX2_allWarm_19 : decode cX2_allWarm 19 = .ok (.iadd, 1) := by decide +kernel
theorem dX2_allWarm_20 : decode cX2_allWarm 20 = .ok (.istore_n 1, 1) := by decide +kernel
theorem dX2_allWarm_21 : decode cX2_allWarm 21 = .ok (.iinc 2 1, 3) := by decide +kernel
theorem dX2_allWarm_24 : decode cX2_allWarm 24 = .ok (.goto (-20), 3) := by decide +kernel
theorem dX2_allWarm_27 : decode cX2_allWarm 27 = .ok (.iload_n 1, 1) := by decide +kernel
theorem dX2_allWarm_28 : decode cX2_allWarm 28 = .ok (.ireturn, 1) := by decide +kernel
theorem dX2_allFroze_0 : decode cX2_allFroze 0 = .ok (.iconst 0, 1) := by decide +kernel
theorem dX2_allFroze_1 : decode cX2_allFroze 1 = .ok (.istore_n 1, 1) := by decide +kernel
theorem dX2_allFroze_2 : decode cX2_allFroze 2 = .ok (.iconst 0, 1) := by decide +kernel
theorem dX2_allFroze_3 : decode cX2_allFroze 3 = .ok (.istore_n 2, 1) := by decide +kernel
theorem dX2_allFroze_4 : decode cX2_allFroze 4 = .ok (.iload_n 2, 1) := by decide +kernel
theorem dX2_allFroze_5 : decode cX2_allFroze 5 = .ok (.aload_n 0, 1) := by decide +kernel
theorem dX2_allFroze_6 : decode cX2_allFroze 6 = .ok (.getfield 15, 3) := by decide +kernel
theorem dX2_allFroze_9 : decode cX2_allFroze 9 = .ok (.if_icmp .ge 18, 3) := by decide +kernel
theorem dX2_allFroze_12 : decode cX2_allFroze 12 = .ok (.iload_n 1, 1) := by decide +kernel
theorem dX2_allFroze_13 : decode cX2_allFroze 13 = .ok (.aload_n 0, 1) := by decide +kernel
theorem dX2_allFroze_14 : decode cX2_allFroze 14 = .ok (.getfield 37, 3) := by decide +kernel
theorem dX2_allFroze_17 : decode cX2_allFroze 17 = .ok (.iload_n 2, 1) := by decide +kernel
theorem dX2_allFroze_18 : decode cX2_allFroze 18 = .ok (.iaload, 1) := by decide +kernel
theorem dX2_allFroze_19 : decode cX2_allFroze 19 = .ok (.iadd, 1) := by decide +kernel
theorem dX2_allFroze_20 : decode cX2_allFroze 20 = .ok (.istore_n 1, 1) := by decide +kernel
theorem dX2_allFroze_21 : decode cX2_allFroze 21 = .ok (.iinc 2 1, 3) := by decide +kernel
theorem dX2_allFroze_24 : decode cX2_allFroze 24 = .ok (.goto (-20), 3) := by decide +kernel
theorem dX2_allFroze_27 : decode cX2_allFroze 27 = .ok (.iload_n 1, 1) := by decide +kernel
theorem dX2_allFroze_28 : decode cX2_allFroze 28 = .ok (.ireturn, 1) := by decide +kernel
theorem dX2_passSunday_0 : decode cX2_passSunday 0 = .ok (.iconst 0, 1) := by decide +kernel
theorem dX2_passSunday_1 : decode cX2_passSunday 1 = .ok (.istore_n 2, 1) := by decide +kernel
theorem dX2_passSunday_2 : decode cX2_passSunday 2 = .ok (.aload_n 0, 1) := by decide +kernel
theorem dX2_passSunday_3 : decode cX2_passSunday 3 = .ok (.dup, 1) := by decide +kernel
theorem dX2_passSunday_4 : decode cX2_passSunday 4 = .ok (.getfield 24, 3) := by decide +kernel
theorem dX2_passSunday_7 : decode cX2_passSunday 7 = .ok (.iconst 1, 1) := by decide +kernel
theorem dX2_passSunday_8 : decode cX2_passSunday 8 = .ok (.iadd, 1) := by decide +kernel
theorem dX2_passSunday_9 : decode cX2_passSunday 9 = .ok (.putfield 24, 3) := by decide +kernel
theorem dX2_passSunday_12 : decode cX2_passSunday 12 = .ok (.iconst 0, 1) := by decide +kernel
theorem dX2_passSunday_13 : decode cX2_passSunday 13 = .ok (.istore_n 3, 1) := by decide +kernel
theorem dX2_passSunday_14 : decode cX2_passSunday 14 = .ok (.iload_n 3, 1) := by decide +kernel
theorem dX2_passSunday_15 : decode cX2_passSunday 15 = .ok (.aload_n 0, 1) := by decide +kernel
theorem dX2_passSunday_16 : decode cX2_passSunday 16 = .ok (.getfield 15, 3) := by decide +kernel
theorem dX2_passSunday_19 : decode cX2_passSunday 19 = .ok (.if_icmp .ge 51, 3) := by decide +kernel
theorem dX2_passSunday_22 : decode cX2_passSunday 22 = .ok (.aload_n 0, 1) := by decide +kernel
theorem dX2_passSunday_23 : decode cX2_passSunday 23 = .ok (.getfield 34, 3) := by decide +kernel
theorem dX2_passSunday_26 : decode cX2_passSunday 26 = .ok (.iload_n 3, 1) := by decide +kernel
theorem dX2_passSunday_27 : decode cX2_passSunday 27 = .ok (.aload_n 0, 1) := by decide +kernel
theorem dX2_passSunday_28 : decode cX2_passSunday 28 = .ok (.getfield 34, 3) := by decide +kernel
theorem dX2_passSunday_31 : decode cX2_passSunday 31 = .ok (.iload_n 3, 1) := by decide +kernel
theorem dX2_passSunday_32 : decode cX2_passSunday 32 = .ok (.iaload, 1) := by decide +kernel
theorem dX2_passSunday_33 : decode cX2_passSunday 33 = .ok (.iload_n 1, 1) := by decide +kernel
theorem dX2_passSunday_34 : decode cX2_passSunday 34 = .ok (.iload_n 3, 1) := by decide +kernel
theorem dX2_passSunday_35 : decode cX2_passSunday 35 = .ok (.invokestatic 59, 3) := by decide +kernel
theorem dX2_passSunday_38 : decode cX2_passSunday 38 = .ok (.invokestatic 63, 3) := by decide +kernel
theorem dX2_passSunday_41 : decode cX2_passSunday 41 = .ok (.iastore, 1) := by decide +kernel
theorem dX2_passSunday_42 : decode cX2_passSunday 42 = .ok (.aload_n 0, 1) := by decide +kernel
theorem dX2_passSunday_43 : decode cX2_passSunday 43 = .ok (.getfield 34, 3) := by decide +kernel
theorem dX2_passSunday_46 : decode cX2_passSunday 46 = .ok (.iload_n 3, 1) := by decide +kernel
theorem dX2_passSunday_47 : decode cX2_passSunday 47 = .ok (.iaload, 1) := by decide +kernel
theorem dX2_passSunday_48 : decode cX2_passSunday 48 = .ok (.ifCond .ne 16, 3) := by decide +kernel
theorem dX2_passSunday_51 : decode cX2_passSunday 51 = .ok (.aload_n 0, 1) := by decide +kernel
theorem dX2_passSunday_52 : decode cX2_passSunday 52 = .ok (.getfield 37, 3) := by decide +kernel
theorem dX2_passSunday_55 : decode cX2_passSunday 55 = .ok (.iload_n 3, 1) := by decide +kernel
theorem dX2_passSunday_56 : decode cX2_passSunday 56 = .ok (.dup2, 1) := by decide +kernel
theorem dX2_passSunday_57 : decode cX2_passSunday 57 = .ok (.iaload, 1) := by decide +kernel
theorem dX2_passSunday_58 : decode cX2_passSunday 58 = .ok (.iconst 1, 1) := by decide +kernel
theorem dX2_passSunday_59 : decode cX2_passSunday 59 = .ok (.iadd, 1) := by decide +kernel
theorem dX2_passSunday_60 : decode cX2_passSunday 60 = .ok (.iastore, 1) := by decide +kernel
theorem dX2_passSunday_61 : decode cX2_passSunday 61 = .ok (.iinc 2 1, 3) := by decide +kernel
theorem dX2_passSunday_64 : decode cX2_passSunday 64 = .ok (.iinc 3 1, 3) := by decide +kernel
theorem dX2_passSunday_67 : decode cX2_passSunday 67 = .ok (.goto (-53), 3) := by decide +kernel
theorem dX2_passSunday_70 : decode cX2_passSunday 70 = .ok (.iload_n 2, 1) := by decide +kernel
theorem dX2_passSunday_71 : decode cX2_passSunday 71 = .ok (.ireturn, 1) := by decide +kernel
theorem dX2_addSeen_0 : decode cX2_addSeen 0 = .ok (.aload_n 0, 1) := by decide +kernel
theorem dX2_addSeen_1 : decode cX2_addSeen 1 = .ok (.getfield 27, 3) := by decide +kernel
theorem dX2_addSeen_4 : decode cX2_addSeen 4 = .ok (.bipush 6, 2) := by decide +kernel
theorem dX2_addSeen_6 : decode cX2_addSeen 6 = .ok (.if_icmp .ge 43, 3) := by decide +kernel
theorem dX2_addSeen_9 : decode cX2_addSeen 9 = .ok (.aload_n 0, 1) := by decide +kernel
theorem dX2_addSeen_10 : decode cX2_addSeen 10 = .ok (.getfield 49, 3) := by decide +kernel
theorem dX2_addSeen_13 : decode cX2_addSeen 13 = .ok (.aload_n 0, 1) := by decide +kernel
theorem dX2_addSeen_14 : decode cX2_addSeen 14 = .ok (.getfield 27, 3) := by decide +kernel
theorem dX2_addSeen_17 : decode cX2_addSeen 17 = .ok (.iload_n 1, 1) := by decide +kernel
theorem dX2_addSeen_18 : decode cX2_addSeen 18 = .ok (.iastore, 1) := by decide +kernel
theorem dX2_addSeen_19 : decode cX2_addSeen 19 = .ok (.aload_n 0, 1) := by decide +kernel
theorem dX2_addSeen_20 : decode cX2_addSeen 20 = .ok (.getfield 52, 3) := by decide +kernel
theorem dX2_addSeen_23 : decode cX2_addSeen 23 = .ok (.aload_n 0, 1) := by decide +kernel
theorem dX2_addSeen_24 : decode cX2_addSeen 24 = .ok (.getfield 27, 3) := by decide +kernel
theorem dX2_addSeen_27 : decode cX2_addSeen 27 = .ok (.iload_n 2, 1) := by decide +kernel
theorem dX2_addSeen_28 : decode cX2_addSeen 28 = .ok (.iastore, 1) := by decide +kernel
theorem dX2_addSeen_29 : decode cX2_addSeen 29 = .ok (.aload_n 0, 1) := by decide +kernel
theorem dX2_addSeen_30 : decode cX2_addSeen 30 = .ok (.getfield 55, 3) := by decide +kernel
theorem dX2_addSeen_33 : decode cX2_addSeen 33 = .ok (.aload_n 0, 1) := by decide +kernel
theorem dX2_addSeen_34 : decode cX2_addSeen 34 = .ok (.getfield 27, 3) := by decide +kernel
theorem dX2_addSeen_37 : decode cX2_addSeen 37 = .ok (.iload_n 3, 1) := by decide +kernel
theorem dX2_addSeen_38 : decode cX2_addSeen 38 = .ok (.bastore, 1) := by decide +kernel
theorem dX2_addSeen_39 : decode cX2_addSeen 39 = .ok (.aload_n 0, 1) := by decide +kernel
theorem dX2_addSeen_40 : decode cX2_addSeen 40 = .ok (.dup, 1) := by decide +kernel
theorem dX2_addSeen_41 : decode cX2_addSeen 41 = .ok (.getfield 27, 3) := by decide +kernel
theorem dX2_addSeen_44 : decode cX2_addSeen 44 = .ok (.iconst 1, 1) := by decide +kernel
theorem dX2_addSeen_45 : decode cX2_addSeen 45 = .ok (.iadd, 1) := by decide +kernel
theorem dX2_addSeen_46 : decode cX2_addSeen 46 = .ok (.putfield 27, 3) := by decide +kernel
theorem dX2_addSeen_49 : decode cX2_addSeen 49 = .ok (.return_, 1) := by decide +kernel
theorem dX3_init_0 : decode cX3_init 0 = .ok (.aload_n 0, 1) := by decide +kernel
theorem dX3_init_1 : decode cX3_init 1 = .ok (.invokespecial 3, 3) := by decide +kernel
theorem dX3_init_4 : decode cX3_init 4 = .ok (.aload_n 0, 1) := by decide +kernel
theorem dX3_init_5 : decode cX3_init 5 = .ok (.bipush 10, 2) := by decide +kernel
theorem dX3_init_7 : decode cX3_init 7 = .ok (.newarray .int, 2) := by decide +kernel
theorem dX3_init_9 : decode cX3_init 9 = .ok (.putfield 9, 3) := by decide +kernel
theorem dX3_init_12 : decode cX3_init 12 = .ok (.aload_n 0, 1) := by decide +kernel
theorem dX3_init_13 : decode cX3_init 13 = .ok (.iconst 0, 1) := by decide +kernel
theorem dX3_init_14 : decode cX3_init 14 = .ok (.putfield 15, 3) := by decide +kernel
theorem dX3_init_17 : decode cX3_init 17 = .ok (.return_, 1) := by decide +kernel
theorem dX3_fill_0 : decode cX3_fill 0 = .ok (.aload_n 3, 1) := by decide +kernel
theorem dX3_fill_1 : decode cX3_fill 1 = .ok (.aload_n 1, 1) := by decide +kernel
theorem dX3_fill_2 : decode cX3_fill 2 = .ok (.invokevirtual 19, 3) := by decide +kernel
theorem dX3_fill_5 : decode cX3_fill 5 = .ok (.aload_n 0, 1) := by decide +kernel
theorem dX3_fill_6 : decode cX3_fill 6 = .ok (.iconst 0, 1) := by decide +kernel
theorem dX3_fill_7 : decode cX3_fill 7 = .ok (.putfield 15, 3) := by decide +kernel
theorem dX3_fill_10 : decode cX3_fill 10 = .ok (.iconst 1, 1) := by decide +kernel
theorem dX3_fill_11 : decode cX3_fill 11 = .ok (.istore 5, 2) := by decide +kernel
theorem dX3_fill_13 : decode cX3_fill 13 = .ok (.iload 5, 2) := by decide +kernel
theorem dX3_fill_15 : decode cX3_fill 15 = .ok (.bipush 9, 2) := by decide +kernel
theorem dX3_fill_17 : decode cX3_fill 17 = .ok (.if_icmp .gt 75, 3) := by decide +kernel
theorem dX3_fill_20 : decode cX3_fill 20 = .ok (.aload_n 3, 1) := by decide +kernel
theorem dX3_fill_21 : decode cX3_fill 21 = .ok (.getfield 25, 3) := by decide +kernel
theorem dX3_fill_24 : decode cX3_fill 24 = .ok (.iload_n 2, 1) := by decide +kernel
theorem dX3_fill_25 : decode cX3_fill 25 = .ok (.iload 5, 2) := by decide +kernel
theorem dX3_fill_27 : decode cX3_fill 27 = .ok (.iastore, 1) := by decide +kernel
theorem dX3_fill_28 : decode cX3_fill 28 = .ok (.aload 4, 2) := by decide +kernel
theorem dX3_fill_30 : decode cX3_fill 30 = .ok (.aload_n 3, 1) := by decide +kernel
theorem dX3_fill_31 : decode cX3_fill 31 = .ok (.aload_n 3, 1) := by decide +kernel
theorem dX3_fill_32 : decode cX3_fill 32 = .ok (.getfield 28, 3) := by decide +kernel
theorem dX3_fill_35 : decode cX3_fill 35 = .ok (.invokevirtual 31, 3) := by decide +kernel
theorem dX3_fill_38 : decode cX3_fill 38 = .ok (.aload_n 0, 1) := by decide +kernel
theorem dX3_fill_39 : decode cX3_fill 39 = .ok (.getfield 9, 3) := by decide +kernel
theorem dX3_fill_42 : decode cX3_fill 42 = .ok (.iload 5, 2) := by decide +kernel
theorem dX3_fill_44 : decode cX3_fill 44 = .ok (.aload 4, 2) := by decide +kernel
theorem dX3_fill_46 : decode cX3_fill 46 = .ok (.aload_n 3, 1) := by decide +kernel
theorem dX3_fill_47 : decode cX3_fill 47 = .ok (.getfield 37, 3) := by decide +kernel
theorem dX3_fill_50 : decode cX3_fill 50 = .ok (.iload_n 2, 1) := by decide +kernel
theorem dX3_fill_51 : decode cX3_fill 51 = .ok (.iaload, 1) := by decide +kernel
theorem dX3_fill_52 : decode cX3_fill 52 = .ok (.invokevirtual 40, 3) := by decide +kernel
theorem dX3_fill_55 : decode cX3_fill 55 = .ok (.iastore, 1) := by decide +kernel
theorem dX3_fill_56 : decode cX3_fill 56 = .ok (.aload_n 3, 1) := by decide +kernel
theorem dX3_fill_57 : decode cX3_fill 57 = .ok (.iload_n 2, 1) := by decide +kernel
theorem dX3_fill_58 : decode cX3_fill 58 = .ok (.aload_n 0, 1) := by decide +kernel
theorem dX3_fill_59 : decode cX3_fill 59 = .ok (.getfield 9, 3) := by decide +kernel
theorem dX3_fill_62 : decode cX3_fill 62 = .ok (.iload 5, 2) := by decide +kernel
theorem dX3_fill_64 : decode cX3_fill 64 = .ok (.iaload, 1) := by decide +kernel
theorem dX3_fill_65 : decode cX3_fill 65 = .ok (.invokestatic 44, 3) := by decide +kernel
theorem dX3_fill_68 : decode cX3_fill 68 = .ok (.ifCond .eq 18, 3) := by decide +kernel
theorem dX3_fill_71 : decode cX3_fill 71 = .ok (.aload_n 0, 1) := by decide +kernel
theorem dX3_fill_72 : decode cX3_fill 72 = .ok (.dup, 1) := by decide +kernel
theorem dX3_fill_73 : decode cX3_fill 73 = .ok (.getfield 15, 3) := by decide +kernel
theorem dX3_fill_76 : decode cX3_fill 76 = .ok (.iconst 1, 1) := by decide +kernel
theorem dX3_fill_77 : decode cX3_fill 77 = .ok (.iload 5, 2) := by decide +kernel
theorem dX3_fill_79 : decode cX3_fill 79 = .ok (.iconst 1, 1) := by decide +kernel
theorem dX3_fill_80 : decode cX3_fill 80 = .ok (.isub, 1) := by decide +kernel
theorem dX3_fill_81 : decode cX3_fill 81 = .ok (.ishl, 1) := by decide +kernel
theorem dX3_fill_82 : decode cX3_fill 82 = .ok (.ior, 1) := by decide +kernel
theorem dX3_fill_83 : decode cX3_fill 83 = .ok (.putfield 15, 3) := by decide +kernel
theorem dX3_fill_86 : decode cX3_fill 86 = .ok (.iinc 5 1, 3) := by decide +kernel
theorem dX3_fill_89 : decode cX3_fill 89 = .ok (.goto (-76), 3) := by decide +kernel
theorem dX3_fill_92 : decode cX3_fill 92 = .ok (.return_, 1) := by decide +kernel
theorem dX3_isAsSeen_0 : decode cX3_isAsSeen 0 = .ok (.iconst 0, 1) := by decide +kernel
theorem dX3_isAsSeen_1 : decode cX3_isAsSeen 1 = .ok (.istore_n 3, 1) := by decide +kernel
theorem dX3_isAsSeen_2 : decode cX3_isAsSeen 2 = .ok (.iload_n 3, 1) := by decide +kernel
theorem dX3_isAsSeen_3 : decode cX3_isAsSeen 3 = .ok (.aload_n 0, 1) := by decide +kernel
theorem dX3_isAsSeen_4 : decode cX3_isAsSeen 4 = .ok (.getfield 48, 3) := by decide +kernel
theorem dX3_isAsSeen_7 : decode cX3_isAsSeen 7 = .ok (.if_icmp .ge 45, 3) := by decide +kernel
theorem dX3_isAsSeen_10 : decode cX3_isAsSeen 10 = .ok (.aload_n 0, 1) := by decide +kernel
theorem dX3_isAsSeen_11 : decode cX3_isAsSeen 11 = .ok (.getfield 51, 3) := by decide +kernel
theorem dX3_isAsSeen_14 : decode cX3_isAsSeen 14 = .ok (.iload_n 3, 1) := by decide +kernel
theorem dX3_isAsSeen_15 : decode cX3_isAsSeen 15 = .ok (.iaload, 1) := by decide +kernel
theorem dX3_isAsSeen_16 : decode cX3_isAsSeen 16 = .ok (.iload_n 1, 1) := by decide +kernel
theorem dX3_isAsSeen_17 : decode cX3_isAsSeen 17 = .ok (.if_icmp .ne 29, 3) := by decide +kernel
theorem dX3_isAsSeen_20 : decode cX3_isAsSeen 20 = .ok (.iload_n 2, 1) := by decide +kernel
theorem dX3_isAsSeen_21 : decode cX3_isAsSeen 21 = .ok (.aload_n 0, 1) := by decide +kernel
theorem dX3_isAsSeen_22 : decode cX3_isAsSeen 22 = .ok (.getfield 54, 3) := by decide +kernel
theorem dX3_isAsSeen_25 : decode cX3_isAsSeen 25 = .ok (.iload_n 3, 1) := by decide +kernel
theorem dX3_isAsSeen_26 : decode cX3_isAsSeen 26 = .ok (.iaload, 1) := by decide +kernel
theorem dX3_isAsSeen_27 : decode cX3_isAsSeen 27 = .ok (.if_icmp .ge 7, 3) := by decide +kernel
theorem dX3_isAsSeen_30 : decode cX3_isAsSeen 30 = .ok (.iconst 1, 1) := by decide +kernel
theorem dX3_isAsSeen_31 : decode cX3_isAsSeen 31 = .ok (.goto 4, 3) := by decide +kernel
theorem dX3_isAsSeen_34 : decode cX3_isAsSeen 34 = .ok (.iconst 0, 1) := by decide +kernel
theorem dX3_isAsSeen_35 : decode cX3_isAsSeen 35 = .ok (.aload_n 0, 1) := by decide +kernel
theorem dX3_isAsSeen_36 : decode cX3_isAsSeen 36 = .ok (.getfield 57, 3) := by decide +kernel
theorem dX3_isAsSeen_39 : decode cX3_isAsSeen 39 = .ok (.iload_n 3, 1) := by decide +kernel
theorem dX3_isAsSeen_40 : decode cX3_isAsSeen 40 = .ok (.baload, 1) := by decide +kernel
theorem dX3_isAsSeen_41 : decode cX3_isAsSeen 41 = .ok (.if_icmp .eq 5, 3) := by decide +kernel
theorem dX3_isAsSeen_44 : decode cX3_isAsSeen 44 = .ok (.iconst 0, 1) := by decide +kernel
theorem dX3_isAsSeen_45 : decode cX3_isAsSeen 45 = .ok (.ireturn, 1) := by decide +kernel
theorem dX3_isAsSeen_46 : decode cX3_isAsSeen 46 = .ok (.iinc 3 1, 3) := by decide +kernel
theorem dX3_isAsSeen_49 : decode cX3_isAsSeen 49 = .ok (.goto (-47), 3) := by decide +kernel
theorem dX3_isAsSeen_52 : decode cX3_isAsSeen 52 = .ok (.iconst 1, 1) := by decide +kernel
theorem dX3_isAsSeen_53 : decode cX3_isAsSeen 53 = .ok (.ireturn, 1) := by decide +kernel
theorem dX3_bestRoom_0 : decode cX3_bestRoom 0 = .ok (.aload_n 0, 1) := by decide +kernel
theorem dX3_bestRoom_1 : decode cX3_bestRoom 1 = .ok (.getfield 15, 3) := by decide +kernel
theorem dX3_bestRoom_4 : decode cX3_bestRoom 4 = .ok (.ifCond .ne 5, 3) := by decide +kernel
theorem dX3_bestRoom_7 : decode cX3_bestRoom 7 = .ok (.iconst (-1), 1) := by decide +kernel
theorem dX3_bestRoom_8 : decode cX3_bestRoom 8 = .ok (.ireturn, 1) := by decide +kernel
theorem dX3_bestRoom_9 : decode cX3_bestRoom 9 = .ok (.iconst 1, 1) := by decide +kernel
theorem dX3_bestRoom_10 : decode cX3_bestRoom 10 = .ok (.istore_n 1, 1) := by decide +kernel
theorem dX3_bestRoom_11 : decode cX3_bestRoom 11 = .ok (.iconst 2, 1) := by decide +kernel
theorem dX3_bestRoom_12 : decode cX3_bestRoom 12 = .ok (.istore_n 2, 1) := by decide +kernel
theorem dX3_bestRoom_13 : decode cX3_bestRoom 13 = .ok (.iload_n 2, 1) := by decide +kernel
theorem dX3_bestRoom_14 : decode cX3_bestRoom 14 = .ok (.bipush 6, 2) := by decide +kernel
theorem dX3_bestRoom_16 : decode cX3_bestRoom 16 = .ok (.if_icmp .gt 24, 3) := by decide +kernel
theorem dX3_bestRoom_19 : decode cX3_bestRoom 19 = .ok (.aload_n 0, 1) := by decide +kernel
theorem dX3_bestRoom_20 : decode cX3_bestRoom 20 = .ok (.iload_n 2, 1) := by decide +kernel
theorem dX3_bestRoom_21 : decode cX3_bestRoom 21 = .ok (.invokevirtual 61, 3) := by decide +kernel
theorem dX3_bestRoom_24 : decode cX3_bestRoom 24 = .ok (.aload_n 0, 1) := by decide +kernel
theorem dX3_bestRoom_25 : decode cX3_bestRoom 25 = .ok (.iload_n 1, 1) := by decide +kernel
theorem dX3_bestRoom_26 : decode cX3_bestRoom 26 = .ok (.invokevirtual 61, 3) := by decide +kernel
theorem dX3_bestRoom_29 : decode cX3_bestRoom 29 = .ok (.if_icmp .ge 5, 3) := by decide +kernel
theorem dX3_bestRoom_32 : decode cX3_bestRoom 32 = .ok (.iload_n 2, 1) := by decide +kernel
theorem dX3_bestRoom_33 : decode cX3_bestRoom 33 = .ok (.istore_n 1, 1) := by decide +kernel
theorem dX3_bestRoom_34 : decode cX3_bestRoom 34 = .ok (.iinc 2 1, 3) := by decide +kernel
theorem dX3_bestRoom_37 : decode cX3_bestRoom 37 = .ok (.goto (-24), 3) := by decide +kernel
theorem dX3_bestRoom_40 : decode cX3_bestRoom 40 = .ok (.iload_n 1, 1) := by decide +kernel
theorem dX3_bestRoom_41 : decode cX3_bestRoom 41 = .ok (.ireturn, 1) := by decide +kernel
theorem dX3_leftAtWorst_0 : decode cX3_leftAtWorst 0 = .ok (.iconst 0, 1) := by decide +kernel
theorem dX3_leftAtWorst_1 : decode cX3_leftAtWorst 1 = .ok (.istore_n 2, 1) := by decide +kernel
theorem dX3_leftAtWorst_2 : decode cX3_leftAtWorst 2 = .ok (.iconst 1, 1) := by decide +kernel
theorem dX3_leftAtWorst_3 : decode cX3_leftAtWorst 3 = .ok (.istore_n 3, 1) := by decide +kernel
theorem dX3_leftAtWorst_4 : decode cX3_leftAtWorst 4 = .ok (.iload_n 3, 1) := by decide +kernel
theorem dX3_leftAtWorst_5 : decode cX3_leftAtWorst 5 = .ok (.bipush 9, 2) := by decide +kernel
theorem dX3_leftAtWorst_7 : decode cX3_leftAtWorst 7 = .ok (.if_icmp .gt 35, 3) := by decide +kernel
theorem dX3_leftAtWorst_10 : decode cX3_leftAtWorst 10 = .ok (.aload_n 0, 1) := by decide +kernel
theorem dX3_leftAtWorst_11 : decode cX3_leftAtWorst 11 = .ok (.getfield 15, 3) := by decide +kernel
theorem dX3_leftAtWorst_14 : decode cX3_leftAtWorst 14 = .ok (.iload_n 3, 1) := by decide +kernel
theorem dX3_leftAtWorst_15 : decode cX3_leftAtWorst 15 = .ok (.iconst 1, 1) := by decide +kernel
theorem dX3_leftAtWorst_16 : decode cX3_leftAtWorst 16 = .ok (.isub, 1) := by decide +kernel
theorem dX3_leftAtWorst_17 : decode cX3_leftAtWorst 17 = .ok (.invokestatic 64, 3) := by decide +kernel
theorem dX3_leftAtWorst_20 : decode cX3_leftAtWorst 20 = .ok (.ifCond .eq 16, 3) := by decide +kernel
theorem dX3_leftAtWorst_23 : decode cX3_leftAtWorst 23 = .ok (.aload_n 0, 1) := by decide +kernel
theorem dX3_leftAtWorst_24 : decode cX3_leftAtWorst 24 = .ok (.getfield 9, 3) := by decide +kernel
theorem dX3_leftAtWorst_27 : decode cX3_leftAtWorst 27 = .ok (.iload_n 3, 1) := by decide +kernel
theorem dX3_leftAtWorst_28 : decode cX3_leftAtWorst 28 = .ok (.iaload, 1) := by decide +kernel
theorem dX3_leftAtWorst_29 : decode cX3_leftAtWorst 29 = .ok (.iload_n 1, 1) := by decide +kernel
theorem dX3_leftAtWorst_30 : decode cX3_leftAtWorst 30 = .ok (.if_icmp .ge 6, 3) := by decide +kernel
theorem dX3_leftAtWorst_33 : decode cX3_leftAtWorst 33 = .ok (.iinc 2 1, 3) := by decide +kernel
theorem dX3_leftAtWorst_36 : decode cX3_leftAtWorst 36 = .ok (.iinc 3 1, 3) := by decide +kernel
theorem dX3_leftAtWorst_39 : decode cX3_leftAtWorst 39 = .ok (.goto (-35), 3) := by decide +kernel
theorem dX3_leftAtWorst_42 : decode cX3_leftAtWorst 42 = .ok (.iload_n 2, 1) := by decide +kernel
theorem dX3_leftAtWorst_43 : decode cX3_leftAtWorst 43 = .ok (.aload_n 0, 1) := by decide +kernel
theorem dX3_leftAtWorst_44 : decode cX3_leftAtWorst 44 = .ok (.getfield 15, 3) := by decide +kernel
theorem dX3_leftAtWorst_47 : decode cX3_leftAtWorst 47 = .ok (.invokestatic 68, 3) := by decide +kernel
theorem dX3_leftAtWorst_50 : decode cX3_leftAtWorst 50 = .ok (.iload_n 2, 1) := by decide +kernel
theorem dX3_leftAtWorst_51 : decode cX3_leftAtWorst 51 = .ok (.isub, 1) := by decide +kernel
theorem dX3_leftAtWorst_52 : decode cX3_leftAtWorst 52 = .ok (.invokestatic 73, 3) := by decide +kernel
theorem dX3_leftAtWorst_55 : decode cX3_leftAtWorst 55 = .ok (.ireturn, 1) := by decide +kernel
theorem dX4_init_0 : decode cX4_init 0 = .ok (.aload_n 0, 1) := by decide +kernel
theorem dX4_init_1 : decode cX4_init 1 = .ok (.invokespecial 3, 3) := by decide +kernel
theorem dX4_init_4 : decode cX4_init 4 = .ok (.aload_n 0, 1) := by decide +kernel
theorem dX4_init_5 : decode cX4_init 5 = .ok (.bipush 6, 2) := by decide +kernel
theorem dX4_init_7 : decode cX4_init 7 = .ok (.newarray .int, 2) := by decide +kernel
theorem dX4_init_9 : decode cX4_init 9 = .ok (.putfield 9, 3) := by decide +kernel
theorem dX4_init_12 : decode cX4_init 12 = .ok (.aload_n 0, 1) := by decide +kernel
theorem dX4_init_13 : decode cX4_init 13 = .ok (.iconst 0, 1) := by decide +kernel
theorem dX4_init_14 : decode cX4_init 14 = .ok (.putfield 15, 3) := by decide +kernel
theorem dX4_init_17 : decode cX4_init 17 = .ok (.return_, 1) := by decide +kernel
theorem dX4_fill_0 : decode cX4_fill 0 = .ok (.aload_n 0, 1) := by decide +kernel
theorem dX4_fill_1 : decode cX4_fill 1 = .ok (.aload_n 1, 1) := by decide +kernel
theorem dX4_fill_2 : decode cX4_fill 2 = .ok (.getfield 19, 3) := by decide +kernel
theorem dX4_fill_5 : decode cX4_fill 5 = .ok (.putfield 15, 3) := by decide +kernel
theorem dX4_fill_8 : decode cX4_fill 8 = .ok (.iconst 0, 1) := by decide +kernel
theorem dX4_fill_9 : decode cX4_fill 9 = .ok (.istore_n 3, 1) := by decide +kernel
theorem dX4_fill_10 : decode cX4_fill 10 = .ok (.iload_n 3, 1) := by decide +kernel
theorem dX4_fill_11 : decode cX4_fill 11 = .ok (.aload_n 0, 1) := by decide +kernel
theorem dX4_fill_12 : decode cX4_fill 12 = .ok (.getfield 15, 3) := by decide +kernel
theorem dX4_fill_15 : decode cX4_fill 15 = .ok (.if_icmp .ge 16, 3) := by decide +kernel
theorem dX4_fill_18 : decode cX4_fill 18 = .ok (.aload_n 0, 1) := by decide +kernel
theorem dX4_fill_19 : decode cX4_fill 19 = .ok (.getfield 9, 3) := by decide +kernel
theorem dX4_fill_22 : decode cX4_fill 22 = .ok (.iload_n 3, 1) := by decide +kernel
theorem dX4_fill_23 : decode cX4_fill 23 = .ok (.iconst 0, 1) := by decide +kernel
theorem dX4_fill_24 : decode cX4_fill 24 = .ok (.iastore, 1) := by decide +kernel
theorem dX4_fill_25 : decode cX4_fill 25 = .ok (.iinc 3 1, 3) := by decide +kernel
theorem dX4_fill_28 : decode cX4_fill 28 = .ok (.goto (-18), 3) := by decide +kernel
theorem dX4_fill_31 : decode cX4_fill 31 = .ok (.iconst 0, 1) := by decide +kernel
theorem dX4_fill_32 : decode cX4_fill 32 = .ok (.istore_n 3, 1) := by decide +kernel
theorem dX4_fill_33 : decode cX4_fill 33 = .ok (.iload_n 3, 1) := by decide +kernel
theorem dX4_fill_34 : decode cX4_fill 34 = .ok (.aload_n 1, 1) := by decide +kernel
theorem dX4_fill_35 : decode cX4_fill 35 = .ok (.getfield 22, 3) := by decide +kernel
theorem dX4_fill_38 : decode cX4_fill 38 = .ok (.if_icmp .ge 39, 3) := by decide +kernel
theorem dX4_fill_41 : decode cX4_fill 41 = .ok (.iload_n 2, 1) := by decide +kernel
theorem dX4_fill_42 : decode cX4_fill 42 = .ok (.iload_n 3, 1) := by decide +kernel
theorem dX4_fill_43 : decode cX4_fill 43 = .ok (.invokestatic 25, 3) := by decide +kernel
theorem dX4_fill_46 : decode cX4_fill 46 = .ok (.ifCond .ne 25, 3) := by decide +kernel
theorem dX4_fill_49 : decode cX4_fill 49 = .ok (.aload_n 0, 1) := by decide +kernel
theorem dX4_fill_50 : decode cX4_fill 50 = .ok (.getfield 9, 3) := by decide +kernel
theorem dX4_fill_53 : decode cX4_fill 53 = .ok (.aload_n 1, 1) := by decide +kernel
theorem dX4_fill_54 : decode cX4_fill 54 = .ok (.getfield 29, 3) := by decide +kernel
theorem dX4_fill_57 : decode cX4_fill 57 = .ok (.iload_n 3, 1) := by decide +kernel
theorem dX4_fill_58 : decode cX4_fill 58 = .ok (.iaload, 1) := by decide +kernel
theorem dX4_fill_59 : decode cX4_fill 59 = .ok (.dup2, 1) := by decide +kernel
theorem dX4_fill_60 : decode cX4_fill 60 = .ok (.iaload, 1) := by decide +kernel
theorem dX4_fill_61 : decode cX4_fill 61 = .ok (.iconst 1, 1) := by decide +kernel
theorem dX4_fill_62 : decode cX4_fill 62 = .ok (.aload_n 1, 1) := by decide +kernel
theorem dX4_fill_63 : decode cX4_fill 63 = .ok (.getfield 32, 3) := by decide +kernel
theorem dX4_fill_66 : decode cX4_fill 66 = .ok (.iload_n 3, 1) := by decide +kernel
theorem dX4_fill_67 : decode cX4_fill 67 = .ok (.iaload, 1) := by decide +kernel
theorem dX4_fill_68 : decode cX4_fill 68 = .ok (.ishl, 1) := by decide +kernel
theorem dX4_fill_69 : decode cX4_fill 69 = .ok (.ior, 1) := by decide +kernel
theorem dX4_fill_70 : decode cX4_fill 70 = .ok (.iastore, 1) := by decide +kernel
theorem dX4_fill_71 : decode cX4_fill 71 = .ok (.iinc 3 1, 3) := by decide +kernel
theorem dX4_fill_74 : decode cX4_fill 74 = .ok (.goto (-41), 3) := by decide +kernel
theorem dX4_fill_77 : decode cX4_fill 77 = .ok (.return_, 1) := by decide +kernel
theorem dX4_fewest_0 : decode cX4_fewest 0 = .ok (.aload_n 0, 1) := by decide +kernel
theorem dX4_fewest_1 : decode cX4_fewest 1 = .ok (.getfield 9, 3) := by decide +kernel
theorem dX4_fewest_4 : decode cX4_fewest 4 = .ok (.iload_n 1, 1) := by decide +kernel
theorem dX4_fewest_5 : decode cX4_fewest 5 = .ok (.iaload, 1) := by decide +kernel
theorem dX4_fewest_6 : decode cX4_fewest 6 = .ok (.istore_n 3, 1) := by decide +kernel
theorem dX4_fewest_7 : decode cX4_fewest 7 = .ok (.iconst 1, 1) := by decide +kernel
theorem dX4_fewest_8 : decode cX4_fewest 8 = .ok (.istore 4, 2) := by decide +kernel
theorem dX4_fewest_10 : decode cX4_fewest 10 = .ok (.iload 4, 2) := by decide +kernel
theorem dX4_fewest_12 : decode cX4_fewest 12 = .ok (.aload_n 0, 1) := by decide +kernel
theorem dX4_fewest_13 : decode cX4_fewest 13 = .ok (.getfield 15, 3) := by decide +kernel
theorem dX4_fewest_16 : decode cX4_fewest 16 = .ok (.if_icmp .gt 26, 3) := by decide +kernel
theorem dX4_fewest_19 : decode cX4_fewest 19 = .ok (.iload_n 3, 1) := by decide +kernel
theorem dX4_fewest_20 : decode cX4_fewest 20 = .ok (.iload_n 2, 1) := by decide +kernel
theorem dX4_fewest_21 : decode cX4_fewest 21 = .ok (.invokestatic 25, 3) := by decide +kernel
theorem dX4_fewest_24 : decode cX4_fewest 24 = .ok (.ifCond .eq 6, 3) := by decide +kernel
theorem dX4_fewest_27 : decode cX4_fewest 27 = .ok (.iload 4, 2) := by decide +kernel
theorem dX4_fewest_29 : decode cX4_fewest 29 = .ok (.ireturn, 1) := by decide +kernel
theorem dX4_fewest_30 : decode cX4_fewest 30 = .ok (.aload_n 0, 1) := by decide +kernel
theorem dX4_fewest_31 : decode cX4_fewest 31 = .ok (.iload_n 3, 1) := by decide +kernel
theorem dX4_fewest_32 : decode cX4_fewest 32 = .ok (.invokevirtual 35, 3) := by decide +kernel
theorem dX4_fewest_35 : decode cX4_fewest 35 = .ok (.istore_n 3, 1) := by decide +kernel
theorem dX4_fewest_36 : decode cX4_fewest 36 = .ok (.iinc 4 1, 3) := by decide +kernel
theorem dX4_fewest_39 : decode cX4_fewest 39 = .ok (.goto (-29), 3) := by decide +kernel
theorem dX4_fewest_42 : decode cX4_fewest 42 = .ok (.iconst (-1), 1) := by decide +kernel
theorem dX4_fewest_43 : decode cX4_fewest 43 = .ok (.ireturn, 1) := by decide +kernel
theorem dX4_oneFurther_0 : decode cX4_oneFurther 0 = .ok (.iload_n 1, 1) := by decide +kernel
theorem dX4_oneFurther_1 : decode cX4_oneFurther 1 = .ok (.istore_n 2, 1) := by decide +kernel
theorem dX4_oneFurther_2 : decode cX4_oneFurther 2 = .ok (.iconst 0, 1) := by decide +kernel
theorem dX4_oneFurther_3 : decode cX4_oneFurther 3 = .ok (.istore_n 3, 1) := by decide +kernel
theorem dX4_oneFurther_4 : decode cX4_oneFurther 4 = .ok (.iload_n 3, 1) := by decide +kernel
theorem dX4_oneFurther_5 : decode cX4_oneFurther 5 = .ok (.aload_n 0, 1) := by decide +kernel
theorem dX4_oneFurther_6 : decode cX4_oneFurther 6 = .ok (.getfield 15, 3) := by decide +kernel
theorem dX4_oneFurther_9 : decode cX4_oneFurther 9 = .ok (.if_icmp .ge 26, 3) := by decide +kernel
theorem dX4_oneFurther_12 : decode cX4_oneFurther 12 = .ok (.iload_n 1, 1) := by decide +kernel
theorem dX4_oneFurther_13 : decode cX4_oneFurther 13 = .ok (.iload_n 3, 1) := by decide +kernel
theorem dX4_oneFurther_14 : decode cX4_oneFurther 14 = .ok (.invokestatic 25, 3) := by decide +kernel
theorem dX4_oneFurther_17 : decode cX4_oneFurther 17 = .ok (.ifCond .eq 12, 3) := by decide +kernel
theorem dX4_oneFurther_20 : decode cX4_oneFurther 20 = .ok (.iload_n 2, 1) := by decide +kernel
theorem dX4_oneFurther_21 : decode cX4_oneFurther 21 = .ok (.aload_n 0, 1) := by decide +kernel
theorem dX4_oneFurther_22 : decode cX4_oneFurther 22 = .ok (.getfield 9, 3) := by decide +kernel
theorem dX4_oneFurther_25 : decode cX4_oneFurther 25 = .ok (.iload_n 3, 1) := by decide +kernel
theorem dX4_oneFurther_26 : decode cX4_oneFurther 26 = .ok (.iaload, 1) := by decide +kernel
theorem dX4_oneFurther_27 : decode cX4_oneFurther 27 = .ok (.ior, 1) := by decide +kernel
theorem dX4_oneFurther_28 : decode cX4_oneFurther 28 = .ok (.istore_n 2, 1) := by decide +kernel
theorem dX4_oneFurther_29 : decode cX4_oneFurther 29 = .ok (.iinc 3 1, 3) := by decide +kernel
theorem dX4_oneFurther_32 : decode cX4_oneFurther 32 = .ok (.goto (-28), 3) := by decide +kernel
theorem dX4_oneFurther_35 : decode cX4_oneFurther 35 = .ok (.iload_n 2, 1) := by decide +kernel
theorem dX4_oneFurther_36 : decode cX4_oneFurther 36 = .ok (.ireturn, 1) := by decide +kernel
theorem dX4_shortestRing_0 : decode cX4_shortestRing 0 = .ok (.iconst (-1), 1) := by decide +kernel
theorem dX4_shortestRing_1 : decode cX4_shortestRing 1 = .ok (.istore_n 1, 1) := by decide +kernel
theorem dX4_shortestRing_2 : decode cX4_shortestRing 2 = .ok (.iconst 0, 1) := by decide +kernel
theorem dX4_shortestRing_3 : decode cX4_shortestRing 3 = .ok (.istore_n 2, 1) := by decide +kernel
theorem dX4_shortestRing_4 : decode cX4_shortestRing 4 = .ok (.iload_n 2, 1) := by decide +kernel
theorem dX4_shortestRing_5 : decode cX4_shortestRing 5 = .ok (.aload_n 0, 1) := by decide +kernel
theorem dX4_shortestRing_6 : decode cX4_shortestRing 6 = .ok (.getfield 15, 3) := by decide +kernel
theorem dX4_shortestRing_9 : decode cX4_shortestRing 9 = .ok (.if_icmp .ge 33, 3) := by decide +kernel
theorem dX4_shortestRing_12 : decode cX4_shortestRing 12 = .ok (.aload_n 0, 1) := by decide +kernel
theorem dX4_shortestRing_13 : decode cX4_shortestRing 13 = .ok (.iload_n 2, 1) := by decide +kernel
theorem dX4_shortestRing_14 : decode cX4_shortestRing 14 = .ok (.iload_n 2, 1) := by decide +kernel
theorem dX4_shortestRing_15 : decode cX4_shortestRing 15 = .ok (.invokevirtual 39, 3) := by decide +kernel
theorem dX4_shortestRing_18 : decode cX4_shortestRing 18 = .ok (.istore_n 3, 1) := by decide +kernel
theorem dX4_shortestRing_19 : decode cX4_shortestRing 19 = .ok (.iload_n 3, 1) := by decide +kernel
theorem dX4_shortestRing_20 : decode cX4_shortestRing 20 = .ok (.iconst (-1), 1) := by decide +kernel
theorem dX4_shortestRing_21 : decode cX4_shortestRing 21 = .ok (.if_icmp .eq 15, 3) := by decide +kernel
theorem dX4_shortestRing_24 : decode cX4_shortestRing 24 = .ok (.iload_n 1, 1) := by decide +kernel
theorem dX4_shortestRing_25 : decode cX4_shortestRing 25 = .ok (.iconst (-1), 1) := by decide +kernel
theorem dX4_shortestRing_26 : decode cX4_shortestRing 26 = .ok (.if_icmp .eq 8, 3) := by decide +kernel
theorem dX4_shortestRing_29 : decode cX4_shortestRing 29 = .ok (.iload_n 3, 1) := by decide +kernel
theorem dX4_shortestRing_30 : decode cX4_shortestRing 30 = .ok (.iload_n 1, 1) := by decide +kernel
theorem dX4_shortestRing_31 : decode cX4_shortestRing 31 = .ok (.if_icmp .ge 5, 3) := by decide +kernel
theorem dX4_shortestRing_34 : decode cX4_shortestRing 34 = .ok (.iload_n 3, 1) := by decide +kernel
theorem dX4_shortestRing_35 : decode cX4_shortestRing 35 = .ok (.istore_n 1, 1) := by decide +kernel
theorem dX4_shortestRing_36 : decode cX4_shortestRing 36 = .ok (.iinc 2 1, 3) := by decide +kernel
theorem dX4_shortestRing_39 : decode cX4_shortestRing 39 = .ok (.goto (-35), 3) := by decide +kernel
theorem dX4_shortestRing_42 : decode cX4_shortestRing 42 = .ok (.iload_n 1, 1) := by decide +kernel
theorem dX4_shortestRing_43 : decode cX4_shortestRing 43 = .ok (.ireturn, 1) := by decide +kernel
theorem dX4_fewestToForgive_0 : decode cX4_fewestToForgive 0 = .ok (.iconst 1, 1) := by decide +kernel
theorem dX4_fewestToForgive_1 : decode cX4_fewestToForgive 1 = .ok (.aload_n 1, 1) := by decide +kernel
theorem dX4_fewestToForgive_2 : decode cX4_fewestToForgive 2 = .ok (.getfield 22, 3) := by decide +kernel
theorem dX4_fewestToForgive_5 : decode cX4_fewestToForgive 5 = .ok (.ishl, 1) := by decide +kernel
theorem dX4_fewestToForgive_6 : decode cX4_fewestToForgive 6 = .ok (.iconst 1, 1) := by decide +kernel
theorem dX4_fewestToForgive_7 : decode cX4_fewestToForgive 7 = .ok (.isub, 1) := by decide +kernel
theorem dX4_fewestToForgive_8 : decode cX4_fewestToForgive 8 = .ok (.istore_n 2, 1) := by decide +kernel
theorem dX4_fewestToForgive_9 : decode cX4_fewestToForgive 9 = .ok (.iload_n 2, 1) := by decide +kernel
theorem dX4_fewestToForgive_10 : decode cX4_fewestToForgive 10 = .ok (.istore_n 3, 1) := by decide +kernel
theorem dX4_fewestToForgive_11 : decode cX4_fewestToForgive 11 = .ok (.bipush 9, 2) := by decide +kernel
theorem dX4_fewestToForgive_13 : decode cX4_fewestToForgive 13 = .ok (.istore 4, 2) := by decide +kernel
theorem dX4_fewestToForgive_15 : decode cX4_fewestToForgive 15 = .ok (.iconst 0, 1) := by decide +kernel
theorem dX4_fewestToForgive_16 : decode cX4_fewestToForgive 16 = .ok (.istore 5, 2) := by decide +kernel
theorem dX4_fewestToForgive_18 : decode cX4_fewestToForgive 18 = .ok (.iload 5, 2) := by decide +kernel
theorem dX4_fewestToForgive_20 : decode cX4_fewestToForgive 20 = .ok (.iload_n 2, 1) := by decide +kernel
theorem dX4_fewestToForgive_21 : decode cX4_fewestToForgive 21 = .ok (.if_icmp .gt 58, 3) := by decide +kernel
theorem dX4_fewestToForgive_24 : decode cX4_fewestToForgive 24 = .ok (.iload 5, 2) := by decide +kernel
theorem dX4_fewestToForgive_26 : decode cX4_fewestToForgive 26 = .ok (.aload_n 1, 1) := by decide +kernel
theorem dX4_fewestToForgive_27 : decode cX4_fewestToForgive 27 = .ok (.getfield 43, 3) := by decide +kernel
theorem dX4_fewestToForgive_30 : decode cX4_fewestToForgive 30 = .ok (.iand, 1) := by decide +kernel
theorem dX4_fewestToForgive_31 : decode cX4_fewestToForgive 31 = .ok (.ifCond .ne 42, 3) := by decide +kernel
theorem dX4_fewestToForgive_34 : decode cX4_fewestToForgive 34 = .ok (.iload 5, 2) := by decide +kernel
theorem dX4_fewestToForgive_36 : decode cX4_fewestToForgive 36 = .ok (.invokestatic 46, 3) := by decide +kernel
theorem dX4_fewestToForgive_39 : decode cX4_fewestToForgive 39 = .ok (.iload 4, 2) := by decide +kernel
theorem dX4_fewestToForgive_41 : decode cX4_fewestToForgive 41 = .ok (.if_icmp .ge 32, 3) := by decide +kernel
theorem dX4_fewestToForgive_44 : decode cX4_fewestToForgive 44 = .ok (.aload_n 0, 1) := by decide +kernel
theorem dX4_fewestToForgive_45 : decode cX4_fewestToForgive 45 = .ok (.aload_n 1, 1) := by decide +kernel
theorem dX4_fewestToForgive_46 : decode cX4_fewestToForgive 46 = .ok (.aload_n 1, 1) := by decide +kernel
theorem dX4_fewestToForgive_47 : decode cX4_fewestToForgive 47 = .ok (.getfield 43, 3) := by decide +kernel
theorem dX4_fewestToForgive_50 : decode cX4_fewestToForgive 50 = .ok (.iload 5, 2) := by decide +kernel
theorem dX4_fewestToForgive_52 : decode cX4_fewestToForgive 52 = .ok (.ior, 1) := by decide +kernel
theorem dX4_fewestToForgive_53 : decode cX4_fewestToForgive 53 = .ok (.invokevirtual 51, 3) := by decide +kernel
theorem dX4_fewestToForgive_56 : decode cX4_fewestToForgive 56 = .ok (.aload_n 0, 1) := by decide +kernel
theorem dX4_fewestToForgive_57 : decode cX4_fewestToForgive 57 = .ok (.invokevirtual 55, 3) := by decide +kernel
theorem dX4_fewestToForgive_60 : decode cX4_fewestToForgive 60 = .ok (.ifCond .ne 13, 3) := by decide +kernel
theorem dX4_fewestToForgive_63 : decode cX4_fewestToForgive 63 = .ok (.iload 5, 2) := by decide +kernel
theorem dX4_fewestToForgive_65 : decode cX4_fewestToForgive 65 = .ok (.istore_n 3, 1) := by decide +kernel
theorem dX4_fewestToForgive_66 : decode cX4_fewestToForgive 66 = .ok (.iload 5, 2) := by decide +kernel
theorem dX4_fewestToForgive_68 : decode cX4_fewestToForgive 68 = .ok (.invokestatic 46, 3) := by decide +kernel
theorem dX4_fewestToForgive_71 : decode cX4_fewestToForgive 71 = .ok (.istore 4, 2) := by decide +kernel
theorem dX4_fewestToForgive_73 : decode cX4_fewestToForgive 73 = .ok (.iinc 5 1, 3) := by decide +kernel
theorem dX4_fewestToForgive_76 : decode cX4_fewestToForgive 76 = .ok (.goto (-58), 3) := by decide +kernel
theorem dX4_fewestToForgive_79 : decode cX4_fewestToForgive 79 = .ok (.iload_n 3, 1) := by decide +kernel
theorem dX4_fewestToForgive_80 : decode cX4_fewestToForgive 80 = .ok (.ireturn, 1) := by decide +kernel
theorem dX4_hasRing_0 : decode cX4_hasRing 0 = .ok (.iconst 1, 1) := by decide +kernel
theorem dX4_hasRing_1 : decode cX4_hasRing 1 = .ok (.aload_n 0, 1) := by decide +kernel
theorem dX4_hasRing_2 : decode cX4_hasRing 2 = .ok (.getfield 15, 3) := by decide +kernel
theorem dX4_hasRing_5 : decode cX4_hasRing 5 = .ok (.ishl, 1) := by decide +kernel
theorem dX4_hasRing_6 : decode cX4_hasRing 6 = .ok (.iconst 1, 1) := by decide +kernel
theorem dX4_hasRing_7 : decode cX4_hasRing 7 = .ok (.isub, 1) := by decide +kernel
theorem dX4_hasRing_8 : decode cX4_hasRing 8 = .ok (.istore_n 1, 1) := by decide +kernel
theorem dX4_hasRing_9 : decode cX4_hasRing 9 = .ok (.iconst 0, 1) := by decide +kernel
theorem dX4_hasRing_10 : decode cX4_hasRing 10 = .ok (.istore_n 2, 1) := by decide +kernel
theorem dX4_hasRing_11 : decode cX4_hasRing 11 = .ok (.iload_n 2, 1) := by decide +kernel
theorem dX4_hasRing_12 : decode cX4_hasRing 12 = .ok (.aload_n 0, 1) := by decide +kernel
theorem dX4_hasRing_13 : decode cX4_hasRing 13 = .ok (.getfield 15, 3) := by decide +kernel
theorem dX4_hasRing_16 : decode cX4_hasRing 16 = .ok (.if_icmp .ge 44, 3) := by decide +kernel
theorem dX4_hasRing_19 : decode cX4_hasRing 19 = .ok (.iconst 0, 1) := by decide +kernel
theorem dX4_hasRing_20 : decode cX4_hasRing 20 = .ok (.istore_n 3, 1) := by decide +kernel
theorem dX4_hasRing_21 : decode cX4_hasRing 21 = .ok (.iload_n 3, 1) := by decide +kernel
theorem dX4_hasRing_22 : decode cX4_hasRing 22 = .ok (.aload_n 0, 1) := by decide +kernel
theorem dX4_hasRing_23 : decode cX4_hasRing 23 = .ok (.getfield 15, 3) := by decide +kernel
theorem dX4_hasRing_26 : decode cX4_hasRing 26 = .ok (.if_icmp .ge 28, 3) := by decide +kernel
theorem dX4_hasRing_29 : decode cX4_hasRing 29 = .ok (.aload_n 0, 1) := by decide +kernel
theorem dX4_hasRing_30 : decode cX4_hasRing 30 = .ok (.getfield 9, 3) := by decide +kernel
theorem dX4_hasRing_33 : decode cX4_hasRing 33 = .ok (.iload_n 3, 1) := by decide +kernel
theorem dX4_hasRing_34 : decode cX4_hasRing 34 = .ok (.iaload, 1) := by decide +kernel
theorem dX4_hasRing_35 : decode cX4_hasRing 35 = .ok (.iload_n 1, 1) := by decide +kernel
theorem dX4_hasRing_36 : decode cX4_hasRing 36 = .ok (.iand, 1) := by decide +kernel
theorem dX4_hasRing_37 : decode cX4_hasRing 37 = .ok (.ifCond .ne 11, 3) := by decide +kernel
theorem dX4_hasRing_40 : decode cX4_hasRing 40 = .ok (.iload_n 1, 1) := by decide +kernel
theorem dX4_hasRing_41 : decode cX4_hasRing 41 = .ok (.iconst 1, 1) := by decide +kernel
theorem dX4_hasRing_42 : decode cX4_hasRing 42 = .ok (.iload_n 3, 1) := by decide +kernel
theorem dX4_hasRing_43 : decode cX4_hasRing 43 = .ok (.ishl, 1) := by decide +kernel
theorem dX4_hasRing_44 : decode cX4_hasRing 44 = .ok (.iconst (-1), 1) := by decide +kernel
theorem dX4_hasRing_45 : decode cX4_hasRing 45 = .ok (.ixor, 1) := by decide +kernel
theorem dX4_hasRing_46 : decode cX4_hasRing 46 = .ok (.iand, 1) := by decide +kernel
theorem dX4_hasRing_47 : decode cX4_hasRing 47 = .ok (.istore_n 1, 1) := by decide +kernel
theorem dX4_hasRing_48 : decode cX4_hasRing 48 = .ok (.iinc 3 1, 3) := by decide +kernel
theorem dX4_hasRing_51 : decode cX4_hasRing 51 = .ok (.goto (-30), 3) := by decide +kernel
theorem dX4_hasRing_54 : decode cX4_hasRing 54 = .ok (.iinc 2 1, 3) := by decide +kernel
theorem dX4_hasRing_57 : decode cX4_hasRing 57 = .ok (.goto (-46), 3) := by decide +kernel
theorem dX4_hasRing_60 : decode cX4_hasRing 60 = .ok (.iload_n 1, 1) := by decide +kernel
theorem dX4_hasRing_61 : decode cX4_hasRing 61 = .ok (.ifCond .eq 7, 3) := by decide +kernel
theorem dX4_hasRing_64 : decode cX4_hasRing 64 = .ok (.iconst 1, 1) := by decide +kernel
theorem dX4_hasRing_65 : decode cX4_hasRing 65 = .ok (.goto 4, 3) := by decide +kernel
theorem dX4_hasRing_68 : decode cX4_hasRing 68 = .ok (.iconst 0, 1) := by decide +kernel
theorem dX4_hasRing_69 : decode cX4_hasRing 69 = .ok (.ireturn, 1) := by decide +kernel
theorem dX5_init_0 : decode cX5_init 0 = .ok (.aload_n 0, 1) := by decide +kernel
theorem dX5_init_1 : decode cX5_init 1 = .ok (.invokespecial 3, 3) := by decide +kernel
theorem dX5_init_4 : decode cX5_init 4 = .ok (.aload_n 0, 1) := by decide +kernel
theorem dX5_init_5 : decode cX5_init 5 = .ok (.iconst 2, 1) := by decide +kernel
theorem dX5_init_6 : decode cX5_init 6 = .ok (.bipush 6, 2) := by decide +kernel
theorem dX5_init_8 : decode cX5_init 8 = .ok (.multianewarray 9 2, 4) := by decide +kernel
theorem dX5_init_12 : decode cX5_init 12 = .ok (.putfield 11, 3) := by decide +kernel
theorem dX5_init_15 : decode cX5_init 15 = .ok (.aload_n 0, 1) := by decide +kernel
theorem dX5_init_16 : decode cX5_init 16 = .ok (.iconst 2, 1) := by decide +kernel
theorem dX5_init_17 : decode cX5_init 17 = .ok (.bipush 6, 2) := by decide +kernel
theorem dX5_init_19 : decode cX5_init 19 = .ok (.multianewarray 9 2, 4) := by decide +kernel
theorem dX5_init_23 : decode cX5_init 23 = .ok (.putfield 16, 3) := by decide +kernel
theorem dX5_init_26 : decode cX5_init 26 = .ok (.aload_n 0, 1) := by decide +kernel
theorem dX5_init_27 : decode cX5_init 27 = .ok (.iconst 0, 1) := by decide +kernel
theorem dX5_init_28 : decode cX5_init 28 = .ok (.putfield 19, 3) := by decide +kernel
theorem dX5_init_31 : decode cX5_init 31 = .ok (.aload_n 0, 1) := by decide +kernel
theorem dX5_init_32 : decode cX5_init 32 = .ok (.iconst 0, 1) := by decide +kernel
theorem dX5_init_33 : decode cX5_init 33 = .ok (.putfield 23, 3) := by decide +kernel
theorem dX5_init_36 : decode cX5_init 36 = .ok (.aload_n 0, 1) := by decide +kernel
theorem dX5_init_37 : decode cX5_init 37 = .ok (.iconst 0, 1) := by decide +kernel
theorem dX5_init_38 : decode cX5_init 38 = .ok (.putfield 26, 3) := by decide +kernel
theorem dX5_init_41 : decode cX5_init 41 = .ok (.return_, 1) := by decide +kernel
theorem dX5_choose_0 : decode cX5_choose 0 = .ok (.aload_n 0, 1) := by decide +kernel
theorem dX5_choose_1 : decode cX5_choose 1 = .ok (.aload_n 1, 1) := by decide +kernel
theorem dX5_choose_2 : decode cX5_choose 2 = .ok (.iload_n 2, 1) := by decide +kernel
theorem dX5_choose_3 : decode cX5_choose 3 = .ok (.iconst 0, 1) := by decide +kernel
theorem dX5_choose_4 : decode cX5_choose 4 = .ok (.invokevirtual 29, 3) := by decide +kernel
theorem dX5_choose_7 : decode cX5_choose 7 = .ok (.aload_n 0, 1) := by decide +kernel
theorem dX5_choose_8 : decode cX5_choose 8 = .ok (.aload_n 1, 1) := by decide +kernel
theorem dX5_choose_9 : decode cX5_choose 9 = .ok (.iload_n 2, 1) := by decide +kernel
theorem dX5_choose_10 : decode cX5_choose 10 = .ok (.iconst 1, 1) := by decide +kernel
theorem dX5_choose_11 : decode cX5_choose 11 = .ok (.invokevirtual 29, 3) := by decide +kernel
theorem dX5_choose_14 : decode cX5_choose 14 = .ok (.iconst 1, 1) := by decide +kernel
theorem dX5_choose_15 : decode cX5_choose 15 = .ok (.aload_n 1, 1) := by decide +kernel
theorem dX5_choose_16 : decode cX5_choose 16 = .ok (.getfield 33, 3) := by decide +kernel
theorem dX5_choose_19 : decode cX5_choose 19 = .ok (.ishl, 1) := by decide +kernel
theorem dX5_choose_20 : decode cX5_choose 20 = .ok (.iconst 1, 1) := by decide +kernel
theorem dX5_choose_21 : decode cX5_choose 21 = .ok (.isub, 1) := by decide +kernel
theorem dX5_choose_22 : decode cX5_choose 22 = .ok (.istore 4, 2) := by decide +kernel
theorem dX5_choose_24 : decode cX5_choose 24 = .ok (.iconst 0, 1) := by decide +kernel
theorem dX5_choose_25 : decode cX5_choose 25 = .ok (.istore 5, 2) := by decide +kernel
theorem dX5_choose_27 : decode cX5_choose 27 = .ok (.iload 5, 2) := by decide +kernel
theorem dX5_choose_29 : decode cX5_choose 29 = .ok (.iload 4, 2) := by decide +kernel
theorem dX5_choose_31 : decode cX5_choose 31 = .ok (.if_icmp .gt 39, 3) := by decide +kernel
theorem dX5_choose_34 : decode cX5_choose 34 = .ok (.aload_n 3, 1) := by decide +kernel
theorem dX5_choose_35 : decode cX5_choose 35 = .ok (.aload_n 1, 1) := by decide +kernel
theorem dX5_choose_36 : decode cX5_choose 36 = .ok (.iload 4, 2) := by decide +kernel
theorem dX5_choose_38 : decode cX5_choose 38 = .ok (.iload 5, 2) := by decide +kernel
theorem dX5_choose_40 : decode cX5_choose 40 = .ok (.iconst (-1), 1) := by decide +kernel
theorem dX5_choose_41 : decode cX5_choose 41 = .ok (.ixor, 1) := by decide +kernel
theorem dX5_choose_42 : decode cX5_choose 42 = .ok (.iand, 1) := by decide +kernel
theorem dX5_choose_43 : decode cX5_choose 43 = .ok (.invokevirtual 38, 3) := by decide +kernel
theorem dX5_choose_46 : decode cX5_choose 46 = .ok (.aload_n 0, 1) := by decide +kernel
theorem dX5_choose_47 : decode cX5_choose 47 = .ok (.aload_n 1, 1) := by decide +kernel
theorem dX5_choose_48 : decode cX5_choose 48 = .ok (.getfield 44, 3) := by decide +kernel
theorem dX5_choose_51 : decode cX5_choose 51 = .ok (.aload_n 3, 1) := by decide +kernel
theorem dX5_choose_52 : decode cX5_choose 52 = .ok (.aload_n 1, 1) := by decide +kernel
theorem dX5_choose_53 : decode cX5_choose 53 = .ok (.getfield 47, 3) := by decide +kernel
theorem dX5_choose_56 : decode cX5_choose 56 = .ok (.invokevirtual 50, 3) := by decide +kernel
theorem dX5_choose_59 : decode cX5_choose 59 = .ok (.iload 5, 2) := by decide +kernel
theorem dX5_choose_61 : decode cX5_choose 61 = .ok (.invokevirtual 54, 3) := by decide +kernel
theorem dX5_choose_64 : decode cX5_choose 64 = .ok (.iinc 5 1, 3) := by decide +kernel
theorem dX5_choose_67 : decode cX5_choose 67 = .ok (.goto (-40), 3) := by decide +kernel
theorem dX5_choose_70 : decode cX5_choose 70 = .ok (.return_, 1) := by decide +kernel
theorem dX5_lookAhead_0 : decode cX5_lookAhead 0 = .ok (.iconst 0, 1) := by decide +kernel
theorem dX5_lookAhead_1 : decode cX5_lookAhead 1 = .ok (.istore 4, 2) := by decide +kernel
theorem dX5_lookAhead_3 : decode cX5_lookAhead 3 = .ok (.iload 4, 2) := by decide +kernel
theorem dX5_lookAhead_5 : decode cX5_lookAhead 5 = .ok (.aload_n 1, 1) := by decide +kernel
theorem dX5_lookAhead_6 : decode cX5_lookAhead 6 = .ok (.getfield 44, 3) := by decide +kernel
theorem dX5_lookAhead_9 : decode cX5_lookAhead 9 = .ok (.if_icmp .ge 83, 3) := by decide +kernel
theorem dX5_lookAhead_12 : decode cX5_lookAhead 12 = .ok (.aload_n 1, 1) := by decide +kernel
theorem dX5_lookAhead_13 : decode cX5_lookAhead 13 = .ok (.getfield 58, 3) := by decide +kernel
theorem dX5_lookAhead_16 : decode cX5_lookAhead 16 = .ok (.iload 4, 2) := by decide +kernel
theorem dX5_lookAhead_18 : decode cX5_lookAhead 18 = .ok (.iaload, 1) := by decide +kernel
theorem dX5_lookAhead_19 : decode cX5_lookAhead 19 = .ok (.istore 5, 2) := by decide +kernel
theorem dX5_lookAhead_21 : decode cX5_lookAhead 21 = .ok (.iconst 0, 1) := by decide +kernel
theorem dX5_lookAhead_22 : decode cX5_lookAhead 22 = .ok (.istore 6, 2) := by decide +kernel
theorem dX5_lookAhead_24 : decode cX5_lookAhead 24 = .ok (.iconst 0, 1) := by decide +kernel
theorem dX5_lookAhead_25 : decode cX5_lookAhead 25 = .ok (.istore 7, 2) := by decide +kernel
theorem dX5_lookAhead_27 : decode cX5_lookAhead 27 = .ok (.iload 7, 2) := by decide +kernel
theorem dX5_lookAhead_29 : decode cX5_lookAhead 29 = .ok (.iload_n 2, 1) := by decide +kernel
theorem dX5_lookAhead_30 : decode cX5_lookAhead 30 = .ok (.if_icmp .ge 34, 3) := by decide +kernel
theorem dX5_lookAhead_33 : decode cX5_lookAhead 33 = .ok (.iload 5, 2) := by decide +kernel
theorem dX5_lookAhead_35 : decode cX5_lookAhead 35 = .ok (.iload_n 3, 1) := by decide +kernel
theorem dX5_lookAhead_36 : decode cX5_lookAhead 36 = .ok (.iconst 1, 1) := by decide +kernel
theorem dX5_lookAhead_37 : decode cX5_lookAhead 37 = .ok (.if_icmp .ne 7, 3) := by decide +kernel
theorem dX5_lookAhead_40 : decode cX5_lookAhead 40 = .ok (.iconst 1, 1) := by decide +kernel
theorem dX5_lookAhead_41 : decode cX5_lookAhead 41 = .ok (.goto 4, 3) := by decide +kernel
theorem dX5_lookAhead_44 : decode cX5_lookAhead 44 = .ok (.iconst 0, 1) := by decide +kernel
theorem dX5_lookAhead_45 : decode cX5_lookAhead 45 = .ok (.invokestatic 62, 3) := by decide +kernel
theorem dX5_lookAhead_48 : decode cX5_lookAhead 48 = .ok (.istore 5, 2) := by decide +kernel
theorem dX5_lookAhead_50 : decode cX5_lookAhead 50 = .ok (.iload 5, 2) := by decide +kernel
theorem dX5_lookAhead_52 : decode cX5_lookAhead 52 = .ok (.ifCond .ne 6, 3) := by decide +kernel
theorem dX5_lookAhead_55 : decode cX5_lookAhead 55 = .ok (.iinc 6 1, 3) := by decide +kernel
theorem dX5_lookAhead_58 : decode cX5_lookAhead 58 = .ok (.iinc 7 1, 3) := by decide +kernel
theorem dX5_lookAhead_61 : decode cX5_lookAhead 61 = .ok (.goto (-34), 3) := by decide +kernel
theorem dX5_lookAhead_64 : decode cX5_lookAhead 64 = .ok (.aload_n 0, 1) := by decide +kernel
theorem dX5_lookAhead_65 : decode cX5_lookAhead 65 = .ok (.getfield 11, 3) := by decide +kernel
theorem dX5_lookAhead_68 : decode cX5_lookAhead 68 = .ok (.iload_n 3, 1) := by decide +kernel
theorem dX5_lookAhead_69 : decode cX5_lookAhead 69 = .ok (.aaload, 1) := by decide +kernel
theorem dX5_lookAhead_70 : decode cX5_lookAhead 70 = .ok (.iload 4, 2) := by decide +kernel
theorem dX5_lookAhead_72 : decode cX5_lookAhead 72 = .ok (.iload 6, 2) := by decide +kernel
theorem dX5_lookAhead_74 : decode cX5_lookAhead 74 = .ok (.iastore, 1) := by decide +kernel
theorem dX5_lookAhead_75 : decode cX5_lookAhead 75 = .ok (.aload_n 0, 1) := by decide +kernel
theorem dX5_lookAhead_76 : decode cX5_lookAhead 76 = .ok (.getfield 16, 3) := by decide +kernel
theorem dX5_lookAhead_79 : decode cX5_lookAhead 79 = .ok (.iload_n 3, 1) := by decide +kernel
theorem dX5_lookAhead_80 : decode cX5_lookAhead 80 = .ok (.aaload, 1) := by decide +kernel
theorem dX5_lookAhead_81 : decode cX5_lookAhead 81 = .ok (.iload 4, 2) := by decide +kernel
theorem dX5_lookAhead_83 : decode cX5_lookAhead 83 = .ok (.iload 5, 2) := by decide +kernel
theorem dX5_lookAhead_85 : decode cX5_lookAhead 85 = .ok (.iastore, 1) := by decide +kernel
theorem dX5_lookAhead_86 : decode cX5_lookAhead 86 = .ok (.iinc 4 1, 3) := by decide +kernel
theorem dX5_lookAhead_89 : decode cX5_lookAhead 89 = .ok (.goto (-86), 3) := by decide +kernel
theorem dX5_lookAhead_92 : decode cX5_lookAhead 92 = .ok (.return_, 1) := by decide +kernel
theorem dX5_weigh_0 : decode cX5_weigh 0 = .ok (.iconst 0, 1) := by decide +kernel
theorem dX5_weigh_1 : decode cX5_weigh 1 = .ok (.istore 4, 2) := by decide +kernel
theorem dX5_weigh_3 : decode cX5_weigh 3 = .ok (.bipush 20, 2) := by decide +kernel
theorem dX5_weigh_5 : decode cX5_weigh 5 = .ok (.istore 5, 2) := by decide +kernel
theorem dX5_weigh_7 : decode cX5_weigh 7 = .ok (.iconst 0, 1) := by decide +kernel
theorem dX5_weigh_8 : decode cX5_weigh 8 = .ok (.istore 6, 2) := by decide +kernel
theorem dX5_weigh_10 : decode cX5_weigh 10 = .ok (.iload 6, 2) := by decide +kernel
theorem dX5_weigh_12 : decode cX5_weigh 12 = .ok (.iload_n 1, 1) := by decide +kernel
theorem dX5_weigh_13 : decode cX5_weigh 13 = .ok (.if_icmp .ge 57, 3) := by decide +kernel
theorem dX5_weigh_16 : decode cX5_weigh 16 = .ok (.iload_n 2, 1) := by decide +kernel
theorem dX5_weigh_17 : decode cX5_weigh 17 = .ok (.iload 6, 2) := by decide +kernel
theorem dX5_weigh_19 : decode cX5_weigh 19 = .ok (.invokestatic 66, 3) := by decide +kernel
theorem dX5_weigh_22 : decode cX5_weigh 22 = .ok (.ifCond .eq 7, 3) := by decide +kernel
theorem dX5_weigh_25 : decode cX5_weigh 25 = .ok (.iconst 1, 1) := by decide +kernel
theorem dX5_weigh_26 : decode cX5_weigh 26 = .ok (.goto 4, 3) := by decide +kernel
theorem dX5_weigh_29 : decode cX5_weigh 29 = .ok (.iconst 0, 1) := by decide +kernel
theorem dX5_weigh_30 : decode cX5_weigh 30 = .ok (.istore 7, 2) := by decide +kernel
theorem dX5_weigh_32 : decode cX5_weigh 32 = .ok (.iload 4, 2) := by decide +kernel
theorem dX5_weigh_34 : decode cX5_weigh 34 = .ok (.aload_n 0, 1) := by decide +kernel
theorem dX5_weigh_35 : decode cX5_weigh 35 = .ok (.getfield 11, 3) := by decide +kernel
theorem dX5_weigh_38 : decode cX5_weigh 38 = .ok (.iload 7, 2) := by decide +kernel
theorem dX5_weigh_40 : decode cX5_weigh 40 = .ok (.aaload, 1) := by decide +kernel
theorem dX5_weigh_41 : decode cX5_weigh 41 = .ok (.iload 6, 2) := by decide +kernel
theorem dX5_weigh_43 : decode cX5_weigh 43 = .ok (.iaload, 1) := by decide +kernel
theorem dX5_weigh_44 : decode cX5_weigh 44 = .ok (.iadd, 1) := by decide +kernel
theorem dX5_weigh_45 : decode cX5_weigh 45 = .ok (.istore 4, 2) := by decide +kernel
theorem dX5_weigh_47 : decode cX5_weigh 47 = .ok (.iload 5, 2) := by decide +kernel
theorem dX5_weigh_49 : decode cX5_weigh 49 = .ok (.aload_n 0, 1) := by decide +kernel
theorem dX5_weigh_50 : decode cX5_weigh 50 = .ok (.getfield 16, 3) := by decide +kernel
theorem dX5_weigh_53 : decode cX5_weigh 53 = .ok (.iload 7, 2) := by decide +kernel
theorem dX5_weigh_55 : decode cX5_weigh 55 = .ok (.aaload, 1) := by decide +kernel
theorem dX5_weigh_56 : decode cX5_weigh 56 = .ok (.iload 6, 2) := by decide +kernel
theorem dX5_weigh_58 : decode cX5_weigh 58 = .ok (.iaload, 1) := by decide +kernel
theorem dX5_weigh_59 : decode cX5_weigh 59 = .ok (.invokestatic 70, 3) := by decide +kernel
theorem dX5_weigh_62 : decode cX5_weigh 62 = .ok (.istore 5, 2) := by decide +kernel
theorem dX5_weigh_64 : decode cX5_weigh 64 = .ok (.iinc 6 1, 3) := by decide +kernel
theorem dX5_weigh_67 : decode cX5_weigh 67 = .ok (.goto (-57), 3) := by decide +kernel
theorem dX5_weigh_70 : decode cX5_weigh 70 = .ok (.iload_n 3, 1) := by decide +kernel
theorem dX5_weigh_71 : decode cX5_weigh 71 = .ok (.ifCond .eq 15, 3) := by decide +kernel
theorem dX5_weigh_74 : decode cX5_weigh 74 = .ok (.aload_n 0, 1) := by decide +kernel
theorem dX5_weigh_75 : decode cX5_weigh 75 = .ok (.iload 4, 2) := by decide +kernel
theorem dX5_weigh_77 : decode cX5_weigh 77 = .ok (.iload 5, 2) := by decide +kernel
theorem dX5_weigh_79 : decode cX5_weigh 79 = .ok (.iload_n 3, 1) := by decide +kernel
theorem dX5_weigh_80 : decode cX5_weigh 80 = .ok (.invokevirtual 76, 3) := by decide +kernel
theorem dX5_weigh_83 : decode cX5_weigh 83 = .ok (.ifCond .eq 20, 3) := by decide +kernel
theorem dX5_weigh_86 : decode cX5_weigh 86 = .ok (.aload_n 0, 1) := by decide +kernel
theorem dX5_weigh_87 : decode cX5_weigh 87 = .ok (.iload 4, 2) := by decide +kernel
theorem dX5_weigh_89 : decode cX5_weigh 89 = .ok (.putfield 19, 3) := by decide +kernel
theorem dX5_weigh_92 : decode cX5_weigh 92 = .ok (.aload_n 0, 1) := by decide +kernel
theorem dX5_weigh_93 : decode cX5_weigh 93 = .ok (.iload 5, 2) := by decide +kernel
theorem dX5_weigh_95 : decode cX5_weigh 95 = .ok (.putfield 23, 3) := by decide +kernel
theorem dX5_weigh_98 : decode cX5_weigh 98 = .ok (.aload_n 0, 1) := by decide +kernel
theorem dX5_weigh_99 : decode cX5_weigh 99 = .ok (.iload_n 3, 1) := by decide +kernel
theorem dX5_weigh_100 : decode cX5_weigh 100 = .ok (.putfield 26, 3) := by decide +kernel
theorem dX5_weigh_103 : decode cX5_weigh 103 = .ok (.return_, 1) := by decide +kernel
theorem dX5_isBetter_0 : decode cX5_isBetter 0 = .ok (.iload_n 1, 1) := by decide +kernel
theorem dX5_isBetter_1 : decode cX5_isBetter 1 = .ok (.aload_n 0, 1) := by decide +kernel
theorem dX5_isBetter_2 : decode cX5_isBetter 2 = .ok (.getfield 19, 3) := by decide +kernel
theorem dX5_isBetter_5 : decode cX5_isBetter 5 = .ok (.if_icmp .eq 17, 3) := by decide +kernel
theorem dX5_isBetter_8 : decode cX5_isBetter 8 = .ok (.iload_n 1, 1) := by decide +kernel
theorem dX5_isBetter_9 : decode cX5_isBetter 9 = .ok (.aload_n 0, 1) := by decide +kernel
theorem dX5_isBetter_10 : decode cX5_isBetter 10 = .ok (.getfield 19, 3) := by decide +kernel
theorem dX5_isBetter_13 : decode cX5_isBetter 13 = .ok (.if_icmp .ge 7, 3) := by decide +kernel
theorem dX5_isBetter_16 : decode cX5_isBetter 16 = .ok (.iconst 1, 1) := by decide +kernel
theorem dX5_isBetter_17 : decode cX5_isBetter 17 = .ok (.goto 4, 3) := by decide +kernel
theorem dX5_isBetter_20 : decode cX5_isBetter 20 = .ok (.iconst 0, 1) := by decide +kernel
theorem dX5_isBetter_21 : decode cX5_isBetter 21 = .ok (.ireturn, 1) := by decide +kernel
theorem dX5_isBetter_22 : decode cX5_isBetter 22 = .ok (.iload_n 2, 1) := by decide +kernel
theorem dX5_isBetter_23 : decode cX5_isBetter 23 = .ok (.aload_n 0, 1) := by decide +kernel
theorem dX5_isBetter_24 : decode cX5_isBetter 24 = .ok (.getfield 23, 3) := by decide +kernel
theorem dX5_isBetter_27 : decode cX5_isBetter 27 = .ok (.if_icmp .eq 17, 3) := by decide +kernel
theorem dX5_isBetter_30 : decode cX5_isBetter 30 = .ok (.iload_n 2, 1) := by decide +kernel
theorem dX5_isBetter_31 : decode cX5_isBetter 31 = .ok (.aload_n 0, 1) := by decide +kernel
theorem dX5_isBetter_32 : decode cX5_isBetter 32 = .ok (.getfield 23, 3) := by decide +kernel
theorem dX5_isBetter_35 : decode cX5_isBetter 35 = .ok (.if_icmp .le 7, 3) := by decide +kernel
theorem dX5_isBetter_38 : decode cX5_isBetter 38 = .ok (.iconst 1, 1) := by decide +kernel
theorem dX5_isBetter_39 : decode cX5_isBetter 39 = .ok (.goto 4, 3) := by decide +kernel
theorem dX5_isBetter_42 : decode cX5_isBetter 42 = .ok (.iconst 0, 1) := by decide +kernel
theorem dX5_isBetter_43 : decode cX5_isBetter 43 = .ok (.ireturn, 1) := by decide +kernel
theorem dX5_isBetter_44 : decode cX5_isBetter 44 = .ok (.iload_n 3, 1) := by decide +kernel
theorem dX5_isBetter_45 : decode cX5_isBetter 45 = .ok (.invokestatic 80, 3) := by decide +kernel
theorem dX5_isBetter_48 : decode cX5_isBetter 48 = .ok (.aload_n 0, 1) := by decide +kernel
theorem dX5_isBetter_49 : decode cX5_isBetter 49 = .ok (.getfield 26, 3) := by decide +kernel
theorem dX5_isBetter_52 : decode cX5_isBetter 52 = .ok (.invokestatic 80, 3) := by decide +kernel
theorem dX5_isBetter_55 : decode cX5_isBetter 55 = .ok (.if_icmp .ge 7, 3) := by decide +kernel
theorem dX5_isBetter_58 : decode cX5_isBetter 58 = .ok (.iconst 1, 1) := by decide +kernel
theorem dX5_isBetter_59 : decode cX5_isBetter 59 = .ok (.goto 4, 3) := by decide +kernel
theorem dX5_isBetter_62 : decode cX5_isBetter 62 = .ok (.iconst 0, 1) := by decide +kernel
theorem dX5_isBetter_63 : decode cX5_isBetter 63 = .ok (.ireturn, 1) := by decide +kernel
theorem dX6_init_0 : decode cX6_init 0 = .ok (.aload_n 0, 1) := by decide +kernel
theorem dX6_init_1 : decode cX6_init 1 = .ok (.invokespecial 3, 3) := by decide +kernel
theorem dX6_init_4 : decode cX6_init 4 = .ok (.aload_n 0, 1) := by decide +kernel
theorem dX6_init_5 : decode cX6_init 5 = .ok (.bipush 54, 2) := by decide +kernel
theorem dX6_init_7 : decode cX6_init 7 = .ok (.newarray .int, 2) := by decide +kernel
theorem dX6_init_9 : decode cX6_init 9 = .ok (.putfield 9, 3) := by decide +kernel
theorem dX6_init_12 : decode cX6_init 12 = .ok (.aload_n 0, 1) := by decide +kernel
theorem dX6_init_13 : decode cX6_init 13 = .ok (.iconst 0, 1) := by decide +kernel
theorem dX6_init_14 : decode cX6_init 14 = .ok (.putfield 15, 3) := by decide +kernel
theorem dX6_init_17 : decode cX6_init 17 = .ok (.return_, 1) := by decide +kernel
theorem dX6_add_0 : decode cX6_add 0 = .ok (.aload_n 0, 1) := by decide +kernel
theorem dX6_add_1 : decode cX6_add 1 = .ok (.getfield 15, 3) := by decide +kernel
theorem dX6_add_4 : decode cX6_add 4 = .ok (.aload_n 0, 1) := by decide +kernel
theorem dX6_add_5 : decode cX6_add 5 = .ok (.getfield 9, 3) := by decide +kernel
theorem dX6_add_8 : decode cX6_add 8 = .ok (.arraylength, 1) := by decide +kernel
theorem dX6_add_9 : decode cX6_add 9 = .ok (.if_icmp .ge 23, 3) := by decide +kernel
theorem dX6_add_12 : decode cX6_add 12 = .ok (.aload_n 0, 1) := by decide +kernel
theorem dX6_add_13 : decode cX6_add 13 = .ok (.getfield 9, 3) := by decide +kernel
theorem dX6_add_16 : decode cX6_add 16 = .ok (.aload_n 0, 1) := by decide +kernel
theorem dX6_add_17 : decode cX6_add 17 = .ok (.getfield 15, 3) := by decide +kernel
theorem dX6_add_20 : decode cX6_add 20 = .ok (.iload_n 1, 1) := by decide +kernel
theorem dX6_add_21 : decode cX6_add 21 = .ok (.iastore, 1) := by decide +kernel
theorem dX6_add_22 : decode cX6_add 22 = .ok (.aload_n 0, 1) := by decide +kernel
theorem dX6_add_23 : decode cX6_add 23 = .ok (.dup, 1) := by decide +kernel
theorem dX6_add_24 : decode cX6_add 24 = .ok (.getfield 15, 3) := by decide +kernel
theorem dX6_add_27 : decode cX6_add 27 = .ok (.iconst 1, 1) := by decide +kernel
theorem dX6_add_28 : decode cX6_add 28 = .ok (.iadd, 1) := by decide +kernel
theorem dX6_add_29 : decode cX6_add 29 = .ok (.putfield 15, 3) := by decide +kernel
theorem dX6_add_32 : decode cX6_add 32 = .ok (.return_, 1) := by decide +kernel
theorem dX7_init_0 : decode cX7_init 0 = .ok (.aload_n 0, 1) := by decide +kernel
theorem dX7_init_1 : decode cX7_init 1 = .ok (.invokespecial 3, 3) := by decide +kernel
theorem dX7_init_4 : decode cX7_init 4 = .ok (.aload_n 0, 1) := by decide +kernel
theorem dX7_init_5 : decode cX7_init 5 = .ok (.new 9, 3) := by decide +kernel
theorem dX7_init_8 : decode cX7_init 8 = .ok (.dup, 1) := by decide +kernel
theorem dX7_init_9 : decode cX7_init 9 = .ok (.invokespecial 11, 3) := by decide +kernel
theorem dX7_init_12 : decode cX7_init 12 = .ok (.putfield 12, 3) := by decide +kernel
theorem dX7_init_15 : decode cX7_init 15 = .ok (.aload_n 0, 1) := by decide +kernel
theorem dX7_init_16 : decode cX7_init 16 = .ok (.iconst 0, 1) := by decide +kernel
theorem dX7_init_17 : decode cX7_init 17 = .ok (.putfield 18, 3) := by decide +kernel
theorem dX7_init_20 : decode cX7_init 20 = .ok (.return_, 1) := by decide +kernel
theorem dX7_firstFault_0 : decode cX7_firstFault 0 = .ok (.aload_n 0, 1) := by decide +kernel
theorem dX7_firstFault_1 : decode cX7_firstFault 1 = .ok (.getfield 12, 3) := by decide +kernel
theorem dX7_firstFault_4 : decode cX7_firstFault 4 = .ok (.invokevirtual 22, 3) := by decide +kernel
theorem dX7_firstFault_7 : decode cX7_firstFault 7 = .ok (.aload_n 0, 1) := by decide +kernel
theorem dX7_firstFault_8 : decode cX7_firstFault 8 = .ok (.iconst 0, 1) := by decide +kernel
theorem dX7_firstFault_9 : decode cX7_firstFault 9 = .ok (.putfield 18, 3) := by decide +kernel
theorem dX7_firstFault_12 : decode cX7_firstFault 12 = .ok (.iconst 0, 1) := by decide +kernel
theorem dX7_firstFault_13 : decode cX7_firstFault 13 = .ok (.istore_n 2, 1) := by decide +kernel
theorem dX7_firstFault_14 : decode cX7_firstFault 14 = .ok (.iload_n 2, 1) := by decide +kernel
theorem dX7_firstFault_15 : decode cX7_firstFault 15 = .ok (.aload_n 1, 1) := by decide +kernel
theorem dX7_firstFault_16 : decode cX7_firstFault 16 = .ok (.getfield 25, 3) := by decide +kernel
theorem dX7_firstFault_19 : decode cX7_firstFault 19 = .ok (.if_icmp .ge 24, 3) := by decide +kernel
theorem dX7_firstFault_22 : decode cX7_firstFault 22 = .ok (.aload_n 0, 1) := by decide +kernel
theorem dX7_firstFault_23 : decode cX7_firstFault 23 = .ok (.aload_n 1, 1) := by decide +kernel
theorem dX7_firstFault_24 : decode cX7_firstFault 24 = .ok (.getfield 30, 3) := by decide +kernel
theorem dX7_firstFault_27 : decode cX7_firstFault 27 = .ok (.iload_n 2, 1) := by decide +kernel
theorem dX7_firstFault_28 : decode cX7_firstFault 28 = .ok (.iaload, 1) := by decide +kernel
theorem dX7_firstFault_29 : decode cX7_firstFault 29 = .ok (.invokevirtual 34, 3) := by decide +kernel
theorem dX7_firstFault_32 : decode cX7_firstFault 32 = .ok (.ifCond .ne 5, 3) := by decide +kernel
theorem dX7_firstFault_35 : decode cX7_firstFault 35 = .ok (.iload_n 2, 1) := by decide +kernel
theorem dX7_firstFault_36 : decode cX7_firstFault 36 = .ok (.ireturn, 1) := by decide +kernel
theorem dX7_firstFault_37 : decode cX7_firstFault 37 = .ok (.iinc 2 1, 3) := by decide +kernel
theorem dX7_firstFault_40 : decode cX7_firstFault 40 = .ok (.goto (-26), 3) := by decide +kernel
theorem dX7_firstFault_43 : decode cX7_firstFault 43 = .ok (.aload_n 1, 1) := by decide +kernel
theorem dX7_firstFault_44 : decode cX7_firstFault 44 = .ok (.getfield 25, 3) := by decide +kernel
theorem dX7_firstFault_47 : decode cX7_firstFault 47 = .ok (.ireturn, 1) := by decide +kernel
theorem dX7_isWhole_0 : decode cX7_isWhole 0 = .ok (.aload_n 0, 1) := by decide +kernel
theorem dX7_isWhole_1 : decode cX7_isWhole 1 = .ok (.getfield 18, 3) := by decide +kernel
theorem dX7_isWhole_4 : decode cX7_isWhole 4 = .ok (.bipush 8, 2) := by decide +kernel
theorem dX7_isWhole_6 : decode cX7_isWhole 6 = .ok (.if_icmp .ne 7, 3) := by decide +kernel
theorem dX7_isWhole_9 : decode cX7_isWhole 9 = .ok (.iconst 1, 1) := by decide +kernel
theorem dX7_isWhole_10 : decode cX7_isWhole 10 = .ok (.goto 4, 3) := by decide +kernel
theorem dX7_isWhole_13 : decode cX7_isWhole 13 = .ok (.iconst 0, 1) := by decide +kernel
theorem dX7_isWhole_14 : decode cX7_isWhole 14 = .ok (.ireturn, 1) := by decide +kernel
theorem dX7_takes_0 : decode cX7_takes 0 = .ok (.aload_n 0, 1) := by decide +kernel
theorem dX7_takes_1 : decode cX7_takes 1 = .ok (.getfield 18, 3) := by decide +kernel
theorem dX7_takes_4 : decode cX7_takes 4 = .ok (.tableswitch 128 0 7 #[48, 57, 74, 86, 95, 101, 110, 119], 48) := by decide +kernel
theorem dX7_takes_52 : decode cX7_takes 52 = .ok (.aload_n 0, 1) := by decide +kernel
theorem dX7_takes_53 : decode cX7_takes 53 = .ok (.iload_n 1, 1) := by decide +kernel
theorem dX7_takes_54 : decode cX7_takes 54 = .ok (.invokestatic 38, 3) := by decide +kernel
theorem dX7_takes_57 : decode cX7_takes 57 = .ok (.invokevirtual 42, 3) := by decide +kernel
theorem dX7_takes_60 : decode cX7_takes 60 = .ok (.ireturn, 1) := by decide +kernel
theorem dX7_takes_61 : decode cX7_takes 61 = .ok (.aload_n 0, 1) := by decide +kernel
theorem dX7_takes_62 : decode cX7_takes 62 = .ok (.iload_n 1, 1) := by decide +kernel
theorem dX7_takes_63 : decode cX7_takes 63 = .ok (.bipush 59, 2) := by decide +kernel
theorem dX7_takes_65 : decode cX7_takes 65 = .ok (.if_icmp .ne 7, 3) := by decide +kernel
theorem dX7_takes_68 : decode cX7_takes 68 = .ok (.iconst 1, 1) := by decide +kernel
theorem dX7_takes_69 : decode cX7_takes 69 = .ok (.goto 4, 3) := by decide +kernel
theorem dX7_takes_72 : decode cX7_takes 72 = .ok (.iconst 0, 1) := by decide +kernel
theorem dX7_takes_73 : decode cX7_takes 73 = .ok (.iconst 2, 1) := by decide +kernel
theorem dX7_takes_74 : decode cX7_takes 74 = .ok (.invokevirtual 45, 3) := by decide +kernel
theorem dX7_takes_77 : decode cX7_takes 77 = .ok (.ireturn, 1) := by decide +kernel
theorem dX7_takes_78 : decode cX7_takes 78 = .ok (.aload_n 0, 1) := by decide +kernel
theorem dX7_takes_79 : decode cX7_takes 79 = .ok (.ldc 49, 2) := by decide +kernel
theorem dX7_takes_81 : decode cX7_takes 81 = .ok (.iload_n 1, 1) := by decide +kernel
theorem dX7_takes_82 : decode cX7_takes 82 = .ok (.i2c, 1) := by decide +kernel
theorem dX7_takes_83 : decode cX7_takes 83 = .ok (.invokevirtual 51, 3) := by decide +kernel
theorem dX7_takes_86 : decode cX7_takes 86 = .ok (.invokevirtual 56, 3) := by decide +kernel
theorem dX7_takes_89 : decode cX7_takes 89 = .ok (.ireturn, 1) := by decide +kernel
theorem dX7_takes_90 : decode cX7_takes 90 = .ok (.aload_n 0, 1) := by decide +kernel
theorem dX7_takes_91 : decode cX7_takes 91 = .ok (.iload_n 1, 1) := by decide +kernel
theorem dX7_takes_92 : decode cX7_takes 92 = .ok (.invokestatic 38, 3) := by decide +kernel
theorem dX7_takes_95 : decode cX7_takes 95 = .ok (.invokevirtual 59, 3) := by decide +kernel
theorem dX7_takes_98 : decode cX7_takes 98 = .ok (.ireturn, 1) := by decide +kernel
theorem dX7_takes_99 : decode cX7_takes 99 = .ok (.aload_n 0, 1) := by decide +kernel
theorem dX7_takes_100 : decode cX7_takes 100 = .ok (.iload_n 1, 1) := by decide +kernel
theorem dX7_takes_101 : decode cX7_takes 101 = .ok (.invokevirtual 62, 3) := by decide +kernel
theorem dX7_takes_104 : decode cX7_takes 104 = .ok (.ireturn, 1) := by decide +kernel
theorem dX7_takes_105 : decode cX7_takes 105 = .ok (.aload_n 0, 1) := by decide +kernel
theorem dX7_takes_106 : decode cX7_takes 106 = .ok (.iload_n 1, 1) := by decide +kernel
theorem dX7_takes_107 : decode cX7_takes 107 = .ok (.invokestatic 38, 3) := by decide +kernel
theorem dX7_takes_110 : decode cX7_takes 110 = .ok (.invokevirtual 65, 3) := by decide +kernel
theorem dX7_takes_113 : decode cX7_takes 113 = .ok (.ireturn, 1) := by decide +kernel
theorem dX7_takes_114 : decode cX7_takes 114 = .ok (.aload_n 0, 1) := by decide +kernel
theorem dX7_takes_115 : decode cX7_takes 115 = .ok (.iload_n 1, 1) := by decide +kernel
theorem dX7_takes_116 : decode cX7_takes 116 = .ok (.invokestatic 38, 3) := by decide +kernel
theorem dX7_takes_119 : decode cX7_takes 119 = .ok (.invokevirtual 68, 3) := by decide +kernel
theorem dX7_takes_122 : decode cX7_takes 122 = .ok (.ireturn, 1) := by decide +kernel
theorem dX7_takes_123 : decode cX7_takes 123 = .ok (.aload_n 0, 1) := by decide +kernel
theorem dX7_takes_124 : decode cX7_takes 124 = .ok (.iload_n 1, 1) := by decide +kernel
theorem dX7_takes_125 : decode cX7_takes 125 = .ok (.invokestatic 38, 3) := by decide +kernel
theorem dX7_takes_128 : decode cX7_takes 128 = .ok (.invokevirtual 71, 3) := by decide +kernel
theorem dX7_takes_131 : decode cX7_takes 131 = .ok (.ireturn, 1) := by decide +kernel
theorem dX7_takes_132 : decode cX7_takes 132 = .ok (.aload_n 0, 1) := by decide +kernel
theorem dX7_takes_133 : decode cX7_takes 133 = .ok (.iload_n 1, 1) := by decide +kernel
theorem dX7_takes_134 : decode cX7_takes 134 = .ok (.bipush 44, 2) := by decide +kernel
theorem dX7_takes_136 : decode cX7_takes 136 = .ok (.if_icmp .ne 19, 3) := by decide +kernel
theorem dX7_takes_139 : decode cX7_takes 139 = .ok (.aload_n 0, 1) := by decide +kernel
theorem dX7_takes_140 : decode cX7_takes 140 = .ok (.getfield 12, 3) := by decide +kernel
theorem dX7_takes_143 : decode cX7_takes 143 = .ok (.getfield 74, 3) := by decide +kernel
theorem dX7_takes_146 : decode cX7_takes 146 = .ok (.bipush 8, 2) := by decide +kernel
theorem dX7_takes_148 : decode cX7_takes 148 = .ok (.if_icmp .ge 7, 3) := by decide +kernel
theorem dX7_takes_151 : decode cX7_takes 151 = .ok (.iconst 1, 1) := by decide +kernel
theorem dX7_takes_152 : decode cX7_takes 152 = .ok (.goto 4, 3) := by decide +kernel
theorem dX7_takes_155 : decode cX7_takes 155 = .ok (.iconst 0, 1) := by decide +kernel
theorem dX7_takes_156 : decode cX7_takes 156 = .ok (.iconst 5, 1) := by decide +kernel
theorem dX7_takes_157 : decode cX7_takes 157 = .ok (.invokevirtual 45, 3) := by decide +kernel
theorem dX7_takes_160 : decode cX7_takes 160 = .ok (.ireturn, 1) := by decide +kernel
theorem dX7_goesOn_0 : decode cX7_goesOn 0 = .ok (.iload_n 1, 1) := by decide +kernel
theorem dX7_goesOn_1 : decode cX7_goesOn 1 = .ok (.ifCond .eq 8, 3) := by decide +kernel
theorem dX7_goesOn_4 : decode cX7_goesOn 4 = .ok (.aload_n 0, 1) := by decide +kernel
theorem dX7_goesOn_5 : decode cX7_goesOn 5 = .ok (.iload_n 2, 1) := by decide +kernel
theorem dX7_goesOn_6 : decode cX7_goesOn 6 = .ok (.putfield 18, 3) := by decide +kernel
theorem dX7_goesOn_9 : decode cX7_goesOn 9 = .ok (.iload_n 1, 1) := by decide +kernel
theorem dX7_goesOn_10 : decode cX7_goesOn 10 = .ok (.ireturn, 1) := by decide +kernel
theorem dX7_takesRoom_0 : decode cX7_takesRoom 0 = .ok (.aload_n 0, 1) := by decide +kernel
theorem dX7_takesRoom_1 : decode cX7_takesRoom 1 = .ok (.getfield 12, 3) := by decide +kernel
theorem dX7_takesRoom_4 : decode cX7_takesRoom 4 = .ok (.iload_n 1, 1) := by decide +kernel
theorem dX7_takesRoom_5 : decode cX7_takesRoom 5 = .ok (.putfield 77, 3) := by decide +kernel
theorem dX7_takesRoom_8 : decode cX7_takesRoom 8 = .ok (.aload_n 0, 1) := by decide +kernel
theorem dX7_takesRoom_9 : decode cX7_takesRoom 9 = .ok (.iload_n 1, 1) := by decide +kernel
theorem dX7_takesRoom_10 : decode cX7_takesRoom 10 = .ok (.invokestatic 80, 3) := by decide +kernel
theorem dX7_takesRoom_13 : decode cX7_takesRoom 13 = .ok (.iconst 1, 1) := by decide +kernel
theorem dX7_takesRoom_14 : decode cX7_takesRoom 14 = .ok (.invokevirtual 45, 3) := by decide +kernel
theorem dX7_takesRoom_17 : decode cX7_takesRoom 17 = .ok (.ireturn, 1) := by decide +kernel
theorem dX7_takesKind_0 : decode cX7_takesKind 0 = .ok (.iload_n 1, 1) := by decide +kernel
theorem dX7_takesKind_1 : decode cX7_takesKind 1 = .ok (.ifCond .lt 15, 3) := by decide +kernel
theorem dX7_takesKind_4 : decode cX7_takesKind 4 = .ok (.aload_n 0, 1) := by decide +kernel
theorem dX7_takesKind_5 : decode cX7_takesKind 5 = .ok (.getfield 12, 3) := by decide +kernel
theorem dX7_takesKind_8 : decode cX7_takesKind 8 = .ok (.getfield 83, 3) := by decide +kernel
theorem dX7_takesKind_11 : decode cX7_takesKind 11 = .ok (.bipush 6, 2) := by decide +kernel
theorem dX7_takesKind_13 : decode cX7_takesKind 13 = .ok (.if_icmp .lt 5, 3) := by decide +kernel
theorem dX7_takesKind_16 : decode cX7_takesKind 16 = .ok (.iconst 0, 1) := by decide +kernel
theorem dX7_takesKind_17 : decode cX7_takesKind 17 = .ok (.ireturn, 1) := by decide +kernel
theorem dX7_takesKind_18 : decode cX7_takesKind 18 = .ok (.aload_n 0, 1) := by decide +kernel
theorem dX7_takesKind_19 : decode cX7_takesKind 19 = .ok (.getfield 12, 3) := by decide +kernel
theorem dX7_takesKind_22 : decode cX7_takesKind 22 = .ok (.getfield 86, 3) := by decide +kernel
theorem dX7_takesKind_25 : decode cX7_takesKind 25 = .ok (.aload_n 0, 1) := by decide +kernel
theorem dX7_takesKind_26 : decode cX7_takesKind 26 = .ok (.getfield 12, 3) := by decide +kernel
theorem dX7_takesKind_29 : decode cX7_takesKind 29 = .ok (.getfield 83, 3) := by decide +kernel
theorem dX7_takesKind_32 : decode cX7_takesKind 32 = .ok (.iload_n 1, 1) := by decide +kernel
theorem dX7_takesKind_33 : decode cX7_takesKind 33 = .ok (.iastore, 1) := by decide +kernel
theorem dX7_takesKind_34 : decode cX7_takesKind 34 = .ok (.aload_n 0, 1) := by decide +kernel
theorem dX7_takesKind_35 : decode cX7_takesKind 35 = .ok (.iconst 3, 1) := by decide +kernel
theorem dX7_takesKind_36 : decode cX7_takesKind 36 = .ok (.putfield 18, 3) := by decide +kernel
theorem dX7_takesKind_39 : decode cX7_takesKind 39 = .ok (.iconst 1, 1) := by decide +kernel
theorem dX7_takesKind_40 : decode cX7_takesKind 40 = .ok (.ireturn, 1) := by decide +kernel
theorem dX7_takesWarm_0 : decode cX7_takesWarm 0 = .ok (.iload_n 1, 1) := by decide +kernel
